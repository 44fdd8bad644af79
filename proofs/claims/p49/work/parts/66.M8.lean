/-! rows on bits, shifts and unsigned numbers, to paste: each family out of a closed proof of our own, whole with what it rests on; each by itself clean at Lean in its own claim (generation 39, form 5). Take a family whole -/
/-! ===== Int32 by its bits: bt x i ===== -/
def bt (x : Int32) (i : Nat) : Bool := x.toBitVec.getLsbD i
theorem b_ext {x y : Int32} (h : ∀ i, i < 32 → bt x i = bt y i) : x = y := Int32.toBitVec_inj.mp (BitVec.eq_of_getLsbD_eq (fun i hi => h i hi))
theorem b_or (x y : Int32) (i : Nat) : bt (x ||| y) i = (bt x i || bt y i) := by unfold bt; rw [Int32.toBitVec_or, BitVec.getLsbD_or]
theorem b_and (x y : Int32) (i : Nat) : bt (x &&& y) i = (bt x i && bt y i) := by unfold bt; rw [Int32.toBitVec_and, BitVec.getLsbD_and]
theorem b_xor (x y : Int32) (i : Nat) : bt (x ^^^ y) i = (bt x i ^^ bt y i) := by unfold bt; rw [Int32.toBitVec_xor, BitVec.getLsbD_xor]
theorem b_big {x : Int32} {i : Nat} (h : 32 ≤ i) : bt x i = false := BitVec.getLsbD_of_ge _ _ h
theorem b_255 (i : Nat) : bt 255 i = decide (i < 8) := by
  rcases Nat.lt_or_ge i 32 with h | h
  · exact (by decide +kernel : ∀ i, i < 32 → bt 255 i = decide (i < 8)) i h
  · rw [b_big h, decide_eq_false (by omega)]
theorem b_65535 (i : Nat) : bt 65535 i = decide (i < 16) := by
  rcases Nat.lt_or_ge i 32 with h | h
  · exact (by decide +kernel : ∀ i, i < 32 → bt 65535 i = decide (i < 16)) i h
  · rw [b_big h, decide_eq_false (by omega)]
theorem b_m1 : ∀ i, i < 32 → bt (-1) i = true := by decide +kernel
theorem b_0 (i : Nat) : bt 0 i = false := BitVec.getLsbD_zero
theorem s_l : ∀ n, n < 32 → ((nI n &&& 31).toBitVec.smod 32).toNat = n := by decide +kernel
theorem s_u : ∀ n, n < 32 → (((nI n).toUInt32 &&& Int32.toUInt32 31).toBitVec % 32).toNat = n := by decide +kernel
theorem b_shl (n : Nat) (hn : n < 32) (x : Int32) {i : Nat} (hi : i < 32) : bt (x <<< (nI n &&& 31)) i = (decide (n ≤ i) && bt x (i - n)) := by
  unfold bt
  rw [Int32.toBitVec_shiftLeft]
  show (x.toBitVec <<< ((nI n &&& 31).toBitVec.smod 32).toNat).getLsbD i = _
  rw [s_l n hn, BitVec.getLsbD_shiftLeft]
  rcases Nat.lt_or_ge i n with h | h
  · simp [h, Nat.not_le.mpr h]
  · simp [hi, h, Nat.not_lt.mpr h]
theorem b_ushr (n : Nat) (hn : n < 32) (x : Int32) (i : Nat) : bt ((x.toUInt32 >>> ((nI n).toUInt32 &&& Int32.toUInt32 31)).toInt32) i = bt x (n + i) := by
  show (x.toUInt32 >>> ((nI n).toUInt32 &&& Int32.toUInt32 31)).toBitVec.getLsbD i = x.toUInt32.toBitVec.getLsbD (n + i)
  rw [UInt32.toBitVec_shiftRight]
  show (x.toUInt32.toBitVec >>> (((nI n).toUInt32 &&& Int32.toUInt32 31).toBitVec % 32).toNat).getLsbD i = _
  rw [s_u n hn, BitVec.getLsbD_ushiftRight]
theorem b_sshr (n : Nat) (hn : n < 32) (x : Int32) {i : Nat} (hi : i < 32) : bt (x >>> (nI n &&& 31)) i = if n + i < 32 then bt x (n + i) else bt x 31 := by
  unfold bt
  rw [Int32.toBitVec_shiftRight]
  show (x.toBitVec.sshiftRight ((nI n &&& 31).toBitVec.smod 32).toNat).getLsbD i = _
  rw [s_l n hn, BitVec.getLsbD_sshiftRight, BitVec.msb_eq_getLsbD_last]
  simp [hi]
theorem b_shl8 (x : Int32) {i : Nat} (hi : i < 32) : bt (x <<< ((8 : Int32) &&& 31)) i = (decide (8 ≤ i) && bt x (i - 8)) := b_shl 8 (by omega) x hi
theorem b_shl16 (x : Int32) {i : Nat} (hi : i < 32) : bt (x <<< ((16 : Int32) &&& 31)) i = (decide (16 ≤ i) && bt x (i - 16)) := b_shl 16 (by omega) x hi
theorem b_shl24 (x : Int32) {i : Nat} (hi : i < 32) : bt (x <<< ((24 : Int32) &&& 31)) i = (decide (24 ≤ i) && bt x (i - 24)) := b_shl 24 (by omega) x hi
/-! the setup that the law writes, fed and read -/
def dgs (n : Nat) : List Nat := if n < 10 then [48 + n] else if n < 100 then [48 + n / 10, 48 + n % 10] else [48 + n / 100, 48 + n / 10 % 10, 48 + n % 10]
def angN (a : Nat) : Nat := if a = 0 then 180 else if a = 1 then 90 else if a = 2 then 45 else if a = 3 then 60 else 30
def tx0 : List Nat := [97, 110, 103, 108, 101, 32]
def tx1 : List Nat := [32, 114, 97, 100, 105, 117, 115, 32]
def tx2 : List Nat := [59, 107, 101, 101, 112, 32]
def txt (a r k : Nat) : List Nat := tx0 ++ (dgs (angN a) ++ (tx1 ++ (dgs (1 + r) ++ (tx2 ++ (dgs (1 + k) ++ [59])))))
def lB (T : List Nat) (i : Nat) : Int32 := nI (T.getD i 0)
def wdB (B : Nat → Int32) (L t p : Nat) : Bool := decide (tkT B L p = 1) && (decide (tkE B L p - tkS B L p = (ksby t).length) && (List.range (ksby t).length).all (fun i => decide (B (tkS B L p + i) = ksch t (nI i))))
theorem wdB_iff {B : Nat → Int32} {L t p : Nat} : wdB B L t p = true ↔ WDt B L t p := by
  unfold wdB WDt
  rw [Bool.and_eq_true, Bool.and_eq_true, decide_eq_true_eq, decide_eq_true_eq, List.all_eq_true]
  constructor
  · rintro ⟨h1, h2, h3⟩
    exact ⟨h1, h2, fun i hi => of_decide_eq_true (h3 i (List.mem_range.mpr hi))⟩
  · rintro ⟨h1, h2, h3⟩
    exact ⟨h1, h2, fun i hi => decide_eq_true (h3 i (List.mem_range.mp hi))⟩
theorem wd_t {B : Nat → Int32} {L t p : Nat} (h : wdB B L t p = true) : dB (WDt B L t p) = true := dB_t (wdB_iff.1 h)
theorem wd_f {B : Nat → Int32} {L t p : Nat} (h : wdB B L t p = false) : dB (WDt B L t p) = false := dB_f (fun c => by rw [wdB_iff.2 c] at h; cases h)
/-- the tokens stand where they should -/
def ckT (B : Nat → Int32) (L : Nat) (A R K : Int32) (p2 p3 p4 p5 p6 p7 p8 : Nat) : Bool :=
  (decide (1 ≤ L) && (wdB B L 0 0 && decide (tkE B L 0 = 5))) &&
  ((decide (tkT B L 5 = 2) && (decide (tkV B L 5 = A) && decide (tkE B L 5 = p2))) &&
  ((wdB B L 1 p2 && decide (tkE B L p2 = p3)) &&
  ((decide (tkT B L p3 = 2) && (decide (tkV B L p3 = R) && decide (tkE B L p3 = p4))) &&
  ((decide (tkT B L p4 = 4) && decide (tkE B L p4 = p5)) &&
  (((decide (¬ tkT B L p5 = 0) && (!wdB B L 2 p5 && (!wdB B L 3 p5 && (!wdB B L 4 p5 && (!wdB B L 5 p5 && !wdB B L 6 p5))))) && (wdB B L 7 p5 && decide (tkE B L p5 = p6))) &&
  ((decide (tkT B L p6 = 2) && (decide (tkV B L p6 = K) && decide (tkE B L p6 = p7))) &&
  ((decide (tkT B L p7 = 4) && decide (tkE B L p7 = p8)) && decide (tkT B L p8 = 0))))))))
theorem ck_all {B : Nat → Int32} {L : Nat} {A R K : Int32} {p2 p3 p4 p5 p6 p7 p8 : Nat} (hA : fX7_isAngle A = true) (hR : fX7_isIn R 1 6 = true) (hK : fX7_isIn K 1 100 = true) (h : ckT B L A R K p2 p3 p4 p5 p6 p7 p8 = true) : gAll B L = .inl (vset (mNew A R) 3 K) := by
  unfold ckT at h
  simp only [Bool.and_eq_true, decide_eq_true_eq, Bool.not_eq_true'] at h
  obtain ⟨⟨a1, a2, a3⟩, ⟨b1, b2, b3⟩, ⟨c1, c2⟩, ⟨d1, d2, d3⟩, ⟨e1, e2⟩, ⟨⟨f1, f2, f3, f4, f5, f6⟩, f7, f8⟩, ⟨g1, g2, g3⟩, ⟨i1, i2⟩, j1⟩ := h
  obtain ⟨n, rfl⟩ : ∃ n, L = n + 1 := ⟨L - 1, by omega⟩
  unfold gAll gWd
  rw [if_pos (wd_t a2), pb_l, a3, if_pos b1, b2, if_pos hA, b3, if_pos (wd_t c1), pb_l, c2]
  unfold gNu
  rw [if_pos d1, d2, if_pos hR, pb_l]
  dsimp only
  rw [d3]
  unfold gTk
  rw [if_pos e1, pb_l, e2, gLp.eq_2, if_neg f1]
  have hkd : gKd B (n + 1) p5 = -1 := by
    unfold gKd
    rw [wd_f f2, wd_f f3, wd_f f4, wd_f f5]
    rfl
  unfold gSS gSt
  rw [if_pos hkd, wd_f f6, if_neg Bool.false_ne_true, if_pos (wd_t f7), f8]
  unfold gNu
  rw [if_pos g1, g2, if_pos hK, pb_l, pb_l]
  dsimp only
  rw [g3]
  unfold gTk
  rw [if_pos i1, pb_l, pb_l]
  dsimp only
  rw [i2, gLp.eq_2, if_pos j1]
def kdg (n : Nat) : Nat := if n < 10 then 1 else if n < 100 then 2 else 3
def ckA (a r k : Nat) : Bool := ckT (lB (txt a r k)) (22 + kdg (angN a) + kdg (1 + k)) (nI (angN a)) (nI (1 + r)) (nI (1 + k)) (6 + kdg (angN a)) (13 + kdg (angN a)) (15 + kdg (angN a)) (16 + kdg (angN a)) (20 + kdg (angN a)) (21 + kdg (angN a) + kdg (1 + k)) (22 + kdg (angN a) + kdg (1 + k))
theorem ck_00 : ∀ k, k < 100 → ckA 0 0 k = true := by decide +kernel
theorem ck_01 : ∀ k, k < 100 → ckA 0 1 k = true := by decide +kernel
theorem ck_02 : ∀ k, k < 100 → ckA 0 2 k = true := by decide +kernel
theorem ck_03 : ∀ k, k < 100 → ckA 0 3 k = true := by decide +kernel
theorem ck_10 : ∀ k, k < 100 → ckA 1 0 k = true := by decide +kernel
theorem ck_11 : ∀ k, k < 100 → ckA 1 1 k = true := by decide +kernel
theorem ck_12 : ∀ k, k < 100 → ckA 1 2 k = true := by decide +kernel
theorem ck_13 : ∀ k, k < 100 → ckA 1 3 k = true := by decide +kernel
theorem ck_20 : ∀ k, k < 100 → ckA 2 0 k = true := by decide +kernel
theorem ck_21 : ∀ k, k < 100 → ckA 2 1 k = true := by decide +kernel
theorem ck_22 : ∀ k, k < 100 → ckA 2 2 k = true := by decide +kernel
theorem ck_23 : ∀ k, k < 100 → ckA 2 3 k = true := by decide +kernel
theorem ck_30 : ∀ k, k < 100 → ckA 3 0 k = true := by decide +kernel
theorem ck_31 : ∀ k, k < 100 → ckA 3 1 k = true := by decide +kernel
theorem ck_32 : ∀ k, k < 100 → ckA 3 2 k = true := by decide +kernel
theorem ck_33 : ∀ k, k < 100 → ckA 3 3 k = true := by decide +kernel
theorem ck_40 : ∀ k, k < 100 → ckA 4 0 k = true := by decide +kernel
theorem ck_41 : ∀ k, k < 100 → ckA 4 1 k = true := by decide +kernel
theorem ck_42 : ∀ k, k < 100 → ckA 4 2 k = true := by decide +kernel
theorem ck_43 : ∀ k, k < 100 → ckA 4 3 k = true := by decide +kernel
theorem ck_fin (a : Nat) (ha : a < 5) (r : Nat) (hr : r < 4) : ∀ k, k < 100 → ckA a r k = true := by
  match a, ha with
  | 0, _ => match r, hr with
    | 0, _ => exact ck_00
    | 1, _ => exact ck_01
    | 2, _ => exact ck_02
    | 3, _ => exact ck_03
  | 1, _ => match r, hr with
    | 0, _ => exact ck_10
    | 1, _ => exact ck_11
    | 2, _ => exact ck_12
    | 3, _ => exact ck_13
  | 2, _ => match r, hr with
    | 0, _ => exact ck_20
    | 1, _ => exact ck_21
    | 2, _ => exact ck_22
    | 3, _ => exact ck_23
  | 3, _ => match r, hr with
    | 0, _ => exact ck_30
    | 1, _ => exact ck_31
    | 2, _ => exact ck_32
    | 3, _ => exact ck_33
  | 4, _ => match r, hr with
    | 0, _ => exact ck_40
    | 1, _ => exact ck_41
    | 2, _ => exact ck_42
    | 3, _ => exact ck_43
theorem len_fin : ∀ a, a < 5 → ∀ r, r < 4 → ∀ k, k < 100 → (txt a r k).length = 22 + kdg (angN a) + kdg (1 + k) := by decide +kernel
theorem txt_le : ∀ a, a < 5 → ∀ r, r < 4 → ∀ k, k < 100 → (txt a r k).length ≤ 28 ∧ (txt a r k).all (fun c => decide (c < 128)) = true := by decide +kernel
theorem ang_ok : ∀ a, a < 5 → fX7_isAngle (nI (angN a)) = true := by decide
/-- what the law's text says -/
theorem txt_all {a r k : Nat} (ha : a < 5) (hr : r < 4) (hk : k < 100) : gAll (lB (txt a r k)) (txt a r k).length = .inl (vset (mNew (nI (angN a)) (nI (1 + r))) 3 (nI (1 + k))) := by
  rw [len_fin a ha r hr k hk]
  exact ck_all (ang_ok a ha) (in_1 (H := 6) (hi := 6) rfl (by decide) (by omega) (by omega)) (in_1 (H := 100) (hi := 100) rfl (by decide) (by omega) (by omega)) (ck_fin a ha r hr k hk)
/-- a byte -/
def isB (b : Int32) : Prop := b &&& 255 = b
theorem bt_hi {b : Int32} (h : isB b) {j : Nat} (hj : 8 ≤ j) : bt b j = false := by
  rw [← h, b_and, b_255, decide_eq_false (by omega), Bool.and_false]
def sW (b0 b1 b2 b3 : Int32) : Int32 := (((((((0 : Int32) <<< ((8 : Int32) &&& 31)) ||| b0) <<< ((8 : Int32) &&& 31)) ||| b1) <<< ((8 : Int32) &&& 31)) ||| b2) <<< ((8 : Int32) &&& 31) ||| b3
theorem sW_bt {b0 b1 b2 b3 : Int32} (h1 : isB b1) (h2 : isB b2) (h3 : isB b3) {i : Nat} (hi : i < 8) : bt (sW b0 b1 b2 b3) (24 + i) = bt b0 i ∧ bt (sW b0 b1 b2 b3) (16 + i) = bt b1 i ∧ bt (sW b0 b1 b2 b3) (8 + i) = bt b2 i ∧ bt (sW b0 b1 b2 b3) i = bt b3 i := by
  unfold sW
  refine ⟨?_, ?_, ?_, ?_⟩
  · rw [b_or, b_shl8 _ (by omega), bt_hi h3 (by omega), Bool.or_false, decide_eq_true (by omega), Bool.true_and, b_or, b_shl8 _ (by omega), bt_hi h2 (by omega), Bool.or_false, decide_eq_true (by omega), Bool.true_and, b_or, b_shl8 _ (by omega), bt_hi h1 (by omega), Bool.or_false, decide_eq_true (by omega), Bool.true_and, b_or, b_shl8 _ (by omega), decide_eq_false (by omega), Bool.false_and, Bool.false_or]
    congr 1
    omega
  · rw [b_or, b_shl8 _ (by omega), bt_hi h3 (by omega), Bool.or_false, decide_eq_true (by omega), Bool.true_and, b_or, b_shl8 _ (by omega), bt_hi h2 (by omega), Bool.or_false, decide_eq_true (by omega), Bool.true_and, b_or, b_shl8 _ (by omega), decide_eq_false (by omega), Bool.false_and, Bool.false_or]
    congr 1
    omega
  · rw [b_or, b_shl8 _ (by omega), bt_hi h3 (by omega), Bool.or_false, decide_eq_true (by omega), Bool.true_and, b_or, b_shl8 _ (by omega), decide_eq_false (by omega), Bool.false_and, Bool.false_or]
    congr 1
    omega
  · rw [b_or, b_shl8 _ (by omega), decide_eq_false (by omega), Bool.false_and, Bool.false_or]
theorem byte_of {x b : Int32} (hb : isB b) (h : ∀ i, i < 8 → bt x i = bt b i) : x &&& 255 = b := by
  refine b_ext fun i hi => ?_
  rw [b_and, b_255]
  by_cases h8 : i < 8
  · rw [decide_eq_true h8, Bool.and_true, h i h8]
  · rw [decide_eq_false h8, Bool.and_false, bt_hi hb (by omega)]
theorem sW_ok {b0 b1 b2 b3 : Int32} (h0 : isB b0) (h1 : isB b1) (h2 : isB b2) (h3 : isB b3) : kushr (sW b0 b1 b2 b3) 24 &&& 255 = b0 ∧ kushr (sW b0 b1 b2 b3) 16 &&& 255 = b1 ∧ kushr (sW b0 b1 b2 b3) 8 &&& 255 = b2 ∧ sW b0 b1 b2 b3 &&& 255 = b3 := by
  refine ⟨byte_of h0 fun i hi => ?_, byte_of h1 fun i hi => ?_, byte_of h2 fun i hi => ?_, byte_of h3 fun i hi => (sW_bt h1 h2 h3 hi).2.2.2⟩
  · exact (b_ushr 24 (by omega) _ i).trans (sW_bt h1 h2 h3 hi).1
  · exact (b_ushr 16 (by omega) _ i).trans (sW_bt h1 h2 h3 hi).2.1
  · exact (b_ushr 8 (by omega) _ i).trans (sW_bt h1 h2 h3 hi).2.2.1
section M8
variable {σ τ ρ : Sto} {m : Vc} {ps : List Vc} {sh : KSh}
/-- what is fed behind the text's end: spaces -/
def tb (sh : KSh) (i : Nat) : Int32 := if (dyb sh).length ≤ i then 32 else kschz sh 9 (nI i)
/-- the buffer holds the first n letters -/
def FD (sh : KSh) (n : Nat) (σ : Sto) : Prop := σ 5 1 = nI n ∧ ∀ i, i < n → σ 6 i = tb sh i
def BX5 (σ τ : Sto) : Prop := ∀ p, p ≠ 5 → p ≠ 6 → τ p = σ p
theorem k_append {n : Nat} (hn : n + 4 ≤ 600) (h : FD sh n σ) (hb : ∀ i, isB (tb sh i)) : ∃ τ, fX6_appendText (sW (tb sh n) (tb sh (n + 1)) (tb sh (n + 2)) (tb sh (n + 3))) σ = some (0, nI (n + 4), τ) ∧ FD sh (n + 4) τ ∧ BX5 σ τ := by
  obtain ⟨w0, w1, w2, w3⟩ := sW_ok (hb n) (hb (n + 1)) (hb (n + 2)) (hb (n + 3))
  generalize sW (tb sh n) (tb sh (n + 1)) (tb sh (n + 2)) (tb sh (n + 3)) = a at w0 w1 w2 w3
  have e4 : nI n + 4 = nI (n + 4) := nI_addn n 4
  have hle : ¬ (600 : Int32) < nI (n + 4) := fun c => by have := (dI_lt (a := 600) (by omega) (by omega)).1 c; omega
  obtain ⟨τ1, a1, a2, a3, a4, a5⟩ := c_addT h.1 (show n < 600 by omega) (v := kushr a 24)
  obtain ⟨τ2, b1, b2, b3, b4, b5⟩ := c_addT a2 (show n + 1 < 600 by omega) (v := kushr a 16)
  obtain ⟨τ3, c1, c2, c3, c4, c5⟩ := c_addT b2 (show n + 2 < 600 by omega) (v := kushr a 8)
  obtain ⟨τ4, d1, d2, d3, d4, d5⟩ := c_addT c2 (show n + 3 < 600 by omega) (v := a)
  refine ⟨τ4, ?_, ⟨d2, fun i hi => ?_⟩, fun p p1 p2 => by rw [d5 p p1 p2, c5 p p1 p2, b5 p p1 p2, a5 p p1 p2]⟩
  · unfold fX6_appendText fX4_hasRoom
    rw [h.1, e4, if_neg hle, if_pos rfl, a1, Option.bind_some, b1, Option.bind_some, c1, Option.bind_some, d1, Option.bind_some, d2]
  · rw [d3, c3, b3, a3, w0, w1, w2, w3]
    by_cases i3 : i = n + 3
    · subst i3; rw [vset_eq]
    · rw [vset_ne i3]
      by_cases i2 : i = n + 2
      · subst i2; rw [vset_eq]
      · rw [vset_ne i2]
        by_cases i1 : i = n + 1
        · subst i1; rw [vset_eq]
        · rw [vset_ne i1]
          by_cases i0 : i = n
          · subst i0; rw [vset_eq]
          · rw [vset_ne i0]
            exact h.2 i (by omega)
theorem f_22 {K8 : Int32 → Sto → Option Sto} {fu K i : Nat} {v : Int32} (hK : K < 1000) (hi : i < K + 4) (hd : (dyb sh).length < 1000) : fL_feed_L22 sh K8 (fu + 1) (nI K) v (nI i) σ = fL_feed_L22 sh K8 fu (nI K) ((v <<< ((8 : Int32) &&& 31)) ||| tb sh i) (nI (i + 1)) σ := by
  have e4 : nI K + 4 = nI (K + 4) := nI_addn K 4
  rw [fL_feed_L22.eq_2, e4, if_neg (fun c => by have := (dI_le (by omega) (by omega)).1 c; omega)]
  unfold fL_feed_L55 tb
  rw [nI_add1]
  by_cases h : (dyb sh).length ≤ i
  · rw [if_pos ((dI_le (by omega) (by omega)).2 h), if_pos h]
  · rw [if_neg (fun c => h ((dI_le (by omega) (by omega)).1 c)), if_neg h, if_pos (kin_nI (by omega) (by omega))]
theorem f_8 (hd : (dyb sh).length ≤ 100) (hb : ∀ i, isB (tb sh i)) (n : Nat) : ∀ (K fu : Nat) (τ : Sto), (dyb sh).length ≤ K + n → K ≤ 104 → n < fu → FD sh K τ → ∃ ρ, fL_feed_L8 sh fu (nI K) τ = some ρ ∧ FD sh (dyb sh).length ρ ∧ BX5 τ ρ := by
  have stop : ∀ (K fu : Nat) (τ : Sto), (dyb sh).length ≤ K → K ≤ 104 → FD sh K τ → ∃ ρ, fL_feed_L8 sh (fu + 1) (nI K) τ = some ρ ∧ FD sh (dyb sh).length ρ ∧ BX5 τ ρ := by
    intro K fu τ hK hK2 hF
    refine ⟨su τ 5 1 (nI (dyb sh).length), ?_, ⟨su_eq, fun i hi => by rw [su_k (by decide)]; exact hF.2 i (by omega)⟩, fun p p1 _ => su_k p1⟩
    rw [fL_feed_L8.eq_2, if_pos ((dI_le (by omega) (by omega)).2 hK)]
    unfold fX6_truncateText
    rw [hF.1, k_r0 (H := nI K) (hi := K) rfl (by omega) hK, Option.bind_some, if_pos rfl, klet_eq, Option.bind_some, if_pos rfl]
  induction n with
  | zero =>
    intro K fu τ h1 h2 hf hF
    obtain ⟨fu, rfl⟩ : ∃ k, fu = k + 1 := ⟨fu - 1, by omega⟩
    exact stop K fu τ (by omega) h2 hF
  | succ n ih =>
    intro K fu τ h1 h2 hf hF
    obtain ⟨fu, rfl⟩ : ∃ k, fu = k + 1 := ⟨fu - 1, by omega⟩
    by_cases hK : (dyb sh).length ≤ K
    · exact stop K fu τ hK h2 hF
    · obtain ⟨τ1, e1, hF1, x1⟩ := k_append (sh := sh) (n := K) (by omega) hF hb
      obtain ⟨ρ, e2, hF2, x2⟩ := ih (K + 4) fu τ1 (by omega) (by omega) (by omega) hF1
      refine ⟨ρ, ?_, hF2, fun p p1 p2 => by rw [x2 p p1 p2, x1 p p1 p2]⟩
      have e4 : nI K + 4 = nI (K + 4) := nI_addn K 4
      rw [fL_feed_L8.eq_2, if_neg (fun c => hK ((dI_le (by omega) (by omega)).1 c)), show kFU = 3999995 + 1 + 1 + 1 + 1 + 1 from rfl, f_22 (by omega) (by omega) (by omega), f_22 (by omega) (by omega) (by omega), f_22 (by omega) (by omega) (by omega), f_22 (by omega) (by omega) (by omega), fL_feed_L22.eq_2, e4, if_pos ((dI_le (by omega) (by omega)).2 (by omega))]
      have e9 : fX6_appendText ((((((((0 : Int32) <<< ((8 : Int32) &&& 31)) ||| tb sh K) <<< ((8 : Int32) &&& 31)) ||| tb sh (K + 1)) <<< ((8 : Int32) &&& 31)) ||| tb sh (K + 1 + 1)) <<< ((8 : Int32) &&& 31) ||| tb sh (K + 1 + 1 + 1)) τ = _ := e1
      rw [e9, Option.bind_some, if_pos rfl]
      exact e2
theorem k_feed (hd : (dyb sh).length ≤ 100) (hb : ∀ i, isB (tb sh i)) {L0 : Nat} (hL0 : L0 < 1000) (h0 : σ 5 1 = nI L0) : ∃ ρ, fL_feed sh σ = some ρ ∧ FD sh (dyb sh).length ρ ∧ BX5 σ ρ := by
  obtain ⟨ρ, e1, hF, x1⟩ := f_8 hd hb (dyb sh).length 0 kFU (su σ 5 1 0) (by omega) (by omega) (by unfold kFU; omega) ⟨su_eq, fun i hi => by omega⟩
  refine ⟨ρ, ?_, hF, fun p p1 p2 => by rw [x1 p p1 p2, su_k p1]⟩
  unfold fL_feed fX6_truncateText
  have e0 : fX6_needRange 0 0 (nI L0) σ = some 0 := k_r0 (k := 0) (H := nI L0) (hi := L0) rfl (by omega) (by omega)
  rw [h0, e0, Option.bind_some, if_pos rfl, klet_eq, Option.bind_some, if_pos rfl]
  exact e1
/-- the text of the shape -/
def TXT (sh : KSh) (T : List Nat) : Prop := dyb sh = T.map Int32.ofNat
theorem ch_fin : ∀ c, c < 128 → ((Int32.ofNat c &&& 255).toUInt32 % 65536).toInt32 = nI c ∧ nI c &&& 255 = nI c ∧ 0 ≤ nI c ∧ nI c ≤ 255 := by decide +kernel
theorem tb_txt {T : List Nat} (h : TXT sh T) (hT : T.length ≤ 100) (hc : ∀ c, c ∈ T → c < 128) {i : Nat} (hi : i < T.length) : tb sh i = nI (T.getD i 0) := by
  have hl : (dyb sh).length = T.length := by rw [h, List.length_map]
  unfold tb
  rw [if_neg (by omega)]
  unfold kschz ksbz
  rw [if_neg (by omega), h, nI_n (by omega), List.getD_eq_getElem?_getD, List.getElem?_map, List.getElem?_eq_getElem hi, List.getD_eq_getElem?_getD, List.getElem?_eq_getElem hi]
  exact (ch_fin _ (hc _ (List.getElem_mem hi))).1
theorem tb_isB {T : List Nat} (h : TXT sh T) (hT : T.length ≤ 100) (hc : ∀ c, c ∈ T → c < 128) (i : Nat) : isB (tb sh i) := by
  by_cases hi : i < T.length
  · rw [tb_txt h hT hc hi]
    rw [List.getD_eq_getElem?_getD, List.getElem?_eq_getElem hi]
    exact (ch_fin _ (hc _ (List.getElem_mem hi))).2.1
  · have hl : (dyb sh).length = T.length := by rw [h, List.length_map]
    unfold tb
    rw [if_pos (by omega)]
    unfold isB
    decide
/-- load, of a text that says m' -/
theorem k_load {T : List Nat} {m' : Vc} (h : TXT sh T) (hT : T.length ≤ 100) (hc : ∀ c, c ∈ T → c < 128) (hF : FD sh T.length σ) (hR : RG ps σ) (hG : gAll (lB T) T.length = .inl m') : ∃ τ, fX6_load σ = some (nI (mN m'), τ) ∧ INV m' [] τ ∧ AX σ τ := by
  have hb : ∀ i, i < T.length → lB T i = tb sh i := fun i hi => (tb_txt h hT hc hi).symm
  have hB : BY (lB T) T.length := fun i hi => by
    unfold lB
    rw [List.getD_eq_getElem?_getD, List.getElem?_eq_getElem hi]
    exact (ch_fin _ (hc _ (List.getElem_mem hi))).2.2
  have hTC : TC (lB T) T.length σ := ⟨by omega, hF.1, fun i hi => by rw [hF.2 i hi, hb i hi]⟩
  obtain ⟨b, ρ, e1, hP, hK⟩ := c_read hB hTC
  obtain ⟨eb, bx', ok', -, -, -⟩ := hK.1 m' hG
  subst eb
  have rp : ∀ p, p ≠ 5 → (p < 34 ∨ 42 < p) → su ρ 5 1 0 p = σ p := fun p h1 h2 => by rw [su_k h1, hP p h1 h2]
  obtain ⟨τ, e2, g1, g2⟩ := c_copy (σ := su ρ 5 1 0) (b0 := 25) (b1 := 34) (by omega) ok' (bx_frame bx' (fun p h1 h2 => su_k (by omega)))
  obtain ⟨e, ⟨e8, u8⟩, ⟨b4, b3⟩, -⟩ := hR
  refine ⟨su τ 0 4 0, ?_, ⟨⟨ok', bx_frame g1 (fun p x y => su_k (by omega))⟩, e, ⟨e8, by decide⟩, ⟨su_eq, by rw [su_i (by decide), g2 0 (by omega), rp 0 (by decide) (by omega), b3]⟩, fun j p hp => by cases hp⟩, fun p hp => by rw [su_k (by omega), g2 p (by omega), rp p (by omega) (by omega)]⟩
  have h58 : su τ 0 4 0 25 8 = nI (mN m') := by rw [su_k (by decide), bx8 g1, came_eq ok']
  unfold fX6_load
  rw [e1, Option.bind_some, klet_eq, if_pos rfl, e2, Option.bind_some, klet_eq, h58]
end M8
