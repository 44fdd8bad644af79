/-! the pure store: places (numbers) in the addresses' stead; a cell at a place is a row of ints; what a field that refers holds is fixed by its place -/
abbrev Sto : Type := Nat → Nat → Int32
def su (σ : Sto) (k i : Nat) (v : Int32) : Sto := fun a b => if a = k then (if b = i then v else σ a b) else σ a b
def sur (σ : Sto) (k : Nat) (f : Nat → Int32) : Sto := fun a b => if a = k then f b else σ a b
abbrev KE : Type := va_G × (Nat → Nat) × (Nat → ClassId)
/-- what stands at a place: an object of class ci, or an array: (0: int, 1: boolean, 2: long, else: States from that place on, nine places each; its length) -/
def kshl : List (Nat ⊕ (Nat × Nat)) := [.inl 6, .inr (43, 8), .inr (115, 2), .inr (1, 2), .inr (0, 6), .inl 4, .inr (0, 600), .inl 3, .inr (0, 225), .inr (0, 225), .inr (0, 225), .inr (0, 10), .inr (1, 225), .inr (0, 225), .inl 3, .inr (0, 225), .inr (0, 225), .inr (0, 225), .inr (0, 10), .inr (1, 225), .inr (0, 225), .inl 0, .inr (0, 30), .inl 2, .inr (0, 225), .inl 5, .inl 1, .inr (0, 225), .inr (0, 30), .inr (0, 30), .inr (0, 30), .inr (0, 30), .inr (0, 30), .inr (0, 225), .inl 5, .inl 1, .inr (0, 225), .inr (0, 30), .inr (0, 30), .inr (0, 30), .inr (0, 30), .inr (0, 30), .inr (0, 225), .inl 5, .inl 1, .inr (0, 225), .inr (0, 30), .inr (0, 30), .inr (0, 30), .inr (0, 30), .inr (0, 30), .inr (0, 225), .inl 5, .inl 1, .inr (0, 225), .inr (0, 30), .inr (0, 30), .inr (0, 30), .inr (0, 30), .inr (0, 30), .inr (0, 225), .inl 5, .inl 1, .inr (0, 225), .inr (0, 30), .inr (0, 30), .inr (0, 30), .inr (0, 30), .inr (0, 30), .inr (0, 225), .inl 5, .inl 1, .inr (0, 225), .inr (0, 30), .inr (0, 30), .inr (0, 30), .inr (0, 30), .inr (0, 30), .inr (0, 225), .inl 5, .inl 1, .inr (0, 225), .inr (0, 30), .inr (0, 30), .inr (0, 30), .inr (0, 30), .inr (0, 30), .inr (0, 225), .inl 5, .inl 1, .inr (0, 225), .inr (0, 30), .inr (0, 30), .inr (0, 30), .inr (0, 30), .inr (0, 30), .inr (0, 225), .inl 5, .inl 1, .inr (0, 225), .inr (0, 30), .inr (0, 30), .inr (0, 30), .inr (0, 30), .inr (0, 30), .inr (0, 225), .inl 5, .inl 1, .inr (0, 225), .inr (0, 30), .inr (0, 30), .inr (0, 30), .inr (0, 30), .inr (0, 30), .inr (0, 225), .inl 5, .inl 1, .inr (0, 225), .inr (0, 30), .inr (0, 30), .inr (0, 30), .inr (0, 30), .inr (0, 30), .inr (0, 225), .inl 5, .inl 1, .inr (0, 225), .inr (0, 30), .inr (0, 30), .inr (0, 30), .inr (0, 30), .inr (0, 30), .inr (0, 225), .inl 7]
def ksh (k : Nat) : Nat ⊕ (Nat × Nat) := kshl.getD k (.inr (2, 0))
/-- how far ahead the thing stands to which a field refers -/
def kpol : List (List (Option Nat)) := [[some 1, none], [none, none, none, some 1], [some 1, none], [some 1, some 2, some 3, some 4, some 5, some 6], [some 1, none, none, none, none, none, none, none], [some 1, none, none, none, none, none, none, none, none, some 3, some 4, some 5, some 6, some 7, some 8], [some 25, some 34, some 1, none, none, some 2, some 3, some 4, some 5, some 7, some 14, some 21, some 23], [some 2967, none]]
def kpo (ci i : Nat) : Option Nat := (kpol.getD ci []).getD i none
def knf (ci : Nat) : Nat := (kpol.getD ci []).length
abbrev kNP : Nat := 135
def kfv (E : KE) (σ : Sto) (p ci i : Nat) : Value := match kpo ci i with
  | some d => .ref (E.2.1 (p + d))
  | none => .int (σ p i)
abbrev KSh : Type := Nat → Nat ⊕ (Nat × Nat)
def kce (E : KE) (sh : KSh) (σ : Sto) (p : Nat) : va_E := match sh p with
  | .inl ci => .inr (ci, (List.range (knf ci)).map (kfv E σ p ci))
  | .inr (0, n) => .inl (E.2.2 0, n, .inl (σ p))
  | .inr (1, n) => .inl (E.2.2 1, n, .inl (σ p))
  | .inr (2, n) => .inl (E.2.2 2, n, .inr (.inl (fun j => (σ p j).toInt64)))
  | .inr (b, n) => .inl (E.2.2 3, n, .inr (.inr (.inr (.inr (fun j => some (E.2.1 (b + 9 * j)))))))
/-- the places where something stands -/
def kpl (sh : KSh) : List Nat := (List.range kNP).filter (fun k => decide (sh k ≠ .inr (2, 0)))
def kwl (E : KE) (sh : KSh) (σ : Sto) : va_W := (kpl sh).map (fun k => (E.2.1 k, kce E sh σ k))
def kty (E : KE) : List (ClassId × FieldType) := [(E.2.2 0, .int), (E.2.2 1, .boolean), (E.2.2 2, .int), (E.2.2 3, .object "KaleidoscopeBox$State")]
theorem kce_o {E : KE} {sh : KSh} {σ : Sto} {q ci : Nat} (h : sh q = .inl ci) : kce E sh σ q = .inr (ci, (List.range (knf ci)).map (kfv E σ q ci)) := by unfold kce; rw [h]
theorem kce_i {E : KE} {sh : KSh} {σ : Sto} {q n : Nat} (h : sh q = .inr (0, n)) : kce E sh σ q = .inl (E.2.2 0, n, .inl (σ q)) := by unfold kce; rw [h]; rfl
theorem kce_z {E : KE} {sh : KSh} {σ : Sto} {q n : Nat} (h : sh q = .inr (1, n)) : kce E sh σ q = .inl (E.2.2 1, n, .inl (σ q)) := by unfold kce; rw [h]; rfl
theorem kce_l {E : KE} {sh : KSh} {σ : Sto} {q n : Nat} (h : sh q = .inr (2, n)) : kce E sh σ q = .inl (E.2.2 2, n, .inr (.inl (fun j => (σ q j).toInt64))) := by unfold kce; rw [h]; rfl
theorem kce_s {E : KE} {sh : KSh} {σ : Sto} {q b n : Nat} (h : sh q = .inr (b + 3, n)) : kce E sh σ q = .inl (E.2.2 3, n, .inr (.inr (.inr (.inr (fun j => some (E.2.1 (b + 3 + 9 * j))))))) := by unfold kce; rw [h]; rfl
theorem kfv_congr {E : KE} {σ σ' : Sto} {p ci i : Nat} (h : σ' p = σ p) : kfv E σ' p ci i = kfv E σ p ci i := by unfold kfv; rw [h]
theorem kce_congr {E : KE} {sh : KSh} {σ σ' : Sto} {p : Nat} (h : σ' p = σ p) : kce E sh σ' p = kce E sh σ p := by
  have h2 : kfv E σ' p = kfv E σ p := by funext ci i; exact kfv_congr h
  unfold kce
  rw [h, h2]
theorem kpl_in {sh : KSh} {q : Nat} (hq : q < kNP) (h : sh q ≠ .inr (2, 0)) : q ∈ kpl sh := List.mem_filter.mpr ⟨List.mem_range.mpr hq, decide_eq_true h⟩
theorem kpl_nd (sh : KSh) : (kpl sh).Nodup := List.Pairwise.filter _ List.nodup_range
/-- a place's cell lies in the world; a world with that cell set -/
theorem kwl_at {E : KE} {sh : KSh} (σ : Sto) {q : Nat} (hq : q ∈ kpl sh) : ∃ j, (kwl E sh σ)[j]? = some (E.2.1 q, kce E sh σ q) ∧ ∀ (σ' : Sto) (e : va_E), kce E sh σ' q = e → (∀ p, p ≠ q → σ' p = σ p) → (kwl E sh σ).set j (E.2.1 q, e) = kwl E sh σ' := by
  obtain ⟨j, hj⟩ := List.getElem?_of_mem hq
  refine ⟨j, by unfold kwl; rw [List.getElem?_map, hj]; rfl, fun σ' e he ho => ?_⟩
  have hl : j < (kpl sh).length := (List.getElem?_eq_some_iff.mp hj).1
  refine List.ext_getElem? fun i => ?_
  by_cases hi : i = j
  · subst hi
    rw [List.getElem?_set_self (by unfold kwl; rw [List.length_map]; exact hl)]
    unfold kwl
    rw [List.getElem?_map, hj, ← he]
    rfl
  · rw [List.getElem?_set_ne (Ne.symm hi)]
    unfold kwl
    rw [List.getElem?_map, List.getElem?_map]
    cases hp : (kpl sh)[i]? with
    | none => rfl
    | some p =>
      have hpq : p ≠ q := by
        intro e9
        subst e9
        have hli : i < (kpl sh).length := (List.getElem?_eq_some_iff.mp hp).1
        exact hi ((List.getElem?_inj hli (kpl_nd sh)).mp (hp.trans hj.symm))
      show some (E.2.1 p, kce E sh σ p) = some (E.2.1 p, kce E sh σ' p)
      rw [kce_congr (ho p hpq)]
theorem su_o {σ : Sto} {k i : Nat} {v : Int32} : ∀ j, j ≠ k → su σ k i v j = σ j := fun j h => by funext b; unfold su; rw [if_neg h]
theorem su_s {σ : Sto} {k i : Nat} {v : Int32} : su σ k i v k = upd (σ k) i v := by funext b; unfold su upd; rw [if_pos rfl]
theorem sur_o {σ : Sto} {k : Nat} {f : Nat → Int32} : ∀ j, j ≠ k → sur σ k f j = σ j := fun j h => by funext b; unfold sur; rw [if_neg h]
theorem sur_s {σ : Sto} {k : Nat} {f : Nat → Int32} : sur σ k f k = f := by funext b; unfold sur; rw [if_pos rfl]
theorem kce_set {E : KE} {sh : KSh} {σ : Sto} {q ci i : Nat} {v : Int32} (h : sh q = .inl ci) (hp : kpo ci i = none) : kce E sh (su σ q i v) q = .inr (ci, ((List.range (knf ci)).map (kfv E σ q ci)).set i (.int v)) := by
  rw [kce_o h]
  refine congrArg (fun l => Sum.inr (ci, l)) ?_
  refine List.ext_getElem? fun j => ?_
  rw [List.getElem?_map]
  by_cases hj : j = i
  · subst hj
    rcases Nat.lt_or_ge j (knf ci) with h1 | h1
    · rw [List.getElem?_set_self (by rw [List.length_map, List.length_range]; exact h1), List.getElem?_range h1]
      show some (kfv E _ q ci j) = _
      unfold kfv
      rw [hp]
      simp [su]
    · rw [List.getElem?_eq_none (by rw [List.length_range]; exact h1), List.getElem?_eq_none (by rw [List.length_set, List.length_map, List.length_range]; exact h1)]
      rfl
  · rw [List.getElem?_set_ne (Ne.symm hj), List.getElem?_map]
    rcases Nat.lt_or_ge j (knf ci) with h1 | h1
    · rw [List.getElem?_range h1]
      show some (kfv E _ q ci j) = some (kfv E _ q ci j)
      unfold kfv
      cases kpo ci j with
      | some d => rfl
      | none => simp [su, hj]
    · rw [List.getElem?_eq_none (by rw [List.length_range]; exact h1)]
      rfl
/-- a static that holds null or some object, nobody asks which (.null stands for it) -/
def ksf (E : KE) : Value := if E.2.1 3001 = 0 then .null else .ref (E.2.1 3000)
def kmv (E : KE) : Value → Value
  | .ref k => .ref (E.2.1 k)
  | .null => ksf E
  | v => v
theorem kmv_cat (E : KE) (v : Value) : (kmv E v).category = v.category := by
  cases v <;> first | rfl | (show (ksf E).category = 1; unfold ksf; split <;> rfl)
/-- statics that nobody writes: four tables, what a throw reads, the texts -/
def kstn (j : Nat) : String := ["SQUARE_X", "SQUARE_Y", "HEXAGON_X", "HEXAGON_Y"].getD j ""
def kstv : List (List Int32) := [[1, 1, 0, -1, -1, -1, 0, 1], [0, 1, 1, 1, 0, -1, -1, -1], [1, 0, -1, -1, 0, 1], [0, 1, 1, 0, -1, -1]]
def kstl (j : Nat) : Nat := (kstv.getD j []).length
def kstr : List (String × Nat × String) := [(RX4, 45, "angle"), (RX4, 62, "radius"), (RX4, 100, "glass"), (RX4, 102, "bead"), (RX4, 104, "bubble"), (RX4, 106, "pin"), (RX4, 82, "down"), (RX4, 90, "keep"), (RX4, 95, "cover")]
def ksby (j : Nat) : List Int32 := ([[97, 110, 103, 108, 101], [114, 97, 100, 105, 117, 115], [103, 108, 97, 115, 115], [98, 101, 97, 100], [98, 117, 98, 98, 108, 101], [112, 105, 110], [100, 111, 119, 110], [107, 101, 101, 112], [99, 111, 118, 101, 114]] : List (List Int32)).getD (j % 9) []
/-- beyond the places the shape tells numbers: the script (5000: its length; 5001 on: its ints), a text that the law made (4000: one more than its length; 4001 on: its letters) -/
def nsh (sh : KSh) (q : Nat) : Nat := match sh q with | .inr (2, n) => n | _ => 0
def scl (sh : KSh) : Nat := nsh sh 5000
def scx (sh : KSh) (i : Nat) : Int32 := Int32.ofBitVec (BitVec.ofNat 32 (nsh sh (5001 + i)))
def dyb (sh : KSh) : List Int32 := (List.range (nsh sh 4000 - 1)).map (fun i => Int32.ofNat (nsh sh (4001 + i)))
def ktx (sh : KSh) (t : Nat) : Bool := decide (t < 9) || (decide (t = 9) && (decide (0 < nsh sh 4000) && decide (nsh sh 4000 ≤ 100)))
def ksbz (sh : KSh) (t : Nat) : List Int32 := if t < 9 then ksby t else dyb sh
theorem ktx_lt {sh : KSh} {t : Nat} (h : t < 9) : ktx sh t = true := by unfold ktx; rw [decide_eq_true h]; rfl
theorem ksbz_lt {sh : KSh} {t : Nat} (h : t < 9) : ksbz sh t = ksby t := if_pos h
def KSS (E : KE) (sh : KSh) (A : Nat → Prop) (U : State) (H : Heap) (j : Nat) : Prop :=
  va_O "java/lang/String" (E.2.1 (2000 + j)) A U H ∧ va_OF "java/lang/String" "coder" "B" (.int 0) (E.2.1 (2000 + j)) A U H ∧ va_OF "java/lang/String" "value" "[B" (.ref (E.2.1 (2100 + j))) (E.2.1 (2000 + j)) A U H ∧ va_T .byte (E.2.1 (2100 + j)) (ksbz sh j).length (fun i => .int ((ksbz sh j).getD i 0)) A U H ∧ ∀ r, kstr[j]? = some r → vk_R r.1 r.2.1 r.2.2 (E.2.1 (2000 + j)) U
/-- what a throw asks of the tables, the three classes of exceptions -/
abbrev knm : List String := ["java/lang/RuntimeException", "java/lang/Exception"]
def kbt : List Cond := vx_at0 RX6 327 "java/lang/IllegalArgumentException" knm ++ (vx_at0 RX6 71 "java/lang/IllegalStateException" knm ++ vx_at0 RX6 245 "java/lang/IndexOutOfBoundsException" knm)
theorem kbt_ok : kbt.all (fun w => w.onTables && w.keepsFace) = true := by decide +kernel
theorem kbt_in : kbt.all (fun w => decide (w ∈ lw_tbl)) = true := by decide +kernel
theorem kbt_moved {w : Cond} (hw : w ∈ kbt) {u U : State} (hW : u.WarmedH U.vm) (h : w.before #[] u = true) : w.before #[] U = true := by
  have h0 := List.all_eq_true.mp kbt_ok w hw
  simp only [Bool.and_eq_true] at h0
  exact va_tabs h0.1 (rfl : (u.setVm U.vm).vm = U.vm) (Cond.before_shiftedFace (State.Shifted.of_warmed hW) w h0.2 h)
def KST (E : KE) (sh : KSh) (A : Nat → Prop) (U : State) (H : Heap) : Prop :=
  (∀ j, j < 4 → va_Z RX1 (kstn j) "[I" (.ref (E.2.1 (1000 + j))) A U H ∧ va_T .int (E.2.1 (1000 + j)) (kstl j) (fun i => .int ((kstv.getD j []).getD i 0)) A U H) ∧
  vx_Zq Bundle.tN "UNASSIGNED_STACK" Bundle.steD A U H ∧ vx_Zq Bundle.tN "SUPPRESSED_SENTINEL" Bundle.listD A U H ∧
  va_Z "java/lang/String" "COMPACT_STRINGS" "Z" (.int 1) A U H ∧ va_Z "jdk/internal/util/Preconditions" "SIOOBE_FORMATTER" "Ljava/util/function/BiFunction;" (ksf E) A U H ∧
  (∀ j, ktx sh j = true → KSS E sh A U H j) ∧ (∀ w ∈ kbt, w.before #[] U = true) ∧ va_T .int (E.2.1 3100) (scl sh) (fun i => .int (scx sh i)) A U H ∧ va_Nw (.methodLinkNest RX7 17 yL_pick "KaleidoscopeBoxLaw") U
theorem KST.moved {E : KE} {sh : KSh} {A : Nat → Prop} {u U : State} {H : Heap} (hW : u.WarmedH U.vm) (h : KST E sh A u H) : KST E sh A U H := by
  have hvm : u.vm.Alike U.vm := hW.alike
  obtain ⟨h1, h2, h3, h4, h5, h6, h7, h8, h9⟩ := h
  exact ⟨fun j hj => ⟨va_Z.moved hvm (h1 j hj).1, va_T.moved hvm (h1 j hj).2⟩, vx_Zq.moved hvm h2, vx_Zq.moved hvm h3, va_Z.moved hvm h4, va_Z.moved hvm h5,
    fun j hj => ⟨va_O.moved hvm (h6 j hj).1, va_OF.moved hvm (h6 j hj).2.1, va_OF.moved hvm (h6 j hj).2.2.1, va_T.moved hvm (h6 j hj).2.2.2.1, fun r hr => vk_R.warm hW ((h6 j hj).2.2.2.2 r hr)⟩, fun w hw => kbt_moved hw hW (h7 w hw), va_T.moved hvm h8, va_Nw.warmM hW h9⟩
theorem KST.kept {E : KE} {sh : KSh} {A : Nat → Prop} {U : State} {H H1 : Heap} (h : KST E sh A U H) (hq : ∀ a : Nat, a < H.size → ¬ A a → H1[a]? = H[a]?) : KST E sh A U H1 := by
  obtain ⟨h1, h2, h3, h4, h5, h6, h7, h8, h9⟩ := h
  exact ⟨fun j hj => ⟨(h1 j hj).1.kept hq, (h1 j hj).2.kept hq⟩, h2.kept hq, h3.kept hq, h4.kept hq, h5.kept hq,
    fun j hj => ⟨(h6 j hj).1.kept hq, (h6 j hj).2.1.kept hq, (h6 j hj).2.2.1.kept hq, (h6 j hj).2.2.2.1.kept hq, (h6 j hj).2.2.2.2⟩, h7, h8.kept hq, h9⟩
theorem KST.narrow {E : KE} {sh : KSh} {A B : Nat → Prop} {U : State} {H : Heap} (h : KST E sh A U H) (hAB : ∀ q, B q → A q) : KST E sh B U H := by
  obtain ⟨h1, h2, h3, h4, h5, h6, h7, h8, h9⟩ := h
  exact ⟨fun j hj => ⟨(h1 j hj).1.narrow hAB, (h1 j hj).2.narrow hAB⟩, h2.narrow hAB, h3.narrow hAB, h4.narrow hAB, h5.narrow hAB,
    fun j hj => ⟨(h6 j hj).1.narrow hAB, (h6 j hj).2.1.narrow hAB, (h6 j hj).2.2.1.narrow hAB, (h6 j hj).2.2.2.1.narrow hAB, (h6 j hj).2.2.2.2⟩, h7, h8.narrow hAB, h9⟩
/-- the good words of the tables -/
def kg : List Cond := lw_tbl.filter goodWord
theorem kg_in {w : Cond} (i : Nat) (h : lw_tbl[i]? = some w) (hg : goodWord w = true) : w ∈ kg := List.mem_filter.mpr ⟨List.mem_of_getElem? h, hg⟩
theorem kg_good {w : Cond} (h : w ∈ kg) : goodWord w = true := (List.mem_filter.mp h).2
/-- the whole world: the cells hold the store -/
def WD (E : KE) (sh : KSh) (A : Nat → Prop) (σ : Sto) (U : State) (H : Heap) : Prop := va_P E.1 vwCl (kwl E sh σ) H ∧ va_K E.1 vwCl (kty E) U ∧ va_D A (kwl E sh σ) ∧ ∀ q, kNP ≤ q → ∃ n, sh q = .inr (2, n)
theorem WD.moved {E : KE} {sh : KSh} {A : Nat → Prop} {σ : Sto} {u U : State} {H : Heap} (hvm : u.vm.Alike U.vm) (h : WD E sh A σ u H) : WD E sh A σ U H := ⟨h.1, va_K.moved hvm h.2.1, h.2.2⟩
theorem WD.at {E : KE} {sh : KSh} {A : Nat → Prop} {σ : Sto} {U : State} {H : Heap} (h : WD E sh A σ U H) {q : Nat} {x : Nat ⊕ (Nat × Nat)} (hs : sh q = x) (hx : ∀ n, x ≠ .inr (2, n)) : q ∈ kpl sh := by
  refine kpl_in ?_ (by rw [hs]; exact hx 0)
  rcases Nat.lt_or_ge q kNP with h1 | h1
  · exact h1
  · obtain ⟨n, hn⟩ := h.2.2.2 q h1
    exact absurd (hs.symm.trans hn) (hx n)
/-- own class, code, locals, what it answers, room, cells and slots that it may make -/
abbrev KM : Type := String × ByteArray × Nat × Option FieldType × Room × Nat × Nat
/-- how a method ends: 0 or which exception; its answer; the store -/
abbrev KO : Type := Nat × Value × Sto
/-- the same with a number for an answer -/
abbrev KP : Type := Nat × Int32 × Sto
def kxn : Nat → String
  | 1 => "java/lang/IllegalArgumentException"
  | 2 => "java/lang/IllegalStateException"
  | _ => "java/lang/IndexOutOfBoundsException"
def krv (ret : Option FieldType) (v : Value) : Option Value := match ret with
  | none => none
  | some _ => some v
def kml (E : KE) (lo : List (Nat × Value)) : List (Nat × Value) := lo.map (fun q => (q.1, kmv E q.2))
def kwa (E : KE) (sh : KSh) (sz : Nat) : Nat → Prop := fun q => (∃ k, k ∈ kpl sh ∧ q = E.2.1 k) ∨ sz ≤ q
def KQ (E : KE) (sh : KSh) (ret : Option FieldType) (o : KO) (A : Nat → Prop) : Array Value → State → Outcome → State → Prop := fun _ st oc t => (o.1 = 0 ∧ oc = .returned (krv ret (kmv E o.2.1)) ∧ WD E sh A o.2.2 t t.heap) ∧ va_F A st t
def KX (E : KE) (sh : KSh) (o : KO) (A : Nat → Prop) : String → State → State → Prop := fun X st t => (o.1 ≠ 0 ∧ X = kxn o.1 ∧ WD E sh A o.2.2 t t.heap) ∧ va_F A st t
def KC (l : Launch) (M : KM) (E : KE) (sh : KSh) (A : Nat → Prop) (p : Program) (s : State) (m : MethodId) (args : Array Value) (meth : Method) (c : Code) : Prop :=
  p.tables.exec = Jvm.exec ∧ c.code = M.2.1 ∧ c.maxLocals = M.2.2.1 ∧ meth.sig.returnType = M.2.2.2.1 ∧ s.vm.findClass M.1 = some m.cls ∧ meth.locks = false ∧ (∀ w ∈ kg, w.before args s = true) ∧ (∀ x ∈ c.exceptionTable.toList, False) ∧ (∀ q, s.heap.size ≤ q → A q) ∧ KST E sh A s s.heap ∧ l.stackTraces = false
/-- from here the method ends as o says -/
def VV (sh : KSh) (l : Launch) (M : KM) (k n pc : Nat) (lo : List (Nat × Value)) (st : List Value) (σ : Sto) (o : KO) : Prop :=
  ∀ (E : KE) (A : Nat → Prop) (p : Program) (e : Env) (s : State) (m : MethodId) (args : Array Value) (below : List Frame) (meth : Method) (c : Code), KC l M E sh A p s m args meth c →
    ∀ (H : Heap) (locs : List Loc) (ls : Array Slot), WD E sh A σ s H → va_S A s.heap H locs → lv_has ls M.2.2.1 (kml E lo) →
      W p l e M.2.2.2.2.1 s m args below meth c H locs k n (vx_MQ below (KQ E sh M.2.2.2.1 o A) (KX E sh o A) args s M.2.2.2.2.2.1 M.2.2.2.2.2.2 A) (F0 m pc ls (st.map (kmv E)))
/-- a method's contract -/
def CT (sh : KSh) (l : Launch) (M : KM) (y : MethodName) (As : List Value) (σ : Sto) (o : KO) : Prop :=
  ∀ (E : KE) (sz : Nat), vx_Met l y (Cond.code y M.2.1 M.2.2.1 M.2.2.2.1 :: kg) M.2.2.2.2.1
    (va_Pc (As.map (kmv E)) (fun U => U.heap.size = sz ∧ WD E sh (kwa E sh sz) σ U U.heap ∧ KST E sh (kwa E sh sz) U U.heap))
    (KQ E sh M.2.2.2.1 o (kwa E sh sz)) (KX E sh o (kwa E sh sz)) M.2.2.2.2.2.1 M.2.2.2.2.2.2 (kwa E sh sz)
section KVROWS
variable {sh : KSh} {l : Launch} {M : KM} {k n pc : Nat} {lo : List (Nat × Value)} {st : List Value} {σ : Sto} {o : KO}
theorem kv_iconst {a : Int} {v : Int32} (hd : decode M.2.1 pc = .ok (.iconst a, 1)) (hv : Int32.ofInt a = v) (kk : VV sh l M k n (pc + 1) lo (.int v :: st) σ o) : VV sh l M k n pc lo (st) σ o :=
  fun E A p e s m args below meth c C H locs ls hW hS hl => lv_iconst C.1 C.2.1 hd hv (kk E A p e s m args below meth c C H locs ls hW hS hl)
theorem kv_bipush {a : Int} {v : Int32} (hd : decode M.2.1 pc = .ok (.bipush a, 2)) (hv : (Int8.ofInt a).toInt32 = v) (kk : VV sh l M k n (pc + 2) lo (.int v :: st) σ o) : VV sh l M k n pc lo (st) σ o :=
  fun E A p e s m args below meth c C H locs ls hW hS hl => lv_bipush C.1 C.2.1 hd hv (kk E A p e s m args below meth c C H locs ls hW hS hl)
theorem kv_sipush {a : Int} {v : Int32} (hd : decode M.2.1 pc = .ok (.sipush a, 3)) (hv : (Int16.ofInt a).toInt32 = v) (kk : VV sh l M k n (pc + 3) lo (.int v :: st) σ o) : VV sh l M k n pc lo (st) σ o :=
  fun E A p e s m args below meth c C H locs ls hW hS hl => lv_sipush C.1 C.2.1 hd hv (kk E A p e s m args below meth c C H locs ls hW hS hl)
theorem kv_iadd {x y : Int32} (hd : decode M.2.1 pc = .ok (.iadd, 1)) (kk : VV sh l M k n (pc + 1) lo (.int (x + y) :: st) σ o) : VV sh l M k n pc lo (.int y :: .int x :: st) σ o :=
  fun E A p e s m args below meth c C H locs ls hW hS hl => lv_iadd C.1 C.2.1 hd (kk E A p e s m args below meth c C H locs ls hW hS hl)
theorem kv_isub {x y : Int32} (hd : decode M.2.1 pc = .ok (.isub, 1)) (kk : VV sh l M k n (pc + 1) lo (.int (x - y) :: st) σ o) : VV sh l M k n pc lo (.int y :: .int x :: st) σ o :=
  fun E A p e s m args below meth c C H locs ls hW hS hl => lv_isub C.1 C.2.1 hd (kk E A p e s m args below meth c C H locs ls hW hS hl)
theorem kv_imul {x y : Int32} (hd : decode M.2.1 pc = .ok (.imul, 1)) (kk : VV sh l M k n (pc + 1) lo (.int (x * y) :: st) σ o) : VV sh l M k n pc lo (.int y :: .int x :: st) σ o :=
  fun E A p e s m args below meth c C H locs ls hW hS hl => lv_imul C.1 C.2.1 hd (kk E A p e s m args below meth c C H locs ls hW hS hl)
theorem kv_iand {x y : Int32} (hd : decode M.2.1 pc = .ok (.iand, 1)) (kk : VV sh l M k n (pc + 1) lo (.int (x &&& y) :: st) σ o) : VV sh l M k n pc lo (.int y :: .int x :: st) σ o :=
  fun E A p e s m args below meth c C H locs ls hW hS hl => lv_iand C.1 C.2.1 hd (kk E A p e s m args below meth c C H locs ls hW hS hl)
theorem kv_ior {x y : Int32} (hd : decode M.2.1 pc = .ok (.ior, 1)) (kk : VV sh l M k n (pc + 1) lo (.int (x ||| y) :: st) σ o) : VV sh l M k n pc lo (.int y :: .int x :: st) σ o :=
  fun E A p e s m args below meth c C H locs ls hW hS hl => lv_ior C.1 C.2.1 hd (kk E A p e s m args below meth c C H locs ls hW hS hl)
theorem kv_ixor {x y : Int32} (hd : decode M.2.1 pc = .ok (.ixor, 1)) (kk : VV sh l M k n (pc + 1) lo (.int (x ^^^ y) :: st) σ o) : VV sh l M k n pc lo (.int y :: .int x :: st) σ o :=
  fun E A p e s m args below meth c C H locs ls hW hS hl => lv_ixor C.1 C.2.1 hd (kk E A p e s m args below meth c C H locs ls hW hS hl)
theorem kv_ishl {x y : Int32} (hd : decode M.2.1 pc = .ok (.ishl, 1)) (kk : VV sh l M k n (pc + 1) lo (.int (x <<< (y &&& 31)) :: st) σ o) : VV sh l M k n pc lo (.int y :: .int x :: st) σ o :=
  fun E A p e s m args below meth c C H locs ls hW hS hl => lv_ishl C.1 C.2.1 hd (kk E A p e s m args below meth c C H locs ls hW hS hl)
theorem kv_ishr {x y : Int32} (hd : decode M.2.1 pc = .ok (.ishr, 1)) (kk : VV sh l M k n (pc + 1) lo (.int (x >>> (y &&& 31)) :: st) σ o) : VV sh l M k n pc lo (.int y :: .int x :: st) σ o :=
  fun E A p e s m args below meth c C H locs ls hW hS hl => lv_ishr C.1 C.2.1 hd (kk E A p e s m args below meth c C H locs ls hW hS hl)
theorem kv_idiv {x y : Int32} (hd : decode M.2.1 pc = .ok (.idiv, 1)) (hne : ¬ y = 0) (kk : VV sh l M k n (pc + 1) lo (.int (x / y) :: st) σ o) : VV sh l M k n pc lo (.int y :: .int x :: st) σ o :=
  fun E A p e s m args below meth c C H locs ls hW hS hl => lv_idiv C.1 C.2.1 hd hne (kk E A p e s m args below meth c C H locs ls hW hS hl)
def krem (x y : Int32) : Int32 := x - x / y * y
def kushr (x y : Int32) : Int32 := (x.toUInt32 >>> (y.toUInt32 &&& Int32.toUInt32 31)).toInt32
theorem kv_irem {x y : Int32} (hd : decode M.2.1 pc = .ok (.irem, 1)) (hne : ¬ y = 0) (kk : VV sh l M k n (pc + 1) lo (.int (krem x y) :: st) σ o) : VV sh l M k n pc lo (.int y :: .int x :: st) σ o :=
  fun E A p e s m args below meth c C H locs ls hW hS hl => lv_irem C.1 C.2.1 hd hne (kk E A p e s m args below meth c C H locs ls hW hS hl)
theorem kv_ineg {x : Int32} (hd : decode M.2.1 pc = .ok (.ineg, 1)) (kk : VV sh l M k n (pc + 1) lo (.int (-x) :: st) σ o) : VV sh l M k n pc lo (.int x :: st) σ o :=
  fun E A p e s m args below meth c C H locs ls hW hS hl => lv_ineg C.1 C.2.1 hd (kk E A p e s m args below meth c C H locs ls hW hS hl)
theorem kv_iushr {x y : Int32} (hd : decode M.2.1 pc = .ok (.iushr, 1)) (kk : VV sh l M k n (pc + 1) lo (.int (kushr x y) :: st) σ o) : VV sh l M k n pc lo (.int y :: .int x :: st) σ o :=
  fun E A p e s m args below meth c C H locs ls hW hS hl => lv_iushr C.1 C.2.1 hd rfl (kk E A p e s m args below meth c C H locs ls hW hS hl)
theorem kv_i2l {x : Int32} (hd : decode M.2.1 pc = .ok (.i2l, 1)) (kk : VV sh l M k n (pc + 1) lo (.long x.toInt64 :: st) σ o) : VV sh l M k n pc lo (.int x :: st) σ o :=
  fun E A p e s m args below meth c C H locs ls hW hS hl => lv_i2l C.1 C.2.1 hd rfl (kk E A p e s m args below meth c C H locs ls hW hS hl)
theorem kv_dup {x : Value} (hd : decode M.2.1 pc = .ok (.dup, 1)) (hc : x.category = 1) (kk : VV sh l M k n (pc + 1) lo (x :: x :: st) σ o) : VV sh l M k n pc lo (x :: st) σ o :=
  fun E A p e s m args below meth c C H locs ls hW hS hl => lv_dup C.1 C.2.1 hd (by rw [kmv_cat]; exact hc) (kk E A p e s m args below meth c C H locs ls hW hS hl)
theorem kv_dup2 {x y : Value} (hd : decode M.2.1 pc = .ok (.dup2, 1)) (hc : x.category = 1) (hc2 : y.category = 1) (kk : VV sh l M k n (pc + 1) lo (x :: y :: x :: y :: st) σ o) : VV sh l M k n pc lo (x :: y :: st) σ o :=
  fun E A p e s m args below meth c C H locs ls hW hS hl => lv_dup2_11 C.1 C.2.1 hd (by rw [kmv_cat]; exact hc) (by rw [kmv_cat]; exact hc2) (kk E A p e s m args below meth c C H locs ls hW hS hl)
theorem kv_pop {x : Value} (hd : decode M.2.1 pc = .ok (.pop, 1)) (hc : x.category = 1) (kk : VV sh l M k n (pc + 1) lo st σ o) : VV sh l M k n pc lo (x :: st) σ o :=
  fun E A p e s m args below meth c C H locs ls hW hS hl => lv_pop C.1 C.2.1 hd (by rw [kmv_cat]; exact hc) (kk E A p e s m args below meth c C H locs ls hW hS hl)
theorem kv_i2d {x : Int32} (hd : decode M.2.1 pc = .ok (.i2d, 1)) (kk : VV sh l M k n (pc + 1) lo (.double (FP.i2d x) :: st) σ o) : VV sh l M k n pc lo (.int x :: st) σ o :=
  fun E A p e s m args below meth c C H locs ls hW hS hl => lv_i2d C.1 C.2.1 hd (kk E A p e s m args below meth c C H locs ls hW hS hl)
theorem kv_i2f {x : Int32} (hd : decode M.2.1 pc = .ok (.i2f, 1)) (kk : VV sh l M k n (pc + 1) lo (.float (FP.i2f x) :: st) σ o) : VV sh l M k n pc lo (.int x :: st) σ o :=
  fun E A p e s m args below meth c C H locs ls hW hS hl => lv_i2f C.1 C.2.1 hd (kk E A p e s m args below meth c C H locs ls hW hS hl)
theorem kv_ddiv {x y : UInt64} (hd : decode M.2.1 pc = .ok (.ddiv, 1)) (hne : vf_n64 (FP.ddiv x y)) (kk : VV sh l M k n (pc + 1) lo (.double (FP.ddiv x y) :: st) σ o) : VV sh l M k n pc lo (.double y :: .double x :: st) σ o :=
  fun E A p e s m args below meth c C H locs ls hW hS hl => lv_ddiv C.1 C.2.1 hd hne (kk E A p e s m args below meth c C H locs ls hW hS hl)
theorem kv_fdiv {x y : UInt32} (hd : decode M.2.1 pc = .ok (.fdiv, 1)) (hne : vf_n32 (FP.fdiv x y)) (kk : VV sh l M k n (pc + 1) lo (.float (FP.fdiv x y) :: st) σ o) : VV sh l M k n pc lo (.float y :: .float x :: st) σ o :=
  fun E A p e s m args below meth c C H locs ls hW hS hl => lv_fdiv C.1 C.2.1 hd hne (kk E A p e s m args below meth c C H locs ls hW hS hl)
theorem kv_dconst0  (hd : decode M.2.1 pc = .ok (.dconst 0, 1)) (kk : VV sh l M k n (pc + 1) lo (.double FP.dconst0 :: st) σ o) : VV sh l M k n pc lo (st) σ o :=
  fun E A p e s m args below meth c C H locs ls hW hS hl => lv_dconst0 C.1 C.2.1 hd (kk E A p e s m args below meth c C H locs ls hW hS hl)
theorem kv_fconst0  (hd : decode M.2.1 pc = .ok (.fconst 0, 1)) (kk : VV sh l M k n (pc + 1) lo (.float FP.fconst0 :: st) σ o) : VV sh l M k n pc lo (st) σ o :=
  fun E A p e s m args below meth c C H locs ls hW hS hl => lv_fconst0 C.1 C.2.1 hd (kk E A p e s m args below meth c C H locs ls hW hS hl)
theorem kml_at {E : KE} {lo : List (Nat × Value)} {j i : Nat} {v : Value} (h : lo[j]? = some (i, v)) : (kml E lo)[j]? = some (i, kmv E v) := by
  unfold kml
  rw [List.getElem?_map, h]
  rfl
theorem kml_set {E : KE} {lo lo' : List (Nat × Value)} {i : Nat} {v : Value} (h : (i, v) :: lo.filter (fun q => !(q.1 == i) && !(q.1 + 1 == i && q.2.category == 2)) = lo') : (i, kmv E v) :: (kml E lo).filter (fun q => !(q.1 == i) && !(q.1 + 1 == i && q.2.category == 2)) = kml E lo' := by
  rw [← h]
  unfold kml
  rw [List.map_cons, List.filter_map]
  refine congrArg (fun l => (i, kmv E v) :: List.map _ l) ?_
  refine List.filter_congr fun q _ => ?_
  show (!(q.1 == i) && !(q.1 + 1 == i && (kmv E q.2).category == 2)) = _
  rw [kmv_cat]
theorem kv_iload_n {f : Fin 4} {x : Int32} (j : Nat) {i : Nat} (hd : decode M.2.1 pc = .ok (.iload_n f, 1)) (hi : (f : Nat) = i) (hl : lo[j]? = some (i, .int x)) (kk : VV sh l M k n (pc + 1) lo (.int x :: st) σ o) : VV sh l M k n pc lo st σ o :=
  fun E A p e s m args below meth c C H locs ls hW hS hL => lv_iload_n C.1 C.2.1 hd hi (lv_at hL j (kml_at hl)) (kk E A p e s m args below meth c C H locs ls hW hS hL)
theorem kv_iload {x : Int32} (j : Nat) {i : Nat} (hd : decode M.2.1 pc = .ok (.iload i, 2)) (hl : lo[j]? = some (i, .int x)) (kk : VV sh l M k n (pc + 2) lo (.int x :: st) σ o) : VV sh l M k n pc lo st σ o :=
  fun E A p e s m args below meth c C H locs ls hW hS hL => lv_iload C.1 C.2.1 hd (lv_at hL j (kml_at hl)) (kk E A p e s m args below meth c C H locs ls hW hS hL)
theorem kv_aload_n {f : Fin 4} {x : Nat} (j : Nat) {i : Nat} (hd : decode M.2.1 pc = .ok (.aload_n f, 1)) (hi : (f : Nat) = i) (hl : lo[j]? = some (i, .ref x)) (kk : VV sh l M k n (pc + 1) lo (.ref x :: st) σ o) : VV sh l M k n pc lo st σ o :=
  fun E A p e s m args below meth c C H locs ls hW hS hL => lv_aload_n C.1 C.2.1 hd hi (lv_at hL j (kml_at hl)) (kk E A p e s m args below meth c C H locs ls hW hS hL)
theorem kv_aload {x : Nat} (j : Nat) {i : Nat} (hd : decode M.2.1 pc = .ok (.aload i, 2)) (hl : lo[j]? = some (i, .ref x)) (kk : VV sh l M k n (pc + 2) lo (.ref x :: st) σ o) : VV sh l M k n pc lo st σ o :=
  fun E A p e s m args below meth c C H locs ls hW hS hL => lv_aload C.1 C.2.1 hd (lv_at hL j (kml_at hl)) (kk E A p e s m args below meth c C H locs ls hW hS hL)
theorem kv_istore_n {f : Fin 4} {x : Int32} {i : Nat} (lo' : List (Nat × Value)) (hd : decode M.2.1 pc = .ok (.istore_n f, 1)) (hi : (f : Nat) = i) (hn : i < M.2.2.1) (hl : (i, Value.int x) :: lo.filter (fun q => !(q.1 == i) && !(q.1 + 1 == i && q.2.category == 2)) = lo') (kk : VV sh l M k n (pc + 1) lo' st σ o) : VV sh l M k n pc lo (.int x :: st) σ o :=
  fun E A p e s m args below meth c C H locs ls hW hS hL => lv_istore_n C.1 C.2.1 hd hi hL hn (kml_set (E := E) hl) (fun ls' hL' => kk E A p e s m args below meth c C H locs ls' hW hS hL')
theorem kv_istore {x : Int32} {i : Nat} (lo' : List (Nat × Value)) (hd : decode M.2.1 pc = .ok (.istore i, 2)) (hn : i < M.2.2.1) (hl : (i, Value.int x) :: lo.filter (fun q => !(q.1 == i) && !(q.1 + 1 == i && q.2.category == 2)) = lo') (kk : VV sh l M k n (pc + 2) lo' st σ o) : VV sh l M k n pc lo (.int x :: st) σ o :=
  fun E A p e s m args below meth c C H locs ls hW hS hL => lv_istore C.1 C.2.1 hd hL hn (kml_set (E := E) hl) (fun ls' hL' => kk E A p e s m args below meth c C H locs ls' hW hS hL')
theorem kv_astore_n {f : Fin 4} {x : Nat} {i : Nat} (lo' : List (Nat × Value)) (hd : decode M.2.1 pc = .ok (.astore_n f, 1)) (hi : (f : Nat) = i) (hn : i < M.2.2.1) (hl : (i, Value.ref x) :: lo.filter (fun q => !(q.1 == i) && !(q.1 + 1 == i && q.2.category == 2)) = lo') (kk : VV sh l M k n (pc + 1) lo' st σ o) : VV sh l M k n pc lo (.ref x :: st) σ o :=
  fun E A p e s m args below meth c C H locs ls hW hS hL => lv_astore_n C.1 C.2.1 hd hi hL hn (kml_set (E := E) hl) (fun ls' hL' => kk E A p e s m args below meth c C H locs ls' hW hS hL')
theorem kv_astore {x : Nat} {i : Nat} (lo' : List (Nat × Value)) (hd : decode M.2.1 pc = .ok (.astore i, 2)) (hn : i < M.2.2.1) (hl : (i, Value.ref x) :: lo.filter (fun q => !(q.1 == i) && !(q.1 + 1 == i && q.2.category == 2)) = lo') (kk : VV sh l M k n (pc + 2) lo' st σ o) : VV sh l M k n pc lo (.ref x :: st) σ o :=
  fun E A p e s m args below meth c C H locs ls hW hS hL => lv_astore C.1 C.2.1 hd hL hn (kml_set (E := E) hl) (fun ls' hL' => kk E A p e s m args below meth c C H locs ls' hW hS hL')
theorem kv_iinc {a : Int} {x v : Int32} {i : Nat} (j : Nat) (lo' : List (Nat × Value)) (hd : decode M.2.1 pc = .ok (.iinc i a, 3)) (hj : lo[j]? = some (i, .int x)) (hv : x + Int32.ofInt a = v) (hn : i < M.2.2.1) (hl : (i, Value.int v) :: lo.filter (fun q => !(q.1 == i) && !(q.1 + 1 == i && q.2.category == 2)) = lo') (kk : VV sh l M k n (pc + 3) lo' st σ o) : VV sh l M k n pc lo st σ o :=
  fun E A p e s m args below meth c C H locs ls hW hS hL => lv_iinc C.1 C.2.1 hd hL (kml_at hj) hv hn (kml_set (E := E) hl) (fun ls' hL' => kk E A p e s m args below meth c C H locs ls' hW hS hL')
theorem kv_sub (lo' : List (Nat × Value)) (js : List Nat) (h : js.filterMap (fun j => lo[j]?) = lo') (kk : VV sh l M k n pc lo' st σ o) : VV sh l M k n pc lo st σ o := by
  intro E A p e s m args below meth c C H locs ls hW hS hL
  refine kk E A p e s m args below meth c C H locs ls hW hS ⟨hL.1, hL.2.1, fun q hq => hL.2.2 q ?_⟩
  obtain ⟨q0, h0, rfl⟩ := List.mem_map.mp hq
  subst h
  obtain ⟨j, -, hj⟩ := List.mem_filterMap.mp h0
  exact List.mem_map.mpr ⟨q0, List.mem_of_getElem? hj, rfl⟩
theorem kv_if_eq {β : Type} {A B r : β} {x : Int32} {off : Int} {tgt : Nat} (hd : decode M.2.1 pc = .ok (.ifCond .eq off, 3)) (ht : (pc : Int) + off = (tgt : Int)) (h : (if x = 0 then A else B) = r) (kt : A = r → VV sh l M k n tgt lo st σ o) (kf : B = r → VV sh l M k n (pc + 3) lo st σ o) : VV sh l M k n pc lo (.int x :: st) σ o :=
  fun E A p e s m args below meth c C H locs ls hW hS hl => lv_if_eq C.1 C.2.1 hd ht (fun c1 => kt (by rw [if_pos c1] at h; exact h) E A p e s m args below meth c C H locs ls hW hS hl) (fun c1 => kf (by rw [if_neg c1] at h; exact h) E A p e s m args below meth c C H locs ls hW hS hl)
theorem kv_if_ne {β : Type} {A B r : β} {x : Int32} {off : Int} {tgt : Nat} (hd : decode M.2.1 pc = .ok (.ifCond .ne off, 3)) (ht : (pc : Int) + off = (tgt : Int)) (h : (if x = 0 then A else B) = r) (kt : B = r → VV sh l M k n tgt lo st σ o) (kf : A = r → VV sh l M k n (pc + 3) lo st σ o) : VV sh l M k n pc lo (.int x :: st) σ o :=
  fun E A p e s m args below meth c C H locs ls hW hS hl => lv_if_ne C.1 C.2.1 hd ht (fun c1 => kt (by rw [if_neg c1] at h; exact h) E A p e s m args below meth c C H locs ls hW hS hl) (fun c1 => kf (by rw [if_pos c1] at h; exact h) E A p e s m args below meth c C H locs ls hW hS hl)
theorem kv_if_lt {β : Type} {A B r : β} {x : Int32} {off : Int} {tgt : Nat} (hd : decode M.2.1 pc = .ok (.ifCond .lt off, 3)) (ht : (pc : Int) + off = (tgt : Int)) (h : (if x < 0 then A else B) = r) (kt : A = r → VV sh l M k n tgt lo st σ o) (kf : B = r → VV sh l M k n (pc + 3) lo st σ o) : VV sh l M k n pc lo (.int x :: st) σ o :=
  fun E A p e s m args below meth c C H locs ls hW hS hl => lv_if_lt C.1 C.2.1 hd ht (fun c1 => kt (by rw [if_pos c1] at h; exact h) E A p e s m args below meth c C H locs ls hW hS hl) (fun c1 => kf (by rw [if_neg c1] at h; exact h) E A p e s m args below meth c C H locs ls hW hS hl)
theorem kv_if_ge {β : Type} {A B r : β} {x : Int32} {off : Int} {tgt : Nat} (hd : decode M.2.1 pc = .ok (.ifCond .ge off, 3)) (ht : (pc : Int) + off = (tgt : Int)) (h : (if 0 ≤ x then A else B) = r) (kt : A = r → VV sh l M k n tgt lo st σ o) (kf : B = r → VV sh l M k n (pc + 3) lo st σ o) : VV sh l M k n pc lo (.int x :: st) σ o :=
  fun E A p e s m args below meth c C H locs ls hW hS hl => lv_if_ge C.1 C.2.1 hd ht (fun c1 => kt (by rw [if_pos c1] at h; exact h) E A p e s m args below meth c C H locs ls hW hS hl) (fun c1 => kf (by rw [if_neg c1] at h; exact h) E A p e s m args below meth c C H locs ls hW hS hl)
theorem kv_if_gt {β : Type} {A B r : β} {x : Int32} {off : Int} {tgt : Nat} (hd : decode M.2.1 pc = .ok (.ifCond .gt off, 3)) (ht : (pc : Int) + off = (tgt : Int)) (h : (if 0 < x then A else B) = r) (kt : A = r → VV sh l M k n tgt lo st σ o) (kf : B = r → VV sh l M k n (pc + 3) lo st σ o) : VV sh l M k n pc lo (.int x :: st) σ o :=
  fun E A p e s m args below meth c C H locs ls hW hS hl => lv_if_gt C.1 C.2.1 hd ht (fun c1 => kt (by rw [if_pos c1] at h; exact h) E A p e s m args below meth c C H locs ls hW hS hl) (fun c1 => kf (by rw [if_neg c1] at h; exact h) E A p e s m args below meth c C H locs ls hW hS hl)
theorem kv_if_le {β : Type} {A B r : β} {x : Int32} {off : Int} {tgt : Nat} (hd : decode M.2.1 pc = .ok (.ifCond .le off, 3)) (ht : (pc : Int) + off = (tgt : Int)) (h : (if x ≤ 0 then A else B) = r) (kt : A = r → VV sh l M k n tgt lo st σ o) (kf : B = r → VV sh l M k n (pc + 3) lo st σ o) : VV sh l M k n pc lo (.int x :: st) σ o :=
  fun E A p e s m args below meth c C H locs ls hW hS hl => lv_if_le C.1 C.2.1 hd ht (fun c1 => kt (by rw [if_pos c1] at h; exact h) E A p e s m args below meth c C H locs ls hW hS hl) (fun c1 => kf (by rw [if_neg c1] at h; exact h) E A p e s m args below meth c C H locs ls hW hS hl)
theorem kv_icmp_eq {β : Type} {A B r : β} {x y : Int32} {off : Int} {tgt : Nat} (hd : decode M.2.1 pc = .ok (.if_icmp .eq off, 3)) (ht : (pc : Int) + off = (tgt : Int)) (h : (if x = y then A else B) = r) (kt : A = r → VV sh l M k n tgt lo st σ o) (kf : B = r → VV sh l M k n (pc + 3) lo st σ o) : VV sh l M k n pc lo (.int y :: .int x :: st) σ o :=
  fun E A p e s m args below meth c C H locs ls hW hS hl => lv_icmp_eq C.1 C.2.1 hd ht (fun c1 => kt (by rw [if_pos c1] at h; exact h) E A p e s m args below meth c C H locs ls hW hS hl) (fun c1 => kf (by rw [if_neg c1] at h; exact h) E A p e s m args below meth c C H locs ls hW hS hl)
theorem kv_icmp_ne {β : Type} {A B r : β} {x y : Int32} {off : Int} {tgt : Nat} (hd : decode M.2.1 pc = .ok (.if_icmp .ne off, 3)) (ht : (pc : Int) + off = (tgt : Int)) (h : (if x = y then A else B) = r) (kt : B = r → VV sh l M k n tgt lo st σ o) (kf : A = r → VV sh l M k n (pc + 3) lo st σ o) : VV sh l M k n pc lo (.int y :: .int x :: st) σ o :=
  fun E A p e s m args below meth c C H locs ls hW hS hl => lv_icmp_ne C.1 C.2.1 hd ht (fun c1 => kt (by rw [if_neg c1] at h; exact h) E A p e s m args below meth c C H locs ls hW hS hl) (fun c1 => kf (by rw [if_pos c1] at h; exact h) E A p e s m args below meth c C H locs ls hW hS hl)
theorem kv_icmp_lt {β : Type} {A B r : β} {x y : Int32} {off : Int} {tgt : Nat} (hd : decode M.2.1 pc = .ok (.if_icmp .lt off, 3)) (ht : (pc : Int) + off = (tgt : Int)) (h : (if x < y then A else B) = r) (kt : A = r → VV sh l M k n tgt lo st σ o) (kf : B = r → VV sh l M k n (pc + 3) lo st σ o) : VV sh l M k n pc lo (.int y :: .int x :: st) σ o :=
  fun E A p e s m args below meth c C H locs ls hW hS hl => lv_icmp_lt C.1 C.2.1 hd ht (fun c1 => kt (by rw [if_pos c1] at h; exact h) E A p e s m args below meth c C H locs ls hW hS hl) (fun c1 => kf (by rw [if_neg c1] at h; exact h) E A p e s m args below meth c C H locs ls hW hS hl)
theorem kv_icmp_ge {β : Type} {A B r : β} {x y : Int32} {off : Int} {tgt : Nat} (hd : decode M.2.1 pc = .ok (.if_icmp .ge off, 3)) (ht : (pc : Int) + off = (tgt : Int)) (h : (if y ≤ x then A else B) = r) (kt : A = r → VV sh l M k n tgt lo st σ o) (kf : B = r → VV sh l M k n (pc + 3) lo st σ o) : VV sh l M k n pc lo (.int y :: .int x :: st) σ o :=
  fun E A p e s m args below meth c C H locs ls hW hS hl => lv_icmp_ge C.1 C.2.1 hd ht (fun c1 => kt (by rw [if_pos c1] at h; exact h) E A p e s m args below meth c C H locs ls hW hS hl) (fun c1 => kf (by rw [if_neg c1] at h; exact h) E A p e s m args below meth c C H locs ls hW hS hl)
theorem kv_icmp_gt {β : Type} {A B r : β} {x y : Int32} {off : Int} {tgt : Nat} (hd : decode M.2.1 pc = .ok (.if_icmp .gt off, 3)) (ht : (pc : Int) + off = (tgt : Int)) (h : (if y < x then A else B) = r) (kt : A = r → VV sh l M k n tgt lo st σ o) (kf : B = r → VV sh l M k n (pc + 3) lo st σ o) : VV sh l M k n pc lo (.int y :: .int x :: st) σ o :=
  fun E A p e s m args below meth c C H locs ls hW hS hl => lv_icmp_gt C.1 C.2.1 hd ht (fun c1 => kt (by rw [if_pos c1] at h; exact h) E A p e s m args below meth c C H locs ls hW hS hl) (fun c1 => kf (by rw [if_neg c1] at h; exact h) E A p e s m args below meth c C H locs ls hW hS hl)
theorem kv_icmp_le {β : Type} {A B r : β} {x y : Int32} {off : Int} {tgt : Nat} (hd : decode M.2.1 pc = .ok (.if_icmp .le off, 3)) (ht : (pc : Int) + off = (tgt : Int)) (h : (if x ≤ y then A else B) = r) (kt : A = r → VV sh l M k n tgt lo st σ o) (kf : B = r → VV sh l M k n (pc + 3) lo st σ o) : VV sh l M k n pc lo (.int y :: .int x :: st) σ o :=
  fun E A p e s m args below meth c C H locs ls hW hS hl => lv_icmp_le C.1 C.2.1 hd ht (fun c1 => kt (by rw [if_pos c1] at h; exact h) E A p e s m args below meth c C H locs ls hW hS hl) (fun c1 => kf (by rw [if_neg c1] at h; exact h) E A p e s m args below meth c C H locs ls hW hS hl)
theorem kv_goto {off : Int} {tgt : Nat} (hd : decode M.2.1 pc = .ok (.goto off, 3)) (ht : (pc : Int) + off = (tgt : Int)) (kk : VV sh l M k n tgt lo st σ o) : VV sh l M k n pc lo st σ o :=
  fun E A p e s m args below meth c C H locs ls hW hS hl => lv_goto C.1 C.2.1 hd ht (kk E A p e s m args below meth c C H locs ls hW hS hl)
theorem kv_lookup {dflt : Int} {ps : Array (Int × Int)} {len : Nat} {x : Int32} {off : Int} {tgt : Nat} (hd : decode M.2.1 pc = .ok (.lookupswitch dflt ps, len)) (hp : (ps.toList.zip (ps.toList.drop 1)).all (fun (a, next) => a.1 < next.1) = true) (ho : Op.lookupswitch.offset ps.toList dflt x.toInt = off) (ht : (pc : Int) + off = (tgt : Int)) (kk : VV sh l M k n tgt lo st σ o) : VV sh l M k n pc lo (.int x :: st) σ o :=
  fun E A p e s m args below meth c C H locs ls hW hS hl => lv_lookup C.1 C.2.1 hd hp ho ht (kk E A p e s m args below meth c C H locs ls hW hS hl)
theorem kv_tableIn {dflt lo9 hi9 : Int} {offs : Array Int} {len : Nat} {x : Int32} {off : Int} {tgt : Nat} (hd : decode M.2.1 pc = .ok (.tableswitch dflt lo9 hi9 offs, len)) (h1 : ¬ x.toInt < lo9) (h2 : ¬ hi9 < x.toInt) (ho : offs[(x.toInt - lo9).toNat]? = some off) (ht : (pc : Int) + off = (tgt : Int)) (kk : VV sh l M k n tgt lo st σ o) : VV sh l M k n pc lo (.int x :: st) σ o :=
  fun E A p e s m args below meth c C H locs ls hW hS hl => lv_tableIn C.1 C.2.1 hd h1 h2 ho ht (kk E A p e s m args below meth c C H locs ls hW hS hl)
theorem kv_tableOut {dflt lo9 hi9 : Int} {offs : Array Int} {len : Nat} {x : Int32} {tgt : Nat} (hd : decode M.2.1 pc = .ok (.tableswitch dflt lo9 hi9 offs, len)) (h1 : x.toInt < lo9 ∨ hi9 < x.toInt) (ht : (pc : Int) + dflt = (tgt : Int)) (kk : VV sh l M k n tgt lo st σ o) : VV sh l M k n pc lo (.int x :: st) σ o :=
  fun E A p e s m args below meth c C H locs ls hW hS hl => lv_tableOut C.1 C.2.1 hd h1 ht (kk E A p e s m args below meth c C H locs ls hW hS hl)
theorem kcl_ws : ∀ (ci : Nat) (r : vw_C), vwCl[ci]? = some r → ∀ w ∈ u_ws r.1 r.2.1 r.2.2, w ∈ kg := by
  have key : ∀ ci, ci < 10 → ∀ r, vwCl[ci]? = some r → ((u_ws r.1 r.2.1 r.2.2).all (fun w => decide (w ∈ lw_tbl) && goodWord w)) = true := by
    intro ci hci
    match ci, hci with
    | 0, _ => intro r h; cases h; decide +kernel
    | 1, _ => intro r h; cases h; decide +kernel
    | 2, _ => intro r h; cases h; decide +kernel
    | 3, _ => intro r h; cases h; decide +kernel
    | 4, _ => intro r h; cases h; decide +kernel
    | 5, _ => intro r h; cases h; decide +kernel
    | 6, _ => intro r h; cases h; decide +kernel
    | 7, _ => intro r h; cases h; decide +kernel
    | 8, _ => intro r h; cases h; decide +kernel
    | 9, _ => intro r h; cases h; decide +kernel
    | n + 10, h => omega
  intro ci r h w hw
  have hci : ci < 10 := (List.getElem?_eq_some_iff.mp h).1
  have h1 := List.all_eq_true.mp (key ci hci r h) w hw
  simp only [Bool.and_eq_true, decide_eq_true_eq] at h1
  exact List.mem_filter.mpr h1
theorem kfs_get {E : KE} {σ : Sto} {q ci i : Nat} (hi : i < knf ci) : ((List.range (knf ci)).map (kfv E σ q ci))[i]? = some (kfv E σ q ci i) := by rw [List.getElem?_map, List.getElem?_range hi]; rfl
theorem kv_getI {q ci i ix : Nat} {C0 : String} {T0 : u_T} {N0 : Nat} (hd : decode M.2.1 pc = .ok (.getfield ix, 3)) (hs : sh q = .inl ci) (hc : vwCl[ci]? = some (C0, T0, N0)) (hi : i < N0) (hN : N0 = knf ci) (hlk : Cond.fieldLink M.1 ix (T0 i).1 (T0 i).2.1 (T0 i).2.2.1 ∈ kg) (hp : kpo ci i = none) (kk : VV sh l M k n (pc + 3) lo (.int (σ q i) :: st) σ o) : VV sh l M k n pc lo (.ref q :: st) σ o := by
  intro E A p e s m args below meth c C H locs ls hW hS hl
  obtain ⟨j0, hj0, hset⟩ := kwl_at (E := E) σ (hW.at hs (fun n h => by cases h))
  refine va_get (D := E.1) (ci := ci) (v := .int (σ q i)) (C := C0) (T := T0) (N := N0) C.1 C.2.1 C.2.2.2.2.2.2.1 (kcl_ws ci _ hc) C.2.2.2.2.1 hW.2.1 hW.1 j0 (hj0.trans (by rw [kce_o hs])) hc i hi (C.2.2.2.2.2.2.1 _ hlk) (fun _ h9 => h9) ((kfs_get (hN ▸ hi)).trans (by unfold kfv; rw [hp])) hd (kk E A p e s m args below meth c C H locs ls hW hS hl)
theorem kv_getR {q ci i ix : Nat} {C0 : String} {T0 : u_T} {N0 : Nat} (hd : decode M.2.1 pc = .ok (.getfield ix, 3)) (hs : sh q = .inl ci) (hc : vwCl[ci]? = some (C0, T0, N0)) (hi : i < N0) (hN : N0 = knf ci) (hlk : Cond.fieldLink M.1 ix (T0 i).1 (T0 i).2.1 (T0 i).2.2.1 ∈ kg) {d q2 : Nat} (hp : kpo ci i = some d) (h2 : q + d = q2) (kk : VV sh l M k n (pc + 3) lo (.ref q2 :: st) σ o) : VV sh l M k n pc lo (.ref q :: st) σ o := by
  intro E A p e s m args below meth c C H locs ls hW hS hl
  obtain ⟨j0, hj0, hset⟩ := kwl_at (E := E) σ (hW.at hs (fun n h => by cases h))
  subst h2
  refine va_get (D := E.1) (ci := ci) (v := .ref (E.2.1 (q + d))) (C := C0) (T := T0) (N := N0) C.1 C.2.1 C.2.2.2.2.2.2.1 (kcl_ws ci _ hc) C.2.2.2.2.1 hW.2.1 hW.1 j0 (hj0.trans (by rw [kce_o hs])) hc i hi (C.2.2.2.2.2.2.1 _ hlk) (fun _ h9 => h9) ((kfs_get (hN ▸ hi)).trans (by unfold kfv; rw [hp])) hd (kk E A p e s m args below meth c C H locs ls hW hS hl)
theorem kv_put {q ci i ix : Nat} {C0 : String} {T0 : u_T} {N0 : Nat} {v : Int32} {ty : FieldType} (ty0 : Nat → FieldType) (hty : ∀ k, k < N0 → parseFieldDescriptor (T0 k).2.2.1 = some (ty0 k)) (hnm : ∀ a, a < N0 → ∀ b, b < N0 → a ≠ b → (T0 a).2.1 ≠ (T0 b).2.1) (hd : decode M.2.1 pc = .ok (.putfield ix, 3)) (hs : sh q = .inl ci) (hc : vwCl[ci]? = some (C0, T0, N0)) (hi : i < N0) (hN : N0 = knf ci) (hlk : Cond.fieldLink M.1 ix (T0 i).1 (T0 i).2.1 (T0 i).2.2.1 ∈ kg) (hp : kpo ci i = none) (hfin : (T0 i).2.2.2 = false) (hpd : parseFieldDescriptor (T0 i).2.2.1 = some ty) (hn : narrow ty (.int v) = .int v) (hf : fits ty (.int v) = true)
    (kk : VV sh l M k n (pc + 3) lo st (su σ q i v) o) : VV sh l M k n pc lo (.int v :: .ref q :: st) σ o := by
  intro E A p e s m args below meth c C H locs ls hW hS hl
  obtain ⟨j0, hj0, hset⟩ := kwl_at (E := E) σ (hW.at hs (fun n h => by cases h))
  refine va_put (D := E.1) (ci := ci) (v := .int v) (ty := ty) (C := C0) (T := T0) (N := N0) C.1 C.2.1 C.2.2.2.2.2.2.1 (kcl_ws ci _ hc) ty0 hty hnm C.2.2.2.2.1 hW.2.1 hW.1 hW.2.2.1 hS j0 (hj0.trans (by rw [kce_o hs])) hc i hi (C.2.2.2.2.2.2.1 _ hlk) (fun _ h9 => h9) hfin hpd hn hf (by rw [List.length_map, List.length_range, ← hN]; exact hi) hd (fun H1 locs1 hP hD hS1 => ?_)
  rw [hset (su σ q i v) _ (kce_set hs hp) su_o] at hP hD
  exact kk E A p e s m args below meth c C H1 locs1 ls ⟨hP, hW.2.1, hD, hW.2.2.2⟩ hS1 hl
def kin (i : Int32) (N : Nat) : Bool := decide (¬ i < 0) && decide (i.toNatClampNeg < N)
theorem kin_in {i : Int32} {N : Nat} (h : kin i N = true) : vp_in i N := by
  unfold kin at h
  simp only [Bool.and_eq_true, decide_eq_true_eq] at h
  rintro (q | q)
  · exact h.1 q
  · omega
theorem kif {α : Type} {b : Bool} {A : Option α} {r : α} (h : (if b = true then A else none) = some r) : b = true ∧ A = some r := by
  cases b
  · cases h
  · exact ⟨rfl, h⟩
theorem kv_iald {α : Type} {B : Option α} {r : α} {q N0 : Nat} {i : Int32} (hd : decode M.2.1 pc = .ok (.iaload, 1)) (hs : sh q = .inr (0, N0)) (h : (if kin i N0 = true then B else none) = some r) (kk : B = some r → VV sh l M k n (pc + 1) lo (.int (σ q i.toNatClampNeg) :: st) σ o) : VV sh l M k n pc lo (.int i :: .ref q :: st) σ o := by
  intro E A p e s m args below meth c C H locs ls hW hS hl
  obtain ⟨h1, h2⟩ := kif h
  obtain ⟨j0, hj0, hset⟩ := kwl_at (E := E) σ (hW.at hs (fun n h => by cases h))
  exact va_iald (D := E.1) C.1 C.2.1 hW.2.1 hW.1 j0 0 (hj0.trans (by rw [kce_i hs])) rfl (kin_in h1) hd (kk h2 E A p e s m args below meth c C H locs ls hW hS hl)
theorem kv_zald {α : Type} {B : Option α} {r : α} {q N0 : Nat} {i : Int32} (hd : decode M.2.1 pc = .ok (.baload, 1)) (hs : sh q = .inr (1, N0)) (h : (if kin i N0 = true then B else none) = some r) (kk : B = some r → VV sh l M k n (pc + 1) lo (.int (σ q i.toNatClampNeg) :: st) σ o) : VV sh l M k n pc lo (.int i :: .ref q :: st) σ o := by
  intro E A p e s m args below meth c C H locs ls hW hS hl
  obtain ⟨h1, h2⟩ := kif h
  obtain ⟨j0, hj0, hset⟩ := kwl_at (E := E) σ (hW.at hs (fun n h => by cases h))
  exact va_zald (D := E.1) C.1 C.2.1 hW.2.1 hW.1 j0 1 (hj0.trans (by rw [kce_z hs])) rfl (kin_in h1) hd (kk h2 E A p e s m args below meth c C H locs ls hW hS hl)
theorem kv_iast {α : Type} {B : Option α} {r : α} {q N0 : Nat} {i x : Int32} (hd : decode M.2.1 pc = .ok (.iastore, 1)) (hs : sh q = .inr (0, N0)) (h : (if kin i N0 = true then B else none) = some r) (kk : B = some r → VV sh l M k n (pc + 1) lo st (su σ q i.toNatClampNeg x) o) : VV sh l M k n pc lo (.int x :: .int i :: .ref q :: st) σ o := by
  intro E A p e s m args below meth c C H locs ls hW hS hl
  obtain ⟨h1, h2⟩ := kif h
  obtain ⟨j0, hj0, hset⟩ := kwl_at (E := E) σ (hW.at hs (fun n h => by cases h))
  refine va_iast (D := E.1) C.1 C.2.1 hW.2.1 hW.1 hW.2.2.1 hS j0 0 (hj0.trans (by rw [kce_i hs])) rfl (kin_in h1) hd (fun H1 locs1 hP hD hS1 => ?_)
  rw [hset (su σ q i.toNatClampNeg x) _ (by rw [kce_i hs, su_s]) su_o] at hP hD
  exact kk h2 E A p e s m args below meth c C H1 locs1 ls ⟨hP, hW.2.1, hD, hW.2.2.2⟩ hS1 hl
theorem kv_zast {α : Type} {B : Option α} {r : α} {q N0 : Nat} {i x : Int32} (hd : decode M.2.1 pc = .ok (.bastore, 1)) (hs : sh q = .inr (1, N0)) (hx : vp_nar .boolean x = x) (h : (if kin i N0 = true then B else none) = some r) (kk : B = some r → VV sh l M k n (pc + 1) lo st (su σ q i.toNatClampNeg x) o) : VV sh l M k n pc lo (.int x :: .int i :: .ref q :: st) σ o := by
  intro E A p e s m args below meth c C H locs ls hW hS hl
  obtain ⟨h1, h2⟩ := kif h
  obtain ⟨j0, hj0, hset⟩ := kwl_at (E := E) σ (hW.at hs (fun n h => by cases h))
  refine va_zast (D := E.1) C.1 C.2.1 hW.2.1 hW.1 hW.2.2.1 hS j0 1 (hj0.trans (by rw [kce_z hs])) rfl (kin_in h1) hd (fun H1 locs1 hP hD hS1 => ?_)
  rw [hx, hset (su σ q i.toNatClampNeg x) _ (by rw [kce_z hs, su_s]) su_o] at hP hD
  exact kk h2 E A p e s m args below meth c C H1 locs1 ls ⟨hP, hW.2.1, hD, hW.2.2.2⟩ hS1 hl
theorem kv_aald {α : Type} {B : Option α} {r : α} {q b N0 : Nat} {i : Int32} (hd : decode M.2.1 pc = .ok (.aaload, 1)) (hs : sh q = .inr (b + 3, N0)) (h : (if kin i N0 = true then B else none) = some r) (kk : kin i N0 = true → B = some r → VV sh l M k n (pc + 1) lo (.ref (b + 3 + 9 * i.toNatClampNeg) :: st) σ o) : VV sh l M k n pc lo (.int i :: .ref q :: st) σ o := by
  intro E A p e s m args below meth c C H locs ls hW hS hl
  obtain ⟨h1, h2⟩ := kif h
  obtain ⟨j0, hj0, hset⟩ := kwl_at (E := E) σ (hW.at hs (fun n h => by cases h))
  exact va_aldq (D := E.1) (tys := kty E) (f := fun j => some (E.2.1 (b + 3 + 9 * j))) C.1 C.2.1 hW.2.1 hW.1 j0 3 (hj0.trans (by rw [kce_s hs])) rfl (kin_in h1) hd (kk h1 h2 E A p e s m args below meth c C H locs ls hW hS hl)
theorem kv_alen {q t N0 : Nat} {v : Int32} (hd : decode M.2.1 pc = .ok (.arraylength, 1)) (hs : sh q = .inr (t, N0)) (ht : t < 2) (hv : Int32.ofNat N0 = v) (kk : VV sh l M k n (pc + 1) lo (.int v :: st) σ o) : VV sh l M k n pc lo (.ref q :: st) σ o := by
  intro E A p e s m args below meth c C H locs ls hW hS hl
  obtain ⟨j0, hj0, hset⟩ := kwl_at (E := E) σ (hW.at hs (fun n h => by injection h with h; injection h with h _; omega))
  rcases (show t = 0 ∨ t = 1 by omega) with rfl | rfl
  · exact va_alen (D := E.1) (x := (N0, .inl (σ q))) C.1 C.2.1 hW.2.1 hW.1 j0 0 (hj0.trans (by rw [kce_i hs])) rfl hv hd (kk E A p e s m args below meth c C H locs ls hW hS hl)
  · exact va_alen (D := E.1) (x := (N0, .inl (σ q))) C.1 C.2.1 hW.2.1 hW.1 j0 1 (hj0.trans (by rw [kce_z hs])) rfl hv hd (kk E A p e s m args below meth c C H locs ls hW hS hl)
theorem kv_gets {ix j : Nat} (hd : decode M.2.1 pc = .ok (.getstatic ix, 3)) (hj : j < 4) (hlk : Cond.fieldLink M.1 ix RX1 (kstn j) "[I" ∈ kg) (kk : VV sh l M k n (pc + 3) lo (.ref (1000 + j) :: st) σ o) : VV sh l M k n pc lo st σ o := by
  intro E A p e s m args below meth c C H locs ls hW hS hl
  exact va_gets C.1 C.2.1 (C.2.2.2.2.2.2.2.2.2.1.1 j hj).1 hS C.2.2.2.2.1 (C.2.2.2.2.2.2.1 _ hlk) (fun _ h9 => h9) hd (kk E A p e s m args below meth c C H locs ls hW hS hl)
def kst (j : Nat) (i : Int32) : Int32 := (kstv.getD j []).getD i.toNatClampNeg 0
theorem kv_tald {α : Type} {B : Option α} {r : α} {q j N0 : Nat} {i : Int32} (hd : decode M.2.1 pc = .ok (.iaload, 1)) (hq : q = 1000 + j) (hj : j < 4) (hN : kstl j = N0) (h : (if kin i N0 = true then B else none) = some r) (kk : B = some r → VV sh l M k n (pc + 1) lo (.int (kst j i) :: st) σ o) : VV sh l M k n pc lo (.int i :: .ref q :: st) σ o := by
  intro E A p e s m args below meth c C H locs ls hW hS hl
  obtain ⟨h1, h2⟩ := kif h
  subst hq
  exact va_ti C.1 C.2.1 (C.2.2.2.2.2.2.2.2.2.1.1 j hj).2 hS (hN ▸ kin_in h1) rfl hd (kk h2 E A p e s m args below meth c C H locs ls hW hS hl)
theorem kv_tlen {q j : Nat} {v : Int32} (hd : decode M.2.1 pc = .ok (.arraylength, 1)) (hq : q = 1000 + j) (hj : j < 4) (hv : Int32.ofNat (kstl j) = v) (kk : VV sh l M k n (pc + 1) lo (.int v :: st) σ o) : VV sh l M k n pc lo (.ref q :: st) σ o := by
  intro E A p e s m args below meth c C H locs ls hW hS hl
  subst hq
  exact va_tlen C.1 C.2.1 (C.2.2.2.2.2.2.2.2.2.1.1 j hj).2 hS hv hd (kk E A p e s m args below meth c C H locs ls hW hS hl)
theorem kv_iret {v : Int32} (hd : decode M.2.1 pc = .ok (.ireturn, 1)) (hr : M.2.2.2.1 = some .int) (ho : o = (0, .int v, σ)) (hk : k ≤ M.2.2.2.2.2.1) (hn : n ≤ M.2.2.2.2.2.2) : VV sh l M k n pc lo [.int v] σ o := by
  intro E A p e s m args below meth c C H locs ls hW hS hl
  subst ho
  refine W.widen hk hn (vx_ret (W.iret (v := v) C.1 C.2.1 (by rw [C.2.2.2.1, hr]) (fun t ht hW9 => ⟨⟨rfl, ?_, by rw [ht]; exact WD.moved hW9.alike hW⟩, hS.F ht⟩) hS.2.2 hd C.2.2.2.2.2.1))
  rw [hr]; rfl
theorem kv_zret {v : Int32} {ty : FieldType} (hd : decode M.2.1 pc = .ok (.ireturn, 1)) (hr : M.2.2.2.1 = some ty) (hv : narrow ty (.int v) = .int v) (ho : o = (0, .int v, σ)) (hk : k ≤ M.2.2.2.2.2.1) (hn : n ≤ M.2.2.2.2.2.2) : VV sh l M k n pc lo [.int v] σ o := by
  intro E A p e s m args below meth c C H locs ls hW hS hl
  subst ho
  refine W.widen hk hn (vx_ret (W.zret (v := v) C.1 C.2.1 (by rw [C.2.2.2.1, hr]) hv (fun t ht hW9 => ⟨⟨rfl, ?_, by rw [ht]; exact WD.moved hW9.alike hW⟩, hS.F ht⟩) hS.2.2 hd C.2.2.2.2.2.1))
  rw [hr]; rfl
theorem kv_vret {v : Value} (hd : decode M.2.1 pc = .ok (.return_, 1)) (hr : M.2.2.2.1 = none) (ho : o = (0, v, σ)) (hk : k ≤ M.2.2.2.2.2.1) (hn : n ≤ M.2.2.2.2.2.2) : VV sh l M k n pc lo [] σ o := by
  intro E A p e s m args below meth c C H locs ls hW hS hl
  subst ho
  refine W.widen hk hn (vx_ret (W.vret C.1 C.2.1 (by rw [C.2.2.2.1, hr]) (fun t ht hW9 => ⟨⟨rfl, ?_, by rw [ht]; exact WD.moved hW9.alike hW⟩, hS.F ht⟩) hS.2.2 hd C.2.2.2.2.2.1))
  rw [hr]; rfl
theorem kv_dret {v : UInt64} (hd : decode M.2.1 pc = .ok (.dreturn, 1)) (hr : M.2.2.2.1 = some .double) (ho : o = (0, .double v, σ)) (hk : k ≤ M.2.2.2.2.2.1) (hn : n ≤ M.2.2.2.2.2.2) : VV sh l M k n pc lo [.double v] σ o := by
  intro E A p e s m args below meth c C H locs ls hW hS hl
  subst ho
  refine W.widen hk hn (vx_ret (W.dret (v := v) C.1 C.2.1 (by rw [C.2.2.2.1, hr]) (fun t ht hW9 => ⟨⟨rfl, ?_, by rw [ht]; exact WD.moved hW9.alike hW⟩, hS.F ht⟩) hS.2.2 hd C.2.2.2.2.2.1))
  rw [hr]; rfl
theorem kv_fret {v : UInt32} (hd : decode M.2.1 pc = .ok (.freturn, 1)) (hr : M.2.2.2.1 = some .float) (ho : o = (0, .float v, σ)) (hk : k ≤ M.2.2.2.2.2.1) (hn : n ≤ M.2.2.2.2.2.2) : VV sh l M k n pc lo [.float v] σ o := by
  intro E A p e s m args below meth c C H locs ls hW hS hl
  subst ho
  refine W.widen hk hn (vx_ret (W.fret (v := v) C.1 C.2.1 (by rw [C.2.2.2.1, hr]) (fun t ht hW9 => ⟨⟨rfl, ?_, by rw [ht]; exact WD.moved hW9.alike hW⟩, hS.F ht⟩) hS.2.2 hd C.2.2.2.2.2.1))
  rw [hr]; rfl
theorem kv_scld {α : Type} {B : Option α} {r : α} {i : Int32} (hd : decode M.2.1 pc = .ok (.iaload, 1)) (h : (if kin i (scl sh) = true then B else none) = some r) (kk : B = some r → VV sh l M k n (pc + 1) lo (.int (scx sh i.toNatClampNeg) :: st) σ o) : VV sh l M k n pc lo (.int i :: .ref 3100 :: st) σ o := by
  intro E A p e s m args below meth c C H locs ls hW hS hl
  obtain ⟨h1, h2⟩ := kif h
  exact va_ti C.1 C.2.1 C.2.2.2.2.2.2.2.2.2.1.2.2.2.2.2.2.2.1 hS (kin_in h1) rfl hd (kk h2 E A p e s m args below meth c C H locs ls hW hS hl)
theorem kv_sclen (hd : decode M.2.1 pc = .ok (.arraylength, 1)) (kk : VV sh l M k n (pc + 1) lo (.int (nI (scl sh)) :: st) σ o) : VV sh l M k n pc lo (.ref 3100 :: st) σ o := by
  intro E A p e s m args below meth c C H locs ls hW hS hl
  exact va_tlen C.1 C.2.1 C.2.2.2.2.2.2.2.2.2.1.2.2.2.2.2.2.2.1 hS rfl hd (kk E A p e s m args below meth c C H locs ls hW hS hl)
theorem kv_ldci {ix : Nat} {v : Int32} (hd : decode M.2.1 pc = .ok (.ldc ix, 2)) (hk : Cond.constant M.1 ix v ∈ kg) (kk : VV sh l M k n (pc + 2) lo (.int v :: st) σ o) : VV sh l M k n pc lo st σ o :=
  fun E A p e s m args below meth c C H locs ls hW hS hl => lv_ldc C.1 C.2.1 C.2.2.2.2.1 (C.2.2.2.2.2.2.1 _ hk) hd (kk E A p e s m args below meth c C H locs ls hW hS hl)
end KVROWS
