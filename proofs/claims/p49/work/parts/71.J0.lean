/-! the JDK's own StringBuilder: contracts over plain lists of cells -/
def tyb (E : KE) : List (ClassId × FieldType) := [(E.2.2 4, .byte)]
/-- the law's four pieces of text -/
def jst (j : Nat) : String := ["angle ", " radius ", ";keep ", ";"].getD j ""
def jsx (j : Nat) : Nat := [157, 169, 171, 173].getD j 0
def jby (j : Nat) : List Nat := [[97, 110, 103, 108, 101, 32], [32, 114, 97, 100, 105, 117, 115, 32], [59, 107, 101, 101, 112, 32], [59]].getD j []
def JSS (E : KE) (A : Nat → Prop) (U : State) (H : Heap) (j : Nat) : Prop :=
  va_O "java/lang/String" (E.2.1 (2020 + j)) A U H ∧ va_OF "java/lang/String" "coder" "B" (.int 0) (E.2.1 (2020 + j)) A U H ∧ va_OF "java/lang/String" "value" "[B" (.ref (E.2.1 (2120 + j))) (E.2.1 (2020 + j)) A U H ∧ va_T .byte (E.2.1 (2120 + j)) (jby j).length (fun i => .int (nI ((jby j).getD i 0))) A U H ∧ vk_R RL (jsx j) (jst j) (E.2.1 (2020 + j)) U
/-- the class above has private methods: how they are chosen -/
def jsel : List Cond := [.selects RJ4 yJ5_ensureCapacityInternal_d00df yJ5_ensureCapacityInternal_d00df, .selects RJ4 yJ5_newCapacity_0f7a4 yJ5_newCapacity_0f7a4, .selects RJ4 yJ5_putStringAt_47b60 yJ5_putStringAt_47b60, .selects RJ4 yJ5_inflateIfNeededFor_a7421 yJ5_inflateIfNeededFor_a7421]
theorem jsel_ok : jsel.all (fun w => w.onTables && w.keepsFace) = true := by decide +kernel
theorem jsel_moved {w : Cond} (hw : w ∈ jsel) {u U : State} (hW : u.WarmedH U.vm) (h : w.before #[] u = true) : w.before #[] U = true := by
  have h0 := List.all_eq_true.mp jsel_ok w hw
  simp only [Bool.and_eq_true] at h0
  exact va_tabs h0.1 (rfl : (u.setVm U.vm).vm = U.vm) (Cond.before_shiftedFace (State.Shifted.of_warmed hW) w h0.2 h)
/-- what lies still: the flag of compact texts, the pieces, the two tables of digits -/
def JF (E : KE) (A : Nat → Prop) (U : State) (H : Heap) : Prop :=
  va_Z "java/lang/String" "COMPACT_STRINGS" "Z" (.int 1) A U H ∧ (∀ j, j < 4 → JSS E A U H j) ∧
  va_Z "java/lang/Integer" "DigitOnes" "[B" (.ref (E.2.1 3200)) A U H ∧ va_T .byte (E.2.1 3200) 100 (fun i => .int (nI (48 + i % 10))) A U H ∧
  va_Z "java/lang/Integer" "DigitTens" "[B" (.ref (E.2.1 3201)) A U H ∧ va_T .byte (E.2.1 3201) 100 (fun i => .int (nI (48 + i / 10))) A U H ∧ ∀ w ∈ jsel, w.before #[] U = true
theorem JF.moved {E : KE} {A : Nat → Prop} {u U : State} {H : Heap} (hW : u.WarmedH U.vm) (h : JF E A u H) : JF E A U H := by
  have hvm : u.vm.Alike U.vm := hW.alike
  obtain ⟨h1, h2, h3, h4, h5, h6, h7⟩ := h
  exact ⟨va_Z.moved hvm h1, fun j hj => ⟨va_O.moved hvm (h2 j hj).1, va_OF.moved hvm (h2 j hj).2.1, va_OF.moved hvm (h2 j hj).2.2.1, va_T.moved hvm (h2 j hj).2.2.2.1, vk_R.warm hW (h2 j hj).2.2.2.2⟩, va_Z.moved hvm h3, va_T.moved hvm h4, va_Z.moved hvm h5, va_T.moved hvm h6, fun w hw => jsel_moved hw hW (h7 w hw)⟩
theorem JF.kept {E : KE} {A : Nat → Prop} {U : State} {H H1 : Heap} (h : JF E A U H) (hq : ∀ a : Nat, a < H.size → ¬ A a → H1[a]? = H[a]?) : JF E A U H1 := by
  obtain ⟨h1, h2, h3, h4, h5, h6, h7⟩ := h
  exact ⟨h1.kept hq, fun j hj => ⟨(h2 j hj).1.kept hq, (h2 j hj).2.1.kept hq, (h2 j hj).2.2.1.kept hq, (h2 j hj).2.2.2.1.kept hq, (h2 j hj).2.2.2.2⟩, h3.kept hq, h4.kept hq, h5.kept hq, h6.kept hq, h7⟩
theorem JF.narrow {E : KE} {A B : Nat → Prop} {U : State} {H : Heap} (h : JF E A U H) (hAB : ∀ q, B q → A q) : JF E B U H := by
  obtain ⟨h1, h2, h3, h4, h5, h6, h7⟩ := h
  exact ⟨h1.narrow hAB, fun j hj => ⟨(h2 j hj).1.narrow hAB, (h2 j hj).2.1.narrow hAB, (h2 j hj).2.2.1.narrow hAB, (h2 j hj).2.2.2.1.narrow hAB, (h2 j hj).2.2.2.2⟩, h3.narrow hAB, h4.narrow hAB, h5.narrow hAB, h6.narrow hAB, h7⟩
theorem j_selM {E0 : KE} {A : Nat → Prop} {s : State} {args : Array Value} {w : Cond} (hw : w ∈ jsel) (hF : JF E0 A s s.heap) : w.before args s = true := by
  have h0 := List.all_eq_true.mp jsel_ok w hw
  simp only [Bool.and_eq_true] at h0
  exact va_tabs h0.1 rfl (hF.2.2.2.2.2.2 w hw)
def JX (E0 : KE) (own : String) (cc : ByteArray) (nL : Nat) (A : Nat → Prop) (p : Program) (s : State) (m : MethodId) (args : Array Value) (c : Code) : Prop :=
  p.tables.exec = Jvm.exec ∧ c.code = cc ∧ c.maxLocals = nL ∧ s.vm.findClass own = some m.cls ∧ (∀ w ∈ kg, w.before args s = true) ∧ (∀ q, s.heap.size ≤ q → A q) ∧ va_K E0.1 vwCl (tyb E0) s ∧ JF E0 A s s.heap
def JQ (QQ : Option Value → va_W → Prop) (D : va_G) (A : Nat → Prop) : Array Value → State → Outcome → State → Prop := fun _ st oc t => (∃ (v : Option Value) (w : va_W), oc = .returned v ∧ QQ v w ∧ va_P D vwCl w t.heap ∧ va_D A w) ∧ va_F A st t
/-- a contract: in the world ws it answers v, and w is left -/
def JC (l : Launch) (E0 : KE) (y : MethodName) (M : KM) (As : List Value) (ws : va_W) (QQ : Option Value → va_W → Prop) : Prop :=
  ∀ sz : Nat, Met l y (Cond.code y M.2.1 M.2.2.1 M.2.2.2.1 :: kg) M.2.2.2.2.1
    (va_Pc As (fun U => U.heap.size = sz ∧ va_P E0.1 vwCl ws U.heap ∧ va_D (va_A ws sz) ws ∧ va_K E0.1 vwCl (tyb E0) U ∧ JF E0 (va_A ws sz) U U.heap))
    (JQ QQ E0.1 (va_A ws sz)) M.2.2.2.2.2.1 M.2.2.2.2.2.2 (va_A ws sz)
def JB (E0 : KE) (y : MethodName) (M : KM) (QQ : Option Value → va_W → Prop) (A : Nat → Prop) (p : Program) (s : State) (m : MethodId) (args : Array Value) (below : List Frame) (meth : Method) (c : Code) (Q : State → Prop) : Prop :=
  JX E0 M.1 M.2.1 M.2.2.1 A p s m args c ∧ meth.name = y.name ∧ meth.sig.returnType = M.2.2.2.1 ∧ meth.locks = false ∧ Q = MQ below (JQ QQ E0.1 A) args s M.2.2.2.2.2.1 M.2.2.2.2.2.2 A
theorem jc_of {l : Launch} {E0 : KE} {y : MethodName} {M : KM} {As : List Value} {ws : va_W} {QQ : Option Value → va_W → Prop} (lo : List (Nat × Value)) (hy : plainName y.cls = true) (hyc : y.cls = M.1) (hlo : lv_args 0 As = lo) (hsl : (lg_sl As).length ≤ M.2.2.1)
    (body : ∀ (A : Nat → Prop) (p : Program) (e : Env) (s : State) (m : MethodId) (args : Array Value) (below : List Frame) (meth : Method) (c : Code) (Q : State → Prop), JB E0 y M QQ A p s m args below meth c Q →
      ∀ (H : Heap) (locs : List Loc) (ls : Array Slot), va_P E0.1 vwCl ws H → va_D A ws → va_S A s.heap H locs → lv_has ls M.2.2.1 lo → W p l e M.2.2.2.2.1 s m args below meth c H locs 0 0 Q (F0 m 0 ls [])) : JC l E0 y M As ws QQ := by
  intro sz
  refine Met.ofW (cc := M.2.1) (maxL := M.2.2.1) (ret := M.2.2.2.1) hy rfl ?_
  intro p e s m args below meth c s₁ B hml hv
  obtain ⟨rfl, hsz, hP, hD, hK, hF⟩ := hv
  subst hsz
  have hts0 := atoms_spec (ws := Cond.code y M.2.1 M.2.2.1 M.2.2.2.1 :: kg) B.pre
  have hts : ∀ w ∈ kg, w.before As.toArray s = true := fun w h => hts0 w (List.mem_cons_of_mem _ h)
  have hown : s.vm.findClass M.1 = some m.cls := hyc ▸ findClass_of_methodNamed B.named
  have hl := lv_entry As (n := M.2.2.1) hsl
  rw [lg_entry_eq]
  rw [hlo] at hl
  exact body (va_A ws s.heap.size) p e s m _ below meth c _ ⟨⟨B.exec, B.bytes, hml, hown, hts, fun q h => .inr h, hK, hF⟩, (name_of_methodNamed B.named B.method).1, B.returns, B.notSynchronized, rfl⟩ s.heap [] _ hP hD va_S.rf hl
section JROWS
variable {l : Launch} {E0 : KE} {y : MethodName} {M : KM} {QQ : Option Value → va_W → Prop} {A : Nat → Prop} {p : Program} {e : Env} {R : Room} {s : State} {m : MethodId} {args : Array Value} {below : List Frame} {meth : Method} {c : Code} {Q : State → Prop} {H : Heap} {locs : List Loc} {ls : Array Slot} {k n pc : Nat} {ws : va_W} {st : List Value}
theorem j_vret (B : JB E0 y M QQ A p s m args below meth c Q) (hd : decode M.2.1 pc = .ok (.return_, 1)) (hr : M.2.2.2.1 = none) (hq : QQ none ws) (hk : k ≤ M.2.2.2.2.2.1) (hn : n ≤ M.2.2.2.2.2.2) (hP : va_P E0.1 vwCl ws H) (hD : va_D A ws) (hS : va_S A s.heap H locs) : W p l e R s m args below meth c H locs k n Q (F0 m pc ls []) := by
  obtain ⟨⟨hx, hb, -⟩, -, h3, h4, rfl⟩ := B
  exact W.widen hk hn (W.vret hx hb (h3.trans hr) (fun t ht hW => ⟨⟨none, ws, rfl, hq, by rw [ht]; exact hP, hD⟩, hS.F ht⟩) hS.2.2 hd h4)
theorem j_iret {v : Int32} {ty : FieldType} (B : JB E0 y M QQ A p s m args below meth c Q) (hd : decode M.2.1 pc = .ok (.ireturn, 1)) (hr : M.2.2.2.1 = some ty) (hnr : narrow ty (.int v) = .int v) (hq : QQ (some (.int v)) ws) (hk : k ≤ M.2.2.2.2.2.1) (hn : n ≤ M.2.2.2.2.2.2) (hP : va_P E0.1 vwCl ws H) (hD : va_D A ws) (hS : va_S A s.heap H locs) : W p l e R s m args below meth c H locs k n Q (F0 m pc ls [.int v]) := by
  obtain ⟨⟨hx, hb, -⟩, -, h3, h4, rfl⟩ := B
  exact W.widen hk hn (W.zret hx hb (h3.trans hr) hnr (fun t ht hW => ⟨⟨_, ws, rfl, hq, by rw [ht]; exact hP, hD⟩, hS.F ht⟩) hS.2.2 hd h4)
theorem j_aret {v : Nat} {ty : FieldType} (B : JB E0 y M QQ A p s m args below meth c Q) (hd : decode M.2.1 pc = .ok (.areturn, 1)) (hr : M.2.2.2.1 = some ty) (hty : (∃ n, ty = .object n) ∨ ∃ t, ty = .array t) (hq : QQ (some (.ref v)) ws) (hk : k ≤ M.2.2.2.2.2.1) (hn : n ≤ M.2.2.2.2.2.2) (hP : va_P E0.1 vwCl ws H) (hD : va_D A ws) (hS : va_S A s.heap H locs) : W p l e R s m args below meth c H locs k n Q (F0 m pc ls [.ref v]) := by
  obtain ⟨⟨hx, hb, -⟩, -, h3, h4, rfl⟩ := B
  exact W.widen hk hn (W.aret hx hb (h3.trans hr) hty (.inr ⟨v, rfl⟩) (fun t ht hW => ⟨⟨_, ws, rfl, hq, by rw [ht]; exact hP, hD⟩, hS.F ht⟩) hS.2.2 hd h4)
theorem j_i {x x' : Int32} (h : x = x') (kk : W p l e R s m args below meth c H locs k n Q (F0 m pc ls (.int x' :: st))) : W p l e R s m args below meth c H locs k n Q (F0 m pc ls (.int x :: st)) := h ▸ kk
theorem j_newB {own : String} {cc : ByteArray} {nL : Nat} {v : Int32} {N : Nat} (C : JX E0 own cc nL A p s m args c) (hd : decode cc pc = .ok (.newarray .byte, 2)) (harr : Cond.arrayClass .byte ∈ kg) (hv : ¬ v < 0) (hN : v.toNatClampNeg = N) (hb : N ≤ 34) (hf : k + 1 ≤ R.cells ∧ n + 34 ≤ R.slots) (hP : va_P E0.1 vwCl ws H) (hD : va_D A ws) (hS : va_S A s.heap H locs)
    (kk : ∀ (q : Nat) (H1 : Heap), va_P E0.1 vwCl (ws ++ [(q, .inl (E0.2.2 4, N, .inl (fun _ => 0)))]) H1 → va_D A (ws ++ [(q, .inl (E0.2.2 4, N, .inl (fun _ => 0)))]) → va_S A s.heap H1 locs → W p l e R s m args below meth c H1 locs (k + 1) (n + 34) Q (F0 m (pc + 2) ls (.ref q :: st))) : W p l e R s m args below meth c H locs k n Q (F0 m pc ls (.int v :: st)) := by
  refine va_newaK (atype := .byte) (N := N) C.1 C.2.1 (C.2.2.2.2.1 _ harr) rfl hd rfl hv hN (by show N * 1 ≤ _; omega) hf.1 (Nat.le_trans (Nat.add_le_add_left hb n) hf.2) rfl fun H1 cA e1 z1 o1 hAr hNm => ?_
  have hcA : cA = E0.2.2 4 := by
    have h := (C.2.2.2.2.2.2.1.2 0 (E0.2.2 4, .byte) rfl).2
    exact Option.some.inj (hNm.symm.trans h)
  subst hcA
  refine W.widen (Nat.le_refl _) (Nat.add_le_add_left hb n) (kk H.size H1 ?_ (hD.push hP rfl (C.2.2.2.2.2.1 _ hS.1)) ⟨Nat.le_trans hS.1 (by omega), fun x h1 h2 => (o1 x (Nat.lt_of_lt_of_le h1 hS.1)).trans (hS.2.1 x h1 h2), hS.2.2⟩)
  refine (hP.kept (fun k x hx => o1 x.1 ((hP k x hx).lt))).app (fun k x hx => ?_)
  have hz : k < 1 := (List.getElem?_eq_some_iff.mp hx).1
  rw [show k = 0 by omega] at hx
  cases hx
  exact e1
theorem j_call {QQ1 : Option Value → va_W → Prop} {D : va_G} {A1 : Nat → Prop} {mc ms : Nat} {rest st0 : List Value} {free : Addr → Prop} {a : Array Value} (hr : va_Run p l e R s m args below meth c H locs k n mc ms (F0 m pc ls st0) rest (JQ QQ1 D A1 a) free) (hS : va_S A s.heap H locs) (hA : ∀ q, q < H.size → A1 q → A q) (hf : ∀ q, free q → A q)
    (kk : ∀ (v : Option Value) (w : va_W) (H1 : Heap) (locs1 : List Loc), QQ1 v w → va_P D vwCl w H1 → va_D A1 w → (∀ q : Nat, q < H.size → ¬ A1 q → H1[q]? = H[q]?) → va_S A s.heap H1 locs1 → W p l e R s m args below meth c H1 locs1 (k + mc) (n + ms) Q (F0 m (pc + 3) ls (v.toList ++ rest))) : W p l e R s m args below meth c H locs k n Q (F0 m pc ls st0) := by
  intro T hT X
  obtain ⟨v, st₀, t, T', L, h0, X', hL, e1, e2, ⟨⟨v2, w, hv, hq, hp, hd⟩, hz, hk⟩, st⟩ := hr T hT X
  cases hv
  rw [h0] at hz hk
  obtain ⟨t2, a1, b1⟩ := kk v w T'.heap (locs ++ L) hq (by rw [e1]; exact hp) hd (fun q h1 h2 => by rw [e1]; exact hk q h1 h2)
    ⟨Nat.le_trans hS.1 (by rw [e1]; exact hz), fun q h1 h2 => by rw [e1, hk q (Nat.lt_of_lt_of_le h1 hS.1) (fun z => h2 (hA q (Nat.lt_of_lt_of_le h1 hS.1) z))]; exact hS.2.1 q h1 h2, fun q hq => by
      rcases List.mem_append.mp hq with h | h
      · exact hS.2.2 q h
      · exact hf _ (hL q h)⟩ T' rfl X'
  exact ⟨t2, st t2 a1, b1⟩
theorem j_blind {E0 : KE} {As : List Value} {ws : va_W} {sz : Nat} : FrameBlind (va_Pc As (fun U => U.heap.size = sz ∧ va_P E0.1 vwCl ws U.heap ∧ va_D (va_A ws sz) ws ∧ va_K E0.1 vwCl (tyb E0) U ∧ JF E0 (va_A ws sz) U U.heap)) :=
  fun a U g mk q => ⟨q.1, q.2.1, q.2.2.1, q.2.2.2.1, va_K.moved (u := U) (U := U.calling g mk a) (Vm.Alike.refl U.vm) q.2.2.2.2.1, JF.moved (u := U) (U := U.calling g mk a) (State.WarmedH.refl U) q.2.2.2.2.2⟩
theorem j_pre {wc : va_W} (isC : List Nat) (hnC : va_nd isC = true) (hC : isC.map (fun i => ws[i]?) = wc.map some) (hA : ∀ q, s.heap.size ≤ q → A q) (hK : va_K E0.1 vwCl (tyb E0) s) (hF : JF E0 A s s.heap) (hP : va_P E0.1 vwCl ws H) (hD : va_D A ws) (hS : va_S A s.heap H locs) {U : State} (hU : U.heap = H) (hW : s.WarmedH U.vm) : U.heap.size = H.size ∧ va_P E0.1 vwCl wc U.heap ∧ va_D (va_A wc H.size) wc ∧ va_K E0.1 vwCl (tyb E0) U ∧ JF E0 (va_A wc H.size) U U.heap := by
  have hf := va_free hD hS hA isC hC
  have at' : ∀ (k : Nat) (q : Nat × va_E), wc[k]? = some q → ∃ i, isC[k]? = some i ∧ ws[i]? = some q := by
    intro k q hq
    have h1 : (isC.map (fun i => ws[i]?))[k]? = some (some q) := by rw [hC, List.getElem?_map, hq]; rfl
    rw [List.getElem?_map] at h1
    cases hi : isC[k]? with
    | none => rw [hi] at h1; cases h1
    | some i => rw [hi] at h1; exact ⟨i, rfl, Option.some.inj h1⟩
  refine ⟨by rw [hU], ?_, ?_, va_K.moved hW.alike hK, ?_⟩
  · rw [hU]
    intro k q hq
    obtain ⟨i, -, h2⟩ := at' k q hq
    exact hP i q h2
  · exact (hD.sub isC hnC hC).self
  · rw [hU]
    exact ((hF.kept hS.2.1).moved hW).narrow hf
theorem j_out {wc wr : va_W} (isC isR : List Nat) (hC : isC.map (fun i => ws[i]?) = wc.map some) (hR : isR.map (fun i => ws[i]?) = wr.map some) (hnR : va_nd isR = true) (hdis : ∀ i ∈ isR, i ∉ isC) {QQ1 : Option Value → va_W → Prop} {mc ms : Nat} {rest st0 : List Value} {a : Array Value} (hA : ∀ q, s.heap.size ≤ q → A q) (hP : va_P E0.1 vwCl ws H) (hD : va_D A ws) (hS : va_S A s.heap H locs)
    (hr : va_Run p l e R s m args below meth c H locs k n mc ms (F0 m pc ls st0) rest (JQ QQ1 E0.1 (va_A wc H.size) a) (va_A wc H.size))
    (kk : ∀ (v : Option Value) (w : va_W) (H1 : Heap) (locs1 : List Loc), QQ1 v w → va_P E0.1 vwCl (wr ++ w) H1 → va_D A (wr ++ w) → va_S A s.heap H1 locs1 → W p l e R s m args below meth c H1 locs1 (k + mc) (n + ms) Q (F0 m (pc + 3) ls (v.toList ++ rest))) : W p l e R s m args below meth c H locs k n Q (F0 m pc ls st0) := by
  have hf := va_free hD hS hA isC hC
  refine j_call hr hS (fun q _ h => hf q h) hf (fun v w H1 locs1 hq hp hd hk hS1 => ?_)
  obtain ⟨j1, j2⟩ := va_join hP hD isC isR hC hR hnR hdis hk hf hp hd
  exact kk v w H1 locs1 hq j1 j2 hS1
/-- the words of a method, but how it is chosen -/
def KMW (y : MethodName) (M : KM) (na : Nat) : Prop :=
  (y.cls ≠ "java/lang/invoke/MethodHandle" ∧ y.cls ≠ "java/lang/invoke/VarHandle" ∧ (parseMethodDescriptor y.desc).map (fun d => d.parameters.length) = some na) ∧ (M.2.2.2.2.1.cells = M.2.2.2.2.2.1 ∧ M.2.2.2.2.1.slots = M.2.2.2.2.2.2) ∧
  Cond.initialized y.cls ∈ kg ∧ Cond.code y M.2.1 M.2.2.1 M.2.2.2.1 ∈ kg
theorem kgc {w0 : Cond} (h : w0 ∈ kg) : GoodIn kg (w0 :: kg) := fun w hw => by
  rcases List.mem_cons.mp hw with rfl | hw
  · exact kgood h
  · exact kgood hw
variable {own : String} {cc : ByteArray} {nL : Nat} {M1 : KM} {y1 : MethodName} {QQ1 : Option Value → va_W → Prop} {wc : va_W} {ix : Nat} {As stk : List Value}
theorem j_V {b : Nat} {C0 : String} (wr : va_W) (isC isR : List Nat) (C : JX E0 own cc nL A p s m args c) (hC : isC.map (fun i => ws[i]?) = wc.map some) (hR : isR.map (fun i => ws[i]?) = wr.map some) (hnC : va_nd isC = true) (hnR : va_nd isR = true) (hdis : ∀ i ∈ isR, i ∉ isC) (hc : JC l E0 y1 M1 (.ref b :: As) wc QQ1) (hd : decode cc pc = .ok (.invokevirtual ix, 3)) (hst : stk = As.reverse ++ .ref b :: st)
    (hrec : ∃ cell : Cell, H[b]? = some cell ∧ cell.vm.isStatics = false ∧ s.vm.findClass C0 = some cell.cls) (hy : KMW y1 M1 As.length) (hlk : Cond.methodLink own ix y1 ∈ kg) (hin : Cond.instanceMethod y1 ∈ kg) (hse : (Cond.selects C0 y1 y1).before args s = true)
    (hRm : M1.2.2.2.2.1.frames + 1 ≤ R.frames ∧ 8 + (M1.2.2.1 + 11) + M1.2.2.2.2.1.locals ≤ R.locals) (hcat : (st.map fun v => v.category).sum ≤ 8) (hf : k + M1.2.2.2.2.2.1 ≤ R.cells ∧ n + M1.2.2.2.2.2.2 ≤ R.slots) (hl : ls.size = nL) (hP : va_P E0.1 vwCl ws H) (hD : va_D A ws) (hS : va_S A s.heap H locs)
    (kk : ∀ (v : Option Value) (w : va_W) (H1 : Heap) (locs1 : List Loc), QQ1 v w → va_P E0.1 vwCl (wr ++ w) H1 → va_D A (wr ++ w) → va_S A s.heap H1 locs1 → W p l e R s m args below meth c H1 locs1 (k + M1.2.2.2.2.2.1) (n + M1.2.2.2.2.2.2) Q (F0 m (pc + 3) ls (v.toList ++ st))) : W p l e R s m args below meth c H locs k n Q (F0 m pc ls stk) := by
  subst hst
  obtain ⟨hx, hb, hml, hown, hts, hA, hK, hF⟩ := C
  obtain ⟨y2, y3, y4, y5⟩ := hy
  exact j_out isC isR hC hR hnR hdis hA hP hD hS (va_runV (As := As) (rest := st) (b := b) (C := C0) (n := As.length) (nL := nL) ⟨hx, hb, hml, hown, hts⟩ (hc H.size) ⟨callB_of As.length hts (kgc y5) rfl y3.1 y3.2 (hts _ y4) (hts _ hlk) y2 hRm, hts _ hin, hse⟩ ⟨j_blind, hrec, fun U hU hW => ⟨rfl, j_pre isC hnC hC hA hK hF hP hD hS hU hW⟩⟩ rfl rfl hl rfl (lv_room hcat) hd hf) kk
theorem j_S (wr : va_W) (isC isR : List Nat) (C : JX E0 own cc nL A p s m args c) (hC : isC.map (fun i => ws[i]?) = wc.map some) (hR : isR.map (fun i => ws[i]?) = wr.map some) (hnC : va_nd isC = true) (hnR : va_nd isR = true) (hdis : ∀ i ∈ isR, i ∉ isC) (hc : JC l E0 y1 M1 As wc QQ1) (hd : decode cc pc = .ok (.invokestatic ix, 3)) (hst : stk = As.reverse ++ st)
    (hy : KMW y1 M1 As.length) (hlk : Cond.methodLink own ix y1 ∈ kg) (hin : Cond.static y1 ∈ kg)
    (hRm : M1.2.2.2.2.1.frames + 1 ≤ R.frames ∧ 8 + (M1.2.2.1 + 11) + M1.2.2.2.2.1.locals ≤ R.locals) (hcat : (st.map fun v => v.category).sum ≤ 8) (hf : k + M1.2.2.2.2.2.1 ≤ R.cells ∧ n + M1.2.2.2.2.2.2 ≤ R.slots) (hl : ls.size = nL) (hP : va_P E0.1 vwCl ws H) (hD : va_D A ws) (hS : va_S A s.heap H locs)
    (kk : ∀ (v : Option Value) (w : va_W) (H1 : Heap) (locs1 : List Loc), QQ1 v w → va_P E0.1 vwCl (wr ++ w) H1 → va_D A (wr ++ w) → va_S A s.heap H1 locs1 → W p l e R s m args below meth c H1 locs1 (k + M1.2.2.2.2.2.1) (n + M1.2.2.2.2.2.2) Q (F0 m (pc + 3) ls (v.toList ++ st))) : W p l e R s m args below meth c H locs k n Q (F0 m pc ls stk) := by
  subst hst
  obtain ⟨hx, hb, hml, hown, hts, hA, hK, hF⟩ := C
  obtain ⟨y2, y3, y4, y5⟩ := hy
  exact j_out isC isR hC hR hnR hdis hA hP hD hS (va_runS (As := As) (rest := st) (n := As.length) (nL := nL) ⟨hx, hb, hml, hown, hts⟩ (hc H.size) ⟨callB_of As.length hts (kgc y5) rfl y3.1 y3.2 (hts _ y4) (hts _ hlk) y2 hRm, hts _ hin⟩ ⟨j_blind, fun U hU hW => ⟨rfl, j_pre isC hnC hC hA hK hF hP hD hS hU hW⟩⟩ rfl rfl hl rfl (lv_room hcat) hd hf) kk
theorem j_I {b : Nat} (wr : va_W) (isC isR : List Nat) (C : JX E0 own cc nL A p s m args c) (hC : isC.map (fun i => ws[i]?) = wc.map some) (hR : isR.map (fun i => ws[i]?) = wr.map some) (hnC : va_nd isC = true) (hnR : va_nd isR = true) (hdis : ∀ i ∈ isR, i ∉ isC) (hc : JC l E0 y1 M1 (.ref b :: As) wc QQ1) (hd : decode cc pc = .ok (.invokespecial ix, 3)) (hst : stk = As.reverse ++ .ref b :: st)
    (hy : KMW y1 M1 As.length) (hlk : Cond.methodLink own ix y1 ∈ kg) (hin : Cond.instanceMethod y1 ∈ kg) (hnm : y1.name = "<init>") (hret : M1.2.2.2.1 = none)
    (hRm : M1.2.2.2.2.1.frames + 1 ≤ R.frames ∧ 8 + (M1.2.2.1 + 11) + M1.2.2.2.2.1.locals ≤ R.locals) (hcat : (st.map fun v => v.category).sum ≤ 8) (hf : k + M1.2.2.2.2.2.1 ≤ R.cells ∧ n + M1.2.2.2.2.2.2 ≤ R.slots) (hl : ls.size = nL) (hP : va_P E0.1 vwCl ws H) (hD : va_D A ws) (hS : va_S A s.heap H locs)
    (kk : ∀ (v : Option Value) (w : va_W) (H1 : Heap) (locs1 : List Loc), QQ1 v w → va_P E0.1 vwCl (wr ++ w) H1 → va_D A (wr ++ w) → va_S A s.heap H1 locs1 → W p l e R s m args below meth c H1 locs1 (k + M1.2.2.2.2.2.1) (n + M1.2.2.2.2.2.2) Q (F0 m (pc + 3) ls (v.toList ++ st))) : W p l e R s m args below meth c H locs k n Q (F0 m pc ls stk) := by
  subst hst
  obtain ⟨hx, hb, hml, hown, hts, hA, hK, hF⟩ := C
  obtain ⟨y2, y3, y4, y5⟩ := hy
  have hc' := hc H.size
  rw [hret] at hc' y5
  exact j_out isC isR hC hR hnR hdis hA hP hD hS (va_runI (As := As) (rest := st) (b := b) (n := As.length) (nL := nL) ⟨hx, hb, hml, hown, hts⟩ hc' (cwI As.length hts (kgc y5) rfl y3.1 y3.2 (hts _ y4) (hts _ hlk) (hts _ hin) hnm y2 hRm) ⟨j_blind, fun U hU hW => ⟨rfl, j_pre isC hnC hC hA hK hF hP hD hS hU hW⟩⟩ rfl rfl hl rfl (lv_room hcat) hd hf) kk
/-- super.y -/
theorem j_U {b : Nat} {C0 : String} {N0 : Nat} (wr : va_W) (isC isR : List Nat) (C : JX E0 own cc nL A p s m args c) (hC : isC.map (fun i => ws[i]?) = wc.map some) (hR : isR.map (fun i => ws[i]?) = wr.map some) (hnC : va_nd isC = true) (hnR : va_nd isR = true) (hdis : ∀ i ∈ isR, i ∉ isC) (hc : JC l E0 y1 M1 (.ref b :: As) wc QQ1) (hd : decode cc pc = .ok (.invokespecial ix, 3)) (hst : stk = As.reverse ++ .ref b :: st)
    (hrec : ∃ cell : Cell, H[b]? = some cell ∧ cell.vm.isStatics = false ∧ s.vm.findClass C0 = some cell.cls) (hy : KMW y1 M1 As.length) (hlk : Cond.methodLink own ix y1 ∈ kg) (hin : Cond.instanceMethod y1 ∈ kg) (hno : y1.name ≠ "<init>") (hins : Cond.instantiable C0 N0 ∈ kg) (hsame : Cond.sameMethod y1.cls y1.cls y1.name y1.desc ∈ kg) (hsup : Cond.superclass own y1.cls ∈ kg)
    (hRm : M1.2.2.2.2.1.frames + 1 ≤ R.frames ∧ 8 + (M1.2.2.1 + 11) + M1.2.2.2.2.1.locals ≤ R.locals) (hcat : (st.map fun v => v.category).sum ≤ 8) (hf : k + M1.2.2.2.2.2.1 ≤ R.cells ∧ n + M1.2.2.2.2.2.2 ≤ R.slots) (hl : ls.size = nL) (hP : va_P E0.1 vwCl ws H) (hD : va_D A ws) (hS : va_S A s.heap H locs)
    (kk : ∀ (v : Option Value) (w : va_W) (H1 : Heap) (locs1 : List Loc), QQ1 v w → va_P E0.1 vwCl (wr ++ w) H1 → va_D A (wr ++ w) → va_S A s.heap H1 locs1 → W p l e R s m args below meth c H1 locs1 (k + M1.2.2.2.2.2.1) (n + M1.2.2.2.2.2.2) Q (F0 m (pc + 3) ls (v.toList ++ st))) : W p l e R s m args below meth c H locs k n Q (F0 m pc ls stk) := by
  subst hst
  obtain ⟨hx, hb, hml, hown, hts, hA, hK, hF⟩ := C
  obtain ⟨y2, y3, y4, y5⟩ := hy
  obtain ⟨cC, hat⟩ := classAt_of (hts _ hins)
  exact j_out isC isR hC hR hnR hdis hA hP hD hS (va_runSU (As := As) (rest := st) (b := b) (C := C0) (n := As.length) (nL := nL) hat ⟨hx, hb, hml, hown, hts⟩ (hc H.size) ⟨⟨y3.1, y3.2, hRm.1, hRm.2, pay_in hts (kgc y5), List.mem_cons_self⟩, hts _ hlk, hts _ hsame, hts _ hsup, hts _ hin, hts _ y4, hts _ y5, hno, fun sig h => by have h2 := y2.2.2; rw [h] at h2; exact (Option.some.inj h2).symm⟩ ⟨j_blind, hrec, fun U hU hW => ⟨rfl, j_pre isC hnC hC hA hK hF hP hD hS hU hW⟩⟩ rfl rfl hl rfl (lv_room hcat) hd hf) kk
/-- a call whose reference names x of the class above: y is run -/
theorem j_O {b : Nat} {C0 owner : String} {x : MethodName} {b0 : ByteArray} {m0 : Nat} {r0 : Option FieldType} (wr : va_W) (isC isR : List Nat) (C : JX E0 own cc nL A p s m args c) (hC : isC.map (fun i => ws[i]?) = wc.map some) (hR : isR.map (fun i => ws[i]?) = wr.map some) (hnC : va_nd isC = true) (hnR : va_nd isR = true) (hdis : ∀ i ∈ isR, i ∉ isC) (hc : JC l E0 y1 M1 (.ref b :: As) wc QQ1) (hd : decode cc pc = .ok (.invokevirtual ix, 3)) (hst : stk = As.reverse ++ .ref b :: st)
    (hrec : ∃ cell : Cell, H[b]? = some cell ∧ cell.vm.isStatics = false ∧ s.vm.findClass C0 = some cell.cls) (hy : KMW y1 M1 As.length) (hlk : Cond.methodLink own ix x ∈ kg) (hin : Cond.instanceMethod y1 ∈ kg) (hsel : Cond.selects C0 x y1 ∈ kg) (hsame : Cond.sameMethod x.cls owner x.name x.desc ∈ kg) (hin0 : Cond.instanceMethod ⟨owner, x.name, x.desc⟩ ∈ kg) (hc0 : Cond.code ⟨owner, x.name, x.desc⟩ b0 m0 r0 ∈ kg) (hdo : owner ≠ "java/lang/invoke/MethodHandle" ∧ owner ≠ "java/lang/invoke/VarHandle") (hxy : x.desc = y1.desc)
    (hRm : M1.2.2.2.2.1.frames + 1 ≤ R.frames ∧ 8 + (M1.2.2.1 + 11) + M1.2.2.2.2.1.locals ≤ R.locals) (hcat : (st.map fun v => v.category).sum ≤ 8) (hf : k + M1.2.2.2.2.2.1 ≤ R.cells ∧ n + M1.2.2.2.2.2.2 ≤ R.slots) (hl : ls.size = nL) (hP : va_P E0.1 vwCl ws H) (hD : va_D A ws) (hS : va_S A s.heap H locs)
    (kk : ∀ (v : Option Value) (w : va_W) (H1 : Heap) (locs1 : List Loc), QQ1 v w → va_P E0.1 vwCl (wr ++ w) H1 → va_D A (wr ++ w) → va_S A s.heap H1 locs1 → W p l e R s m args below meth c H1 locs1 (k + M1.2.2.2.2.2.1) (n + M1.2.2.2.2.2.2) Q (F0 m (pc + 3) ls (v.toList ++ st))) : W p l e R s m args below meth c H locs k n Q (F0 m pc ls stk) := by
  subst hst
  obtain ⟨hx, hb, hml, hown, hts, hA, hK, hF⟩ := C
  obtain ⟨y2, y3, y4, y5⟩ := hy
  exact j_out isC isR hC hR hnR hdis hA hP hD hS (va_runU (As := As) (rest := st) (b := b) (C := C0) (owner := owner) (x := x) (n := As.length) (nL := nL) ⟨hx, hb, hml, hown, hts⟩ (hc H.size) ⟨⟨y3.1, y3.2, hRm.1, hRm.2, pay_in hts (kgc y5), List.mem_cons_self⟩, hts _ y5, hts _ y4, hdo, fun sig h => by have h2 := y2.2.2; rw [← hxy, h] at h2; exact (Option.some.inj h2).symm, hts _ hlk, hts _ hsame, va_Decl.of (hts _ hin0) (hts _ hc0), hts _ hsel, hts _ hin⟩ ⟨j_blind, hrec, fun U hU hW => ⟨rfl, j_pre isC hnC hC hA hK hF hP hD hS hU hW⟩⟩ rfl rfl hl rfl (lv_room hcat) hd hf) kk
end JROWS
/-- a private method of the class above is chosen on an object of C0 -/
theorem j_selP {C0 : String} {y y0 : MethodName} {args : Array Value} {s : State} (hy : y.cls ≠ "java/lang/invoke/MethodHandle" ∧ y.cls ≠ "java/lang/invoke/VarHandle") (hcl : y0.cls = y.cls) (h0 : (Cond.selects C0 y0 y0).before args s = true) (hpriv : (Cond.privateMethod y).before args s = true) (hinst : (Cond.instanceMethod y).before args s = true) : (Cond.selects C0 y y).before args s = true := by
  obtain ⟨c2, r2, m2, q1, q2, q3, q4, kP, hkP, hkPi⟩ := Cond.selects_spec h0
  obtain ⟨mk, methM, hnamed, hmethM, -, -⟩ := Cond.instanceMethod_spec hinst
  have hfound : s.methodFound? y.cls y.name y.desc = some mk := State.methodFound?_of_named hnamed hy
  have hsel : selectMethod {} s.vm c2 mk = .method mk := selectMethod_private hmethM (Cond.privateMethod_at hpriv mk methM hnamed hmethM)
  have e1 := findClass_of_methodNamed q3
  have e2 := findClass_of_methodNamed hnamed
  have e3 : mk.cls = m2.cls := by rw [hcl] at e1; exact Option.some.inj (e2.symm.trans e1)
  have hkP' : s.vm.classes[mk.cls]? = some kP := by rw [e3]; exact hkP
  simp only [Cond.before, Cond.holds, Cond.value, q1, hfound, hnamed, hsel, hkP']
  simp
  exact hkPi
