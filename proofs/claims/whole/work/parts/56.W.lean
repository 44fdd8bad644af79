/-! the law's own helpers: they catch what the class throws -/
def XNC (U : State) : Prop := (∀ i j, 1 ≤ i → i ≤ 3 → 1 ≤ j → j ≤ 3 → i ≠ j → va_Nc (kxn i) (kxn j) U) ∧ ∀ i, 1 ≤ i → i ≤ 3 → (Cond.castable (kxn i) (kxn i)).before #[] U = true
theorem cas_ok (i : Nat) : (Cond.castable (kxn i) (kxn i)).onTables = true ∧ (Cond.castable (kxn i) (kxn i)).keepsFace = true := ⟨rfl, rfl⟩
theorem cas_args {i : Nat} {s : State} (args : Array Value) (h : (Cond.castable (kxn i) (kxn i)).before #[] s = true) : (Cond.castable (kxn i) (kxn i)).before args s = true := va_tabs (cas_ok i).1 rfl h
theorem XNC.moved {u U : State} (hW : u.WarmedH U.vm) (h : XNC u) : XNC U := ⟨fun i j a b c d e => va_Nc.moved hW.alike (h.1 i j a b c d e), fun i a b => va_tabs (cas_ok i).1 (rfl : (u.setVm U.vm).vm = U.vm) (Cond.before_shiftedFace (State.Shifted.of_warmed hW) _ (cas_ok i).2 (h.2 i a b))⟩
def KCW (hh : List (Nat × Nat × Nat × Nat)) (l : Launch) (M : KM) (E : KE) (A : Nat → Prop) (p : Program) (s : State) (m : MethodId) (args : Array Value) (meth : Method) (c : Code) : Prop :=
  p.tables.exec = Jvm.exec ∧ c.code = M.2.1 ∧ c.maxLocals = M.2.2.1 ∧ meth.sig.returnType = M.2.2.2.1 ∧ s.vm.findClass M.1 = some m.cls ∧ meth.locks = false ∧ (∀ w ∈ kg, w.before args s = true) ∧ c.exceptionTable.toList = tableOf hh ∧ (∀ q, s.heap.size ≤ q → A q) ∧ (KST E A s s.heap ∧ XNC s) ∧ l.stackTraces = false
def WV (hh : List (Nat × Nat × Nat × Nat)) (l : Launch) (M : KM) (k n pc : Nat) (lo : List (Nat × Value)) (st : List Value) (σ : Sto) (o : KO) : Prop :=
  ∀ (E : KE) (A : Nat → Prop) (p : Program) (e : Env) (s : State) (m : MethodId) (args : Array Value) (below : List Frame) (meth : Method) (c : Code), KCW hh l M E A p s m args meth c →
    ∀ (H : Heap) (locs : List Loc) (ls : Array Slot), WD E ksh A σ s H → va_S A s.heap H locs → lv_has ls M.2.2.1 (kml E lo) →
      W p l e M.2.2.2.2.1 s m args below meth c H locs k n (vx_MQ below (KQ E ksh M.2.2.2.1 o A) (KX E ksh o A) args s M.2.2.2.2.2.1 M.2.2.2.2.2.2 A) (F0 m pc ls (st.map (kmv E)))
def CTW (hh : List (Nat × Nat × Nat × Nat)) (l : Launch) (M : KM) (y : MethodName) (As : List Value) (σ : Sto) (o : KO) : Prop :=
  ∀ (E : KE) (sz : Nat), vx_Met l y (Cond.codeWith y M.2.1 M.2.2.1 M.2.2.2.1 hh :: kg) M.2.2.2.2.1
    (va_Pc (As.map (kmv E)) (fun U => U.heap.size = sz ∧ WD E ksh (kwa E ksh sz) σ U U.heap ∧ KST E (kwa E ksh sz) U U.heap ∧ XNC U))
    (KQ E ksh M.2.2.2.1 o (kwa E ksh sz)) (KX E ksh o (kwa E ksh sz)) M.2.2.2.2.2.1 M.2.2.2.2.2.2 (kwa E ksh sz)
def kti (xs : List Nat) (tag : Nat) : Int32 := if tag = 0 then 0 else if xs.getD 0 0 = tag then 1 else 2
theorem thr_k1 {a tag : Nat} {t : Int32} (h : THR [a] tag t) : t = kti [a] tag ∧ (tag = 0 ∨ tag = a) := by
  rcases h with ⟨h1, h2⟩ | ⟨h1, i, h2, h3⟩
  · subst h1 h2; exact ⟨rfl, .inl rfl⟩
  · match i, h2 with
    | 0, h2 =>
      cases h2
      refine ⟨?_, .inr rfl⟩
      unfold kti
      rw [if_neg h1, if_pos (show [a].getD 0 0 = a from rfl), h3]; rfl
theorem thr_k2 {a b tag : Nat} {t : Int32} (hab : a ≠ b) (h : THR [a, b] tag t) : t = kti [a, b] tag ∧ (tag = 0 ∨ tag = a ∨ tag = b) := by
  rcases h with ⟨h1, h2⟩ | ⟨h1, i, h2, h3⟩
  · subst h1 h2; exact ⟨rfl, .inl rfl⟩
  · match i, h2 with
    | 0, h2 =>
      cases h2
      refine ⟨?_, .inr (.inl rfl)⟩
      unfold kti
      rw [if_neg h1, if_pos (show [a, b].getD 0 0 = a from rfl), h3]; rfl
    | 1, h2 =>
      cases h2
      refine ⟨?_, .inr (.inr rfl)⟩
      unfold kti
      rw [if_neg h1, if_neg (show ¬ [a, b].getD 0 0 = b from hab), h3]; rfl
section WROWS
variable {hh : List (Nat × Nat × Nat × Nat)} {l : Launch} {M : KM} {k n pc : Nat} {lo : List (Nat × Value)} {st : List Value} {σ : Sto} {o : KO}
theorem wv_iconst {a : Int} {v : Int32} (hd : decode M.2.1 pc = .ok (.iconst a, 1)) (hv : Int32.ofInt a = v) (kk : WV hh l M k n (pc + 1) lo (.int v :: st) σ o) : WV hh l M k n pc lo (st) σ o :=
  fun E A p e s m args below meth c C H locs ls hW hS hl => lv_iconst C.1 C.2.1 hd hv (kk E A p e s m args below meth c C H locs ls hW hS hl)
theorem wv_i2l {x : Int32} (hd : decode M.2.1 pc = .ok (.i2l, 1)) (kk : WV hh l M k n (pc + 1) lo (.long x.toInt64 :: st) σ o) : WV hh l M k n pc lo (.int x :: st) σ o :=
  fun E A p e s m args below meth c C H locs ls hW hS hl => lv_i2l C.1 C.2.1 hd rfl (kk E A p e s m args below meth c C H locs ls hW hS hl)
theorem wv_iload_n {f : Fin 4} {x : Int32} (j : Nat) {i : Nat} (hd : decode M.2.1 pc = .ok (.iload_n f, 1)) (hi : (f : Nat) = i) (hl : lo[j]? = some (i, .int x)) (kk : WV hh l M k n (pc + 1) lo (.int x :: st) σ o) : WV hh l M k n pc lo st σ o :=
  fun E A p e s m args below meth c C H locs ls hW hS hL => lv_iload_n C.1 C.2.1 hd hi (lv_at hL j (kml_at hl)) (kk E A p e s m args below meth c C H locs ls hW hS hL)
theorem wv_iload {x : Int32} (j : Nat) {i : Nat} (hd : decode M.2.1 pc = .ok (.iload i, 2)) (hl : lo[j]? = some (i, .int x)) (kk : WV hh l M k n (pc + 2) lo (.int x :: st) σ o) : WV hh l M k n pc lo st σ o :=
  fun E A p e s m args below meth c C H locs ls hW hS hL => lv_iload C.1 C.2.1 hd (lv_at hL j (kml_at hl)) (kk E A p e s m args below meth c C H locs ls hW hS hL)
theorem wv_aload_n {f : Fin 4} {x : Nat} (j : Nat) {i : Nat} (hd : decode M.2.1 pc = .ok (.aload_n f, 1)) (hi : (f : Nat) = i) (hl : lo[j]? = some (i, .ref x)) (kk : WV hh l M k n (pc + 1) lo (.ref x :: st) σ o) : WV hh l M k n pc lo st σ o :=
  fun E A p e s m args below meth c C H locs ls hW hS hL => lv_aload_n C.1 C.2.1 hd hi (lv_at hL j (kml_at hl)) (kk E A p e s m args below meth c C H locs ls hW hS hL)
theorem wv_aload {x : Nat} (j : Nat) {i : Nat} (hd : decode M.2.1 pc = .ok (.aload i, 2)) (hl : lo[j]? = some (i, .ref x)) (kk : WV hh l M k n (pc + 2) lo (.ref x :: st) σ o) : WV hh l M k n pc lo st σ o :=
  fun E A p e s m args below meth c C H locs ls hW hS hL => lv_aload C.1 C.2.1 hd (lv_at hL j (kml_at hl)) (kk E A p e s m args below meth c C H locs ls hW hS hL)
theorem wv_goto {off : Int} {tgt : Nat} (hd : decode M.2.1 pc = .ok (.goto off, 3)) (ht : (pc : Int) + off = (tgt : Int)) (kk : WV hh l M k n tgt lo st σ o) : WV hh l M k n pc lo st σ o :=
  fun E A p e s m args below meth c C H locs ls hW hS hl => lv_goto C.1 C.2.1 hd ht (kk E A p e s m args below meth c C H locs ls hW hS hl)
theorem wv_iret {v : Int32} (hd : decode M.2.1 pc = .ok (.ireturn, 1)) (hr : M.2.2.2.1 = some .int) (ho : o = (0, .int v, σ)) (hk : k ≤ M.2.2.2.2.2.1) (hn : n ≤ M.2.2.2.2.2.2) : WV hh l M k n pc lo [.int v] σ o := by
  intro E A p e s m args below meth c C H locs ls hW hS hl
  subst ho
  refine W.widen hk hn (vx_ret (W.iret (v := v) C.1 C.2.1 (by rw [C.2.2.2.1, hr]) (fun t ht hW9 => ⟨⟨rfl, ?_, by rw [ht]; exact WD.moved hW9.alike hW⟩, hS.F ht⟩) hS.2.2 hd C.2.2.2.2.2.1))
  rw [hr]; rfl
theorem wv_last {x : Int32} (hd : decode M.2.1 pc = .ok (.lastore, 1)) (kk : WV hh l M k n (pc + 1) lo st (su σ 154 0 x) o) : WV hh l M k n pc lo (.long x.toInt64 :: .int 0 :: .ref 154 :: st) σ o := by
  intro E A p e s m args below meth c C H locs ls hW hS hl
  obtain ⟨j0, hj0, hset⟩ := kwl_at (E := E) σ (hW.at ks_154 (fun h => by cases h))
  refine va_last (D := E.1) C.1 C.2.1 hW.2.1 hW.1 hW.2.2.1 hS j0 2 (hj0.trans (by rw [kce_l ks_154])) rfl (i := 0) (kin_in (by decide)) hd (fun H1 locs1 hP hD hS1 => ?_)
  rw [hset (su σ 154 0 x) _ (by
    rw [kce_l ks_154]
    refine congrArg (fun f => Sum.inl (E.2.2 2, 1, Sum.inr (Sum.inl f))) ?_
    funext j
    show (su σ 154 0 x 154 j).toInt64 = vp_updL _ 0 _ j
    unfold vp_updL
    rw [su_at]
    by_cases hj : j = 0
    · rw [if_pos hj, if_pos hj]
    · rw [if_neg hj, if_neg hj]) su_o] at hP hD
  exact kk E A p e s m args below meth c C H1 locs1 ls ⟨hP, hW.2.1, hD, hW.2.2.2⟩ hS1 hl
theorem wv_call {M' : KM} {y : MethodName} {ix : Nat} (As : List Value) {stk : List Value} {o1 : KO} (hc : CT ksh l M' y (.ref 0 :: As) σ o1) (hd : decode M.2.1 pc = .ok (.invokevirtual ix, 3)) (hst : stk = As.reverse ++ .ref 0 :: st) (hy : KMV y M' RX6 As.length) (hlk : Cond.methodLink M.1 ix y ∈ kg)
    (hR : M'.2.2.2.2.1.frames + 1 ≤ M.2.2.2.2.1.frames ∧ 8 + (M'.2.2.1 + 11) + M'.2.2.2.2.1.locals ≤ M.2.2.2.2.1.locals) (hcat : (st.map fun v => v.category).sum ≤ 8) (hf : k + M'.2.2.2.2.2.1 ≤ M.2.2.2.2.1.cells ∧ n + M'.2.2.2.2.2.2 ≤ M.2.2.2.2.1.slots)
    (hx : o1.1 ≠ 0 → o1.1 ≤ 3 ∧ ∃ pre x suf, tableOf hh = pre ++ x :: suf ∧ covers x pc = true ∧ x.catchType ≠ 0 ∧ Cond.classLink M.1 x.catchType (kxn o1.1) ∈ kg ∧ (∀ z ∈ pre, z.catchType ≠ 0 ∧ ∃ j, 1 ≤ j ∧ j ≤ 3 ∧ o1.1 ≠ j ∧ Cond.classLink M.1 z.catchType (kxn j) ∈ kg) ∧
      ∃ i len, ((decode M.2.1 x.handlerPc = .ok (.astore i, 2) ∧ len = 2) ∨ ∃ f : Fin 4, decode M.2.1 x.handlerPc = .ok (.astore_n f, 1) ∧ (f : Nat) = i ∧ len = 1) ∧ i < M.2.2.1 ∧ WV hh l M (k + M'.2.2.2.2.2.1) (n + M'.2.2.2.2.2.2) (x.handlerPc + len) [] [] o1.2.2 o)
    (kk : o1.1 = 0 → WV hh l M (k + M'.2.2.2.2.2.1) (n + M'.2.2.2.2.2.2) (pc + 3) lo ((krv M'.2.2.2.1 o1.2.1).toList ++ st) o1.2.2 o) : WV hh l M k n pc lo stk σ o := by
  intro E A p e s m args below meth c C H locs ls hW hS hl
  subst hst
  obtain ⟨hy0, hyr, hy1, hy2, hy3, hy4⟩ := hy
  have hC := C
  obtain ⟨hx0, hb, hml, hr, hown, hlocks, hts, het, hAs, ⟨hK, hN⟩, hst0⟩ := hC
  obtain ⟨j0, hj0, -⟩ := kwl_at (E := E) σ (hW.at ks_0 (fun h => by cases h))
  have hsub := kwa_sub hW hAs hS.1
  have hrun := vx_runV (p := p) (l := l) (e := e) (R := M.2.2.2.2.1) (s := s) (m := m) (args := args) (below := below) (meth := meth) (c := c) (H := H) (locs := locs) (cells := k) (slots := n) (g := F0 m pc ls ((As.reverse ++ .ref 0 :: st).map (kmv E))) (As := As.map (kmv E)) (rest := st.map (kmv E)) (b := E.2.1 0) (C := RX6) (y := y) (bytes := M'.2.1) (maxL := M'.2.2.1) (ret := M'.2.2.2.1) (own := M.1) (index := ix) ⟨hx0, hb, hml, hown, hts⟩ (hc E H.size) (cwV As.length hts (kgV hlk hy1 hy2 hy3 hy4) rfl hyr.1 hyr.2 hy0 hR)
    ⟨kblind E ksh (.ref 0 :: As) _ _, va_recv (q0 := j0) hW.2.1 hW.1 (show vwCl[6]? = some _ from rfl) (hj0.trans (by rw [kce_o ks_0])), fun U hU hWU => ⟨rfl, by rw [hU], by rw [hU]; exact hW.call hWU, by rw [hU]; exact ((hK.kept hS.2.1).moved hWU).narrow hsub⟩⟩
    rfl (List.length_map _) hl.1 (by
      show List.map (kmv E) (As.reverse ++ .ref 0 :: st) = _
      rw [List.map_append, List.map_reverse]
      rfl) (lv_room (by rw [kcats]; exact hcat)) hd hf
  refine kx_call (ret := M'.2.2.2.1) (o1 := o1) hrun hS (fun q _ h => hsub q h) hsub (fun h0 ce q9 t H1 locs1 hvm hw hS1 hce hcv hcl => ?_) (fun h0 t H1 locs1 hvm hw hS1 => ?_)
  · obtain ⟨h3, pre, x, suf, e1, e2, e3, e4, e6, i, len, hh1, hi, hk⟩ := hx h0
    have hW1 := WD.back hw hvm hsub
    refine vx_catch (own := M.1) (name := kxn o1.1) (E := kxn o1.1) hown pre x suf (by rw [het, e1]) (fun z hz => ?_) e2 e3 (hts _ e4) (cas_args args (hN.2 o1.1 (by omega) h3)) hce hcv hcl ?_
    · obtain ⟨z1, j, j1, j2, j3, j4⟩ := e6 z hz
      exact .inr ⟨z1, kxn j, hts _ j4, hN.1 o1.1 j (by omega) h3 j1 j2 j3⟩
    · rcases hh1 with ⟨d1, rfl⟩ | ⟨f, d1, hf1, rfl⟩
      · exact lv_astore hx0 hb d1 hl hi rfl (fun ls' hl' => hk E A p e s m args below meth c C H1 locs1 ls' hW1 hS1 ⟨hl'.1, hl'.2.1, fun q hq => by cases hq⟩)
      · exact lv_astore_n hx0 hb d1 hf1 hl hi rfl (fun ls' hl' => hk E A p e s m args below meth c C H1 locs1 ls' hW1 hS1 ⟨hl'.1, hl'.2.1, fun q hq => by cases hq⟩)
  · have h9 := kk h0 E A p e s m args below meth c C H1 locs1 ls (WD.back hw hvm hsub) hS1 hl
    rw [krv_map] at h9
    exact h9
theorem kctw {y : MethodName} {As : List Value} (lo : List (Nat × Value)) (hst : l.stackTraces = false) (hy : plainName y.cls = true) (hyc : y.cls = M.1) (hlo : lv_args 0 As = lo) (hsl : (lg_sl As).length ≤ M.2.2.1) (hV : WV hh l M 0 0 0 lo [] σ o) : CTW hh l M y As σ o := by
  intro E sz
  refine vx_ofWH (cc := M.2.1) (maxL := M.2.2.1) (ret := M.2.2.2.1) hy rfl ?_
  intro p e s m args below meth c s₁ B hml hv
  obtain ⟨rfl, hsz, hW, hK, hN⟩ := hv
  subst hsz
  have hts0 := atoms_spec (ws := Cond.codeWith y M.2.1 M.2.2.1 M.2.2.2.1 hh :: kg) B.pre
  have hts : ∀ w ∈ kg, w.before (As.map (kmv E)).toArray s = true := fun w h => hts0 w (List.mem_cons_of_mem _ h)
  have hown : s.vm.findClass M.1 = some m.cls := hyc ▸ findClass_of_methodNamed B.named
  have het := vx_table (x := y) B (hts0 _ List.mem_cons_self)
  rw [lg_entry_eq]
  have hl := lv_entry (As.map (kmv E)) (n := M.2.2.1) (by rw [kslen]; exact hsl)
  rw [kargs, hlo] at hl
  exact hV E (kwa E ksh s.heap.size) p e s m _ below meth c ⟨B.exec, B.bytes, hml, B.returns, hown, B.notSynchronized, hts, het, fun q h => Or.inr h, ⟨hK, hN⟩, hst⟩ s.heap [] _ hW va_S.rf hl
end WROWS
theorem liN_inv {a : Option (Nat × Int32)} {σ σ1 : Sto} {tag : Nat} {v : Int32} (h : liN a σ = some (tag, v, σ1)) : a = some (tag, v) ∧ σ1 = σ := by
  unfold liN at h
  cases a with
  | none => cases h
  | some r => rw [Option.bind_some] at h; cases h; exact ⟨rfl, rfl⟩
theorem liS_inv {a : Option (Int32 × Sto)} {σ1 : Sto} {tag : Nat} {v : Int32} (h : liS a = some (tag, v, σ1)) : a = some (v, σ1) ∧ tag = 0 := by
  unfold liS at h
  cases a with
  | none => cases h
  | some r => rw [Option.bind_some] at h; cases h; exact ⟨rfl, rfl⟩
theorem liI_inv {a : Option Int32} {σ σ1 : Sto} {tag : Nat} {v : Int32} (h : liI a σ = some (tag, v, σ1)) : a = some v ∧ σ1 = σ ∧ tag = 0 := by
  unfold liI at h
  cases a with
  | none => cases h
  | some r => rw [Option.bind_some] at h; cases h; exact ⟨rfl, rfl, rfl⟩
theorem xc_1 : Cond.classLink RL 18 (kxn 1) ∈ kg := kg_in 986 (by decide +kernel) (by decide +kernel)
theorem xc_2 : Cond.classLink RL 13 (kxn 2) ∈ kg := kg_in 907 (by decide +kernel) (by decide +kernel)
theorem xc_3 : Cond.classLink RL 27 (kxn 3) ∈ kg := kg_in 1028 (by decide +kernel) (by decide +kernel)
theorem yw_X6_appendText : KMV yX6_appendText mX6_appendText RX6 1 := ⟨⟨rfl, by decide +kernel, by decide +kernel, by decide +kernel⟩, ⟨rfl, rfl⟩, kg_in 909 (by decide +kernel) (by decide +kernel), kg_in 910 (by decide +kernel) (by decide +kernel), kg_in 121 (by decide +kernel) (by decide +kernel), kg_in 911 (by decide +kernel) (by decide +kernel)⟩
theorem dL_appendText_0 : decode cL_appendText 0 = .ok (.aload_n 2, 1) := by decide +kernel
theorem dL_appendText_1 : decode cL_appendText 1 = .ok (.iconst 0, 1) := by decide +kernel
theorem dL_appendText_2 : decode cL_appendText 2 = .ok (.aload_n 0, 1) := by decide +kernel
theorem dL_appendText_3 : decode cL_appendText 3 = .ok (.iload_n 1, 1) := by decide +kernel
theorem dL_appendText_4 : decode cL_appendText 4 = .ok (.invokevirtual 7, 3) := by decide +kernel
theorem dL_appendText_7 : decode cL_appendText 7 = .ok (.i2l, 1) := by decide +kernel
theorem dL_appendText_8 : decode cL_appendText 8 = .ok (.lastore, 1) := by decide +kernel
theorem dL_appendText_9 : decode cL_appendText 9 = .ok (.goto 6, 3) := by decide +kernel
theorem dL_appendText_12 : decode cL_appendText 12 = .ok (.astore_n 3, 1) := by decide +kernel
theorem dL_appendText_13 : decode cL_appendText 13 = .ok (.iconst 1, 1) := by decide +kernel
theorem dL_appendText_14 : decode cL_appendText 14 = .ok (.ireturn, 1) := by decide +kernel
theorem dL_appendText_15 : decode cL_appendText 15 = .ok (.iconst 0, 1) := by decide +kernel
theorem dL_appendText_16 : decode cL_appendText 16 = .ok (.ireturn, 1) := by decide +kernel
theorem lk_L_7 : Cond.methodLink RL 7 yX6_appendText ∈ kg := kg_in 908 (by decide +kernel) (by decide +kernel)
def hL_appendText : List (Nat × Nat × Nat × Nat) := [(0, 9, 12, 13)]
abbrev mL_appendText : KM := (RL, cL_appendText, 4, (some .int), { frames := 7, cells := 1, slots := 6, locals := 110 }, 1, 6)
set_option maxRecDepth 100000 in
theorem tL_appendText (l : Launch) (hst : l.stackTraces = false) (a1 : Int32) (σ : Sto) (tag : Nat) (v : Int32) (σ1 : Sto) (h : fX6_appendText a1 σ = some (tag, v, σ1)) (ht : tag = 0 ∨ tag = 2) : CTW hL_appendText l mL_appendText yL_appendText [.ref 0, .int a1, .ref 154] σ (0, .int (kti [2] tag), if tag = 0 then su σ1 154 0 v else σ1) := by
  refine kctw [(0, .ref 0), (1, .int a1), (2, .ref 154)] hst (by decide +kernel) rfl rfl (Nat.le_of_ble_eq_true rfl) ?_
  refine wv_aload_n (pc := 0) 2 dL_appendText_0 rfl rfl ?_
  refine wv_iconst (pc := 1) (v := 0) dL_appendText_1 (by decide) ?_
  refine wv_aload_n (pc := 2) 0 dL_appendText_2 rfl rfl ?_
  refine wv_iload_n (pc := 3) 1 dL_appendText_3 rfl rfl ?_
  refine wv_call (pc := 4) (o1 := (tag, .int v, σ1)) (M' := mX6_appendText) (y := yX6_appendText) (ix := 7) [.int a1] (tX6_appendText l hst a1 σ (tag, v, σ1) h) dL_appendText_4 rfl yw_X6_appendText lk_L_7 (by decide) (by decide) (by decide) (fun h0 => ?_) (fun h0 => ?_)
  · rcases ht with ht | ht
    · exact absurd ht h0
    · subst ht
      refine ⟨show 2 ≤ 3 by decide, [], ⟨0, 9, 12, 13⟩, [], rfl, by decide, by decide, xc_2, (fun z hz => by cases hz), 3, 1, .inr ⟨3, dL_appendText_12, rfl, rfl⟩, by decide, ?_⟩
      refine wv_iconst (pc := 13) (v := 1) dL_appendText_13 (by decide) ?_
      exact wv_iret (pc := 14) dL_appendText_14 rfl rfl (by decide) (by decide)
  · have h0' : tag = 0 := h0
    subst h0'
    refine wv_i2l (pc := 7) dL_appendText_7 ?_
    refine wv_last (pc := 8) dL_appendText_8 ?_
    refine wv_goto (pc := 9) (tgt := 15) dL_appendText_9 (by decide) ?_
    refine wv_iconst (pc := 15) (v := 0) dL_appendText_15 (by decide) ?_
    exact wv_iret (pc := 16) dL_appendText_16 rfl rfl (by decide) (by decide)
theorem yw_X6_truncateText : KMV yX6_truncateText mX6_truncateText RX6 1 := ⟨⟨rfl, by decide +kernel, by decide +kernel, by decide +kernel⟩, ⟨rfl, rfl⟩, kg_in 988 (by decide +kernel) (by decide +kernel), kg_in 989 (by decide +kernel) (by decide +kernel), kg_in 121 (by decide +kernel) (by decide +kernel), kg_in 990 (by decide +kernel) (by decide +kernel)⟩
theorem dL_truncateText_0 : decode cL_truncateText 0 = .ok (.aload_n 2, 1) := by decide +kernel
theorem dL_truncateText_1 : decode cL_truncateText 1 = .ok (.iconst 0, 1) := by decide +kernel
theorem dL_truncateText_2 : decode cL_truncateText 2 = .ok (.aload_n 0, 1) := by decide +kernel
theorem dL_truncateText_3 : decode cL_truncateText 3 = .ok (.iload_n 1, 1) := by decide +kernel
theorem dL_truncateText_4 : decode cL_truncateText 4 = .ok (.invokevirtual 15, 3) := by decide +kernel
theorem dL_truncateText_7 : decode cL_truncateText 7 = .ok (.i2l, 1) := by decide +kernel
theorem dL_truncateText_8 : decode cL_truncateText 8 = .ok (.lastore, 1) := by decide +kernel
theorem dL_truncateText_9 : decode cL_truncateText 9 = .ok (.goto 6, 3) := by decide +kernel
theorem dL_truncateText_12 : decode cL_truncateText 12 = .ok (.astore_n 3, 1) := by decide +kernel
theorem dL_truncateText_13 : decode cL_truncateText 13 = .ok (.iconst 1, 1) := by decide +kernel
theorem dL_truncateText_14 : decode cL_truncateText 14 = .ok (.ireturn, 1) := by decide +kernel
theorem dL_truncateText_15 : decode cL_truncateText 15 = .ok (.iconst 0, 1) := by decide +kernel
theorem dL_truncateText_16 : decode cL_truncateText 16 = .ok (.ireturn, 1) := by decide +kernel
theorem lk_L_15 : Cond.methodLink RL 15 yX6_truncateText ∈ kg := kg_in 987 (by decide +kernel) (by decide +kernel)
def hL_truncateText : List (Nat × Nat × Nat × Nat) := [(0, 9, 12, 18)]
abbrev mL_truncateText : KM := (RL, cL_truncateText, 4, (some .int), { frames := 8, cells := 1, slots := 6, locals := 132 }, 1, 6)
set_option maxRecDepth 100000 in
theorem tL_truncateText (l : Launch) (hst : l.stackTraces = false) (a1 : Int32) (σ : Sto) (tag : Nat) (v : Int32) (σ1 : Sto) (h : fX6_truncateText a1 σ = some (tag, v, σ1)) (ht : tag = 0 ∨ tag = 1) : CTW hL_truncateText l mL_truncateText yL_truncateText [.ref 0, .int a1, .ref 154] σ (0, .int (kti [1] tag), if tag = 0 then su σ1 154 0 v else σ1) := by
  refine kctw [(0, .ref 0), (1, .int a1), (2, .ref 154)] hst (by decide +kernel) rfl rfl (Nat.le_of_ble_eq_true rfl) ?_
  refine wv_aload_n (pc := 0) 2 dL_truncateText_0 rfl rfl ?_
  refine wv_iconst (pc := 1) (v := 0) dL_truncateText_1 (by decide) ?_
  refine wv_aload_n (pc := 2) 0 dL_truncateText_2 rfl rfl ?_
  refine wv_iload_n (pc := 3) 1 dL_truncateText_3 rfl rfl ?_
  refine wv_call (pc := 4) (o1 := (tag, .int v, σ1)) (M' := mX6_truncateText) (y := yX6_truncateText) (ix := 15) [.int a1] (tX6_truncateText l hst a1 σ (tag, v, σ1) h) dL_truncateText_4 rfl yw_X6_truncateText lk_L_15 (by decide) (by decide) (by decide) (fun h0 => ?_) (fun h0 => ?_)
  · rcases ht with ht | ht
    · exact absurd ht h0
    · subst ht
      refine ⟨show 1 ≤ 3 by decide, [], ⟨0, 9, 12, 18⟩, [], rfl, by decide, by decide, xc_1, (fun z hz => by cases hz), 3, 1, .inr ⟨3, dL_truncateText_12, rfl, rfl⟩, by decide, ?_⟩
      refine wv_iconst (pc := 13) (v := 1) dL_truncateText_13 (by decide) ?_
      exact wv_iret (pc := 14) dL_truncateText_14 rfl rfl (by decide) (by decide)
  · have h0' : tag = 0 := h0
    subst h0'
    refine wv_i2l (pc := 7) dL_truncateText_7 ?_
    refine wv_last (pc := 8) dL_truncateText_8 ?_
    refine wv_goto (pc := 9) (tgt := 15) dL_truncateText_9 (by decide) ?_
    refine wv_iconst (pc := 15) (v := 0) dL_truncateText_15 (by decide) ?_
    exact wv_iret (pc := 16) dL_truncateText_16 rfl rfl (by decide) (by decide)
theorem yw_X6_count : KMV yX6_count mX6_count RX6 1 := ⟨⟨rfl, by decide +kernel, by decide +kernel, by decide +kernel⟩, ⟨rfl, rfl⟩, kg_in 1013 (by decide +kernel) (by decide +kernel), kg_in 1014 (by decide +kernel) (by decide +kernel), kg_in 121 (by decide +kernel) (by decide +kernel), kg_in 1015 (by decide +kernel) (by decide +kernel)⟩
theorem dL_count_0 : decode cL_count 0 = .ok (.aload_n 2, 1) := by decide +kernel
theorem dL_count_1 : decode cL_count 1 = .ok (.iconst 0, 1) := by decide +kernel
theorem dL_count_2 : decode cL_count 2 = .ok (.aload_n 0, 1) := by decide +kernel
theorem dL_count_3 : decode cL_count 3 = .ok (.iload_n 1, 1) := by decide +kernel
theorem dL_count_4 : decode cL_count 4 = .ok (.invokevirtual 20, 3) := by decide +kernel
theorem dL_count_7 : decode cL_count 7 = .ok (.i2l, 1) := by decide +kernel
theorem dL_count_8 : decode cL_count 8 = .ok (.lastore, 1) := by decide +kernel
theorem dL_count_9 : decode cL_count 9 = .ok (.goto 6, 3) := by decide +kernel
theorem dL_count_12 : decode cL_count 12 = .ok (.astore_n 3, 1) := by decide +kernel
theorem dL_count_13 : decode cL_count 13 = .ok (.iconst 1, 1) := by decide +kernel
theorem dL_count_14 : decode cL_count 14 = .ok (.ireturn, 1) := by decide +kernel
theorem dL_count_15 : decode cL_count 15 = .ok (.iconst 0, 1) := by decide +kernel
theorem dL_count_16 : decode cL_count 16 = .ok (.ireturn, 1) := by decide +kernel
theorem lk_L_20 : Cond.methodLink RL 20 yX6_count ∈ kg := kg_in 1012 (by decide +kernel) (by decide +kernel)
def hL_count : List (Nat × Nat × Nat × Nat) := [(0, 9, 12, 18)]
abbrev mL_count : KM := (RL, cL_count, 4, (some .int), { frames := 8, cells := 1, slots := 6, locals := 156 }, 1, 6)
set_option maxRecDepth 100000 in
theorem tL_count (l : Launch) (hst : l.stackTraces = false) (a1 : Int32) (σ : Sto) (tag : Nat) (v : Int32) (σ1 : Sto) (h : fX6_count a1 σ = some (tag, v, σ1)) (ht : tag = 0 ∨ tag = 1) : CTW hL_count l mL_count yL_count [.ref 0, .int a1, .ref 154] σ (0, .int (kti [1] tag), if tag = 0 then su σ1 154 0 v else σ1) := by
  refine kctw [(0, .ref 0), (1, .int a1), (2, .ref 154)] hst (by decide +kernel) rfl rfl (Nat.le_of_ble_eq_true rfl) ?_
  refine wv_aload_n (pc := 0) 2 dL_count_0 rfl rfl ?_
  refine wv_iconst (pc := 1) (v := 0) dL_count_1 (by decide) ?_
  refine wv_aload_n (pc := 2) 0 dL_count_2 rfl rfl ?_
  refine wv_iload_n (pc := 3) 1 dL_count_3 rfl rfl ?_
  refine wv_call (pc := 4) (o1 := (tag, .int v, σ1)) (M' := mX6_count) (y := yX6_count) (ix := 20) [.int a1] (tX6_count l hst a1 σ (tag, v, σ1) h) dL_count_4 rfl yw_X6_count lk_L_20 (by decide) (by decide) (by decide) (fun h0 => ?_) (fun h0 => ?_)
  · rcases ht with ht | ht
    · exact absurd ht h0
    · subst ht
      refine ⟨show 1 ≤ 3 by decide, [], ⟨0, 9, 12, 18⟩, [], rfl, by decide, by decide, xc_1, (fun z hz => by cases hz), 3, 1, .inr ⟨3, dL_count_12, rfl, rfl⟩, by decide, ?_⟩
      refine wv_iconst (pc := 13) (v := 1) dL_count_13 (by decide) ?_
      exact wv_iret (pc := 14) dL_count_14 rfl rfl (by decide) (by decide)
  · have h0' : tag = 0 := h0
    subst h0'
    refine wv_i2l (pc := 7) dL_count_7 ?_
    refine wv_last (pc := 8) dL_count_8 ?_
    refine wv_goto (pc := 9) (tgt := 15) dL_count_9 (by decide) ?_
    refine wv_iconst (pc := 15) (v := 0) dL_count_15 (by decide) ?_
    exact wv_iret (pc := 16) dL_count_16 rfl rfl (by decide) (by decide)
theorem yw_X6_chip : KMV yX6_chip mX6_chip RX6 2 := ⟨⟨rfl, by decide +kernel, by decide +kernel, by decide +kernel⟩, ⟨rfl, rfl⟩, kg_in 1030 (by decide +kernel) (by decide +kernel), kg_in 1031 (by decide +kernel) (by decide +kernel), kg_in 121 (by decide +kernel) (by decide +kernel), kg_in 1032 (by decide +kernel) (by decide +kernel)⟩
theorem dL_chip_0 : decode cL_chip 0 = .ok (.aload_n 3, 1) := by decide +kernel
theorem dL_chip_1 : decode cL_chip 1 = .ok (.iconst 0, 1) := by decide +kernel
theorem dL_chip_2 : decode cL_chip 2 = .ok (.aload_n 0, 1) := by decide +kernel
theorem dL_chip_3 : decode cL_chip 3 = .ok (.iload_n 1, 1) := by decide +kernel
theorem dL_chip_4 : decode cL_chip 4 = .ok (.iload_n 2, 1) := by decide +kernel
theorem dL_chip_5 : decode cL_chip 5 = .ok (.invokevirtual 23, 3) := by decide +kernel
theorem dL_chip_8 : decode cL_chip 8 = .ok (.i2l, 1) := by decide +kernel
theorem dL_chip_9 : decode cL_chip 9 = .ok (.lastore, 1) := by decide +kernel
theorem dL_chip_10 : decode cL_chip 10 = .ok (.goto 11, 3) := by decide +kernel
theorem dL_chip_13 : decode cL_chip 13 = .ok (.astore 4, 2) := by decide +kernel
theorem dL_chip_15 : decode cL_chip 15 = .ok (.iconst 1, 1) := by decide +kernel
theorem dL_chip_16 : decode cL_chip 16 = .ok (.ireturn, 1) := by decide +kernel
theorem dL_chip_17 : decode cL_chip 17 = .ok (.astore 4, 2) := by decide +kernel
theorem dL_chip_19 : decode cL_chip 19 = .ok (.iconst 2, 1) := by decide +kernel
theorem dL_chip_20 : decode cL_chip 20 = .ok (.ireturn, 1) := by decide +kernel
theorem dL_chip_21 : decode cL_chip 21 = .ok (.iconst 0, 1) := by decide +kernel
theorem dL_chip_22 : decode cL_chip 22 = .ok (.ireturn, 1) := by decide +kernel
theorem lk_L_23 : Cond.methodLink RL 23 yX6_chip ∈ kg := kg_in 1029 (by decide +kernel) (by decide +kernel)
def hL_chip : List (Nat × Nat × Nat × Nat) := [(0, 10, 13, 27), (0, 10, 17, 18)]
abbrev mL_chip : KM := (RL, cL_chip, 5, (some .int), { frames := 8, cells := 2, slots := 12, locals := 133 }, 2, 12)
set_option maxRecDepth 100000 in
theorem tL_chip (l : Launch) (hst : l.stackTraces = false) (a1 a2 : Int32) (σ : Sto) (tag : Nat) (v : Int32) (σ1 : Sto) (h : liN (fX6_chip a1 a2 σ) σ = some (tag, v, σ1)) (ht : tag = 0 ∨ tag = 3 ∨ tag = 1) : CTW hL_chip l mL_chip yL_chip [.ref 0, .int a1, .int a2, .ref 154] σ (0, .int (kti [3, 1] tag), if tag = 0 then su σ1 154 0 v else σ1) := by
  obtain ⟨h, h1⟩ := liN_inv h
  subst h1
  refine kctw [(0, .ref 0), (1, .int a1), (2, .int a2), (3, .ref 154)] hst (by decide +kernel) rfl rfl (Nat.le_of_ble_eq_true rfl) ?_
  refine wv_aload_n (pc := 0) 3 dL_chip_0 rfl rfl ?_
  refine wv_iconst (pc := 1) (v := 0) dL_chip_1 (by decide) ?_
  refine wv_aload_n (pc := 2) 0 dL_chip_2 rfl rfl ?_
  refine wv_iload_n (pc := 3) 1 dL_chip_3 rfl rfl ?_
  refine wv_iload_n (pc := 4) 2 dL_chip_4 rfl rfl ?_
  refine wv_call (pc := 5) (o1 := (tag, .int v, σ1)) (M' := mX6_chip) (y := yX6_chip) (ix := 23) [.int a1, .int a2] (tX6_chip l hst a1 a2 σ1 (tag, v) h) dL_chip_5 rfl yw_X6_chip lk_L_23 (by decide) (by decide) (by decide) (fun h0 => ?_) (fun h0 => ?_)
  · rcases ht with ht | ht | ht
    · exact absurd ht h0
    · subst ht
      refine ⟨show 3 ≤ 3 by decide, [], ⟨0, 10, 13, 27⟩, [⟨0, 10, 17, 18⟩], rfl, by decide, by decide, xc_3, (fun z hz => by cases hz), 4, 2, .inl ⟨dL_chip_13, rfl⟩, by decide, ?_⟩
      refine wv_iconst (pc := 15) (v := 1) dL_chip_15 (by decide) ?_
      exact wv_iret (pc := 16) dL_chip_16 rfl rfl (by decide) (by decide)
    · subst ht
      refine ⟨show 1 ≤ 3 by decide, [⟨0, 10, 13, 27⟩], ⟨0, 10, 17, 18⟩, [], rfl, by decide, by decide, xc_1, (fun z hz => by
        rcases List.mem_cons.mp hz with hz | hz
        · subst hz; exact ⟨by decide, 3, by decide, by decide, show 1 ≠ 3 by decide, xc_3⟩
        · cases hz), 4, 2, .inl ⟨dL_chip_17, rfl⟩, by decide, ?_⟩
      refine wv_iconst (pc := 19) (v := 2) dL_chip_19 (by decide) ?_
      exact wv_iret (pc := 20) dL_chip_20 rfl rfl (by decide) (by decide)
  · have h0' : tag = 0 := h0
    subst h0'
    refine wv_i2l (pc := 8) dL_chip_8 ?_
    refine wv_last (pc := 9) dL_chip_9 ?_
    refine wv_goto (pc := 10) (tgt := 21) dL_chip_10 (by decide) ?_
    refine wv_iconst (pc := 21) (v := 0) dL_chip_21 (by decide) ?_
    exact wv_iret (pc := 22) dL_chip_22 rfl rfl (by decide) (by decide)
theorem yw_X6_chipAt : KMV yX6_chipAt mX6_chipAt RX6 2 := ⟨⟨rfl, by decide +kernel, by decide +kernel, by decide +kernel⟩, ⟨rfl, rfl⟩, kg_in 1069 (by decide +kernel) (by decide +kernel), kg_in 1070 (by decide +kernel) (by decide +kernel), kg_in 121 (by decide +kernel) (by decide +kernel), kg_in 1071 (by decide +kernel) (by decide +kernel)⟩
theorem dL_chipAt_0 : decode cL_chipAt 0 = .ok (.aload_n 3, 1) := by decide +kernel
theorem dL_chipAt_1 : decode cL_chipAt 1 = .ok (.iconst 0, 1) := by decide +kernel
theorem dL_chipAt_2 : decode cL_chipAt 2 = .ok (.aload_n 0, 1) := by decide +kernel
theorem dL_chipAt_3 : decode cL_chipAt 3 = .ok (.iload_n 1, 1) := by decide +kernel
theorem dL_chipAt_4 : decode cL_chipAt 4 = .ok (.iload_n 2, 1) := by decide +kernel
theorem dL_chipAt_5 : decode cL_chipAt 5 = .ok (.invokevirtual 29, 3) := by decide +kernel
theorem dL_chipAt_8 : decode cL_chipAt 8 = .ok (.i2l, 1) := by decide +kernel
theorem dL_chipAt_9 : decode cL_chipAt 9 = .ok (.lastore, 1) := by decide +kernel
theorem dL_chipAt_10 : decode cL_chipAt 10 = .ok (.goto 7, 3) := by decide +kernel
theorem dL_chipAt_13 : decode cL_chipAt 13 = .ok (.astore 4, 2) := by decide +kernel
theorem dL_chipAt_15 : decode cL_chipAt 15 = .ok (.iconst 1, 1) := by decide +kernel
theorem dL_chipAt_16 : decode cL_chipAt 16 = .ok (.ireturn, 1) := by decide +kernel
theorem dL_chipAt_17 : decode cL_chipAt 17 = .ok (.iconst 0, 1) := by decide +kernel
theorem dL_chipAt_18 : decode cL_chipAt 18 = .ok (.ireturn, 1) := by decide +kernel
theorem lk_L_29 : Cond.methodLink RL 29 yX6_chipAt ∈ kg := kg_in 1068 (by decide +kernel) (by decide +kernel)
def hL_chipAt : List (Nat × Nat × Nat × Nat) := [(0, 10, 13, 27)]
abbrev mL_chipAt : KM := (RL, cL_chipAt, 5, (some .int), { frames := 8, cells := 1, slots := 6, locals := 134 }, 1, 6)
set_option maxRecDepth 100000 in
theorem tL_chipAt (l : Launch) (hst : l.stackTraces = false) (a1 a2 : Int32) (σ : Sto) (tag : Nat) (v : Int32) (σ1 : Sto) (h : liN (fX6_chipAt a1 a2 σ) σ = some (tag, v, σ1)) (ht : tag = 0 ∨ tag = 3) : CTW hL_chipAt l mL_chipAt yL_chipAt [.ref 0, .int a1, .int a2, .ref 154] σ (0, .int (kti [3] tag), if tag = 0 then su σ1 154 0 v else σ1) := by
  obtain ⟨h, h1⟩ := liN_inv h
  subst h1
  refine kctw [(0, .ref 0), (1, .int a1), (2, .int a2), (3, .ref 154)] hst (by decide +kernel) rfl rfl (Nat.le_of_ble_eq_true rfl) ?_
  refine wv_aload_n (pc := 0) 3 dL_chipAt_0 rfl rfl ?_
  refine wv_iconst (pc := 1) (v := 0) dL_chipAt_1 (by decide) ?_
  refine wv_aload_n (pc := 2) 0 dL_chipAt_2 rfl rfl ?_
  refine wv_iload_n (pc := 3) 1 dL_chipAt_3 rfl rfl ?_
  refine wv_iload_n (pc := 4) 2 dL_chipAt_4 rfl rfl ?_
  refine wv_call (pc := 5) (o1 := (tag, .int v, σ1)) (M' := mX6_chipAt) (y := yX6_chipAt) (ix := 29) [.int a1, .int a2] (tX6_chipAt l hst a1 a2 σ1 (tag, v) h) dL_chipAt_5 rfl yw_X6_chipAt lk_L_29 (by decide) (by decide) (by decide) (fun h0 => ?_) (fun h0 => ?_)
  · rcases ht with ht | ht
    · exact absurd ht h0
    · subst ht
      refine ⟨show 3 ≤ 3 by decide, [], ⟨0, 10, 13, 27⟩, [], rfl, by decide, by decide, xc_3, (fun z hz => by cases hz), 4, 2, .inl ⟨dL_chipAt_13, rfl⟩, by decide, ?_⟩
      refine wv_iconst (pc := 15) (v := 1) dL_chipAt_15 (by decide) ?_
      exact wv_iret (pc := 16) dL_chipAt_16 rfl rfl (by decide) (by decide)
  · have h0' : tag = 0 := h0
    subst h0'
    refine wv_i2l (pc := 8) dL_chipAt_8 ?_
    refine wv_last (pc := 9) dL_chipAt_9 ?_
    refine wv_goto (pc := 10) (tgt := 17) dL_chipAt_10 (by decide) ?_
    refine wv_iconst (pc := 17) (v := 0) dL_chipAt_17 (by decide) ?_
    exact wv_iret (pc := 18) dL_chipAt_18 rfl rfl (by decide) (by decide)
theorem yw_X6_depth : KMV yX6_depth mX6_depth RX6 2 := ⟨⟨rfl, by decide +kernel, by decide +kernel, by decide +kernel⟩, ⟨rfl, rfl⟩, kg_in 1082 (by decide +kernel) (by decide +kernel), kg_in 1083 (by decide +kernel) (by decide +kernel), kg_in 121 (by decide +kernel) (by decide +kernel), kg_in 1084 (by decide +kernel) (by decide +kernel)⟩
theorem dL_depth_0 : decode cL_depth 0 = .ok (.aload_n 3, 1) := by decide +kernel
theorem dL_depth_1 : decode cL_depth 1 = .ok (.iconst 0, 1) := by decide +kernel
theorem dL_depth_2 : decode cL_depth 2 = .ok (.aload_n 0, 1) := by decide +kernel
theorem dL_depth_3 : decode cL_depth 3 = .ok (.iload_n 1, 1) := by decide +kernel
theorem dL_depth_4 : decode cL_depth 4 = .ok (.iload_n 2, 1) := by decide +kernel
theorem dL_depth_5 : decode cL_depth 5 = .ok (.invokevirtual 32, 3) := by decide +kernel
theorem dL_depth_8 : decode cL_depth 8 = .ok (.i2l, 1) := by decide +kernel
theorem dL_depth_9 : decode cL_depth 9 = .ok (.lastore, 1) := by decide +kernel
theorem dL_depth_10 : decode cL_depth 10 = .ok (.goto 7, 3) := by decide +kernel
theorem dL_depth_13 : decode cL_depth 13 = .ok (.astore 4, 2) := by decide +kernel
theorem dL_depth_15 : decode cL_depth 15 = .ok (.iconst 1, 1) := by decide +kernel
theorem dL_depth_16 : decode cL_depth 16 = .ok (.ireturn, 1) := by decide +kernel
theorem dL_depth_17 : decode cL_depth 17 = .ok (.iconst 0, 1) := by decide +kernel
theorem dL_depth_18 : decode cL_depth 18 = .ok (.ireturn, 1) := by decide +kernel
theorem lk_L_32 : Cond.methodLink RL 32 yX6_depth ∈ kg := kg_in 1081 (by decide +kernel) (by decide +kernel)
def hL_depth : List (Nat × Nat × Nat × Nat) := [(0, 10, 13, 27)]
abbrev mL_depth : KM := (RL, cL_depth, 5, (some .int), { frames := 8, cells := 1, slots := 6, locals := 134 }, 1, 6)
set_option maxRecDepth 100000 in
theorem tL_depth (l : Launch) (hst : l.stackTraces = false) (a1 a2 : Int32) (σ : Sto) (tag : Nat) (v : Int32) (σ1 : Sto) (h : liN (fX6_depth a1 a2 σ) σ = some (tag, v, σ1)) (ht : tag = 0 ∨ tag = 3) : CTW hL_depth l mL_depth yL_depth [.ref 0, .int a1, .int a2, .ref 154] σ (0, .int (kti [3] tag), if tag = 0 then su σ1 154 0 v else σ1) := by
  obtain ⟨h, h1⟩ := liN_inv h
  subst h1
  refine kctw [(0, .ref 0), (1, .int a1), (2, .int a2), (3, .ref 154)] hst (by decide +kernel) rfl rfl (Nat.le_of_ble_eq_true rfl) ?_
  refine wv_aload_n (pc := 0) 3 dL_depth_0 rfl rfl ?_
  refine wv_iconst (pc := 1) (v := 0) dL_depth_1 (by decide) ?_
  refine wv_aload_n (pc := 2) 0 dL_depth_2 rfl rfl ?_
  refine wv_iload_n (pc := 3) 1 dL_depth_3 rfl rfl ?_
  refine wv_iload_n (pc := 4) 2 dL_depth_4 rfl rfl ?_
  refine wv_call (pc := 5) (o1 := (tag, .int v, σ1)) (M' := mX6_depth) (y := yX6_depth) (ix := 32) [.int a1, .int a2] (tX6_depth l hst a1 a2 σ1 (tag, v) h) dL_depth_5 rfl yw_X6_depth lk_L_32 (by decide) (by decide) (by decide) (fun h0 => ?_) (fun h0 => ?_)
  · rcases ht with ht | ht
    · exact absurd ht h0
    · subst ht
      refine ⟨show 3 ≤ 3 by decide, [], ⟨0, 10, 13, 27⟩, [], rfl, by decide, by decide, xc_3, (fun z hz => by cases hz), 4, 2, .inl ⟨dL_depth_13, rfl⟩, by decide, ?_⟩
      refine wv_iconst (pc := 15) (v := 1) dL_depth_15 (by decide) ?_
      exact wv_iret (pc := 16) dL_depth_16 rfl rfl (by decide) (by decide)
  · have h0' : tag = 0 := h0
    subst h0'
    refine wv_i2l (pc := 8) dL_depth_8 ?_
    refine wv_last (pc := 9) dL_depth_9 ?_
    refine wv_goto (pc := 10) (tgt := 17) dL_depth_10 (by decide) ?_
    refine wv_iconst (pc := 17) (v := 0) dL_depth_17 (by decide) ?_
    exact wv_iret (pc := 18) dL_depth_18 rfl rfl (by decide) (by decide)
theorem yw_X6_account : KMV yX6_account mX6_account RX6 1 := ⟨⟨rfl, by decide +kernel, by decide +kernel, by decide +kernel⟩, ⟨rfl, rfl⟩, kg_in 1095 (by decide +kernel) (by decide +kernel), kg_in 1096 (by decide +kernel) (by decide +kernel), kg_in 121 (by decide +kernel) (by decide +kernel), kg_in 1097 (by decide +kernel) (by decide +kernel)⟩
theorem dL_account_0 : decode cL_account 0 = .ok (.aload_n 2, 1) := by decide +kernel
theorem dL_account_1 : decode cL_account 1 = .ok (.iconst 0, 1) := by decide +kernel
theorem dL_account_2 : decode cL_account 2 = .ok (.aload_n 0, 1) := by decide +kernel
theorem dL_account_3 : decode cL_account 3 = .ok (.iload_n 1, 1) := by decide +kernel
theorem dL_account_4 : decode cL_account 4 = .ok (.invokevirtual 35, 3) := by decide +kernel
theorem dL_account_7 : decode cL_account 7 = .ok (.i2l, 1) := by decide +kernel
theorem dL_account_8 : decode cL_account 8 = .ok (.lastore, 1) := by decide +kernel
theorem dL_account_9 : decode cL_account 9 = .ok (.goto 6, 3) := by decide +kernel
theorem dL_account_12 : decode cL_account 12 = .ok (.astore_n 3, 1) := by decide +kernel
theorem dL_account_13 : decode cL_account 13 = .ok (.iconst 1, 1) := by decide +kernel
theorem dL_account_14 : decode cL_account 14 = .ok (.ireturn, 1) := by decide +kernel
theorem dL_account_15 : decode cL_account 15 = .ok (.iconst 0, 1) := by decide +kernel
theorem dL_account_16 : decode cL_account 16 = .ok (.ireturn, 1) := by decide +kernel
theorem lk_L_35 : Cond.methodLink RL 35 yX6_account ∈ kg := kg_in 1094 (by decide +kernel) (by decide +kernel)
def hL_account : List (Nat × Nat × Nat × Nat) := [(0, 9, 12, 18)]
abbrev mL_account : KM := (RL, cL_account, 4, (some .int), { frames := 8, cells := 1, slots := 6, locals := 132 }, 1, 6)
set_option maxRecDepth 100000 in
theorem tL_account (l : Launch) (hst : l.stackTraces = false) (a1 : Int32) (σ : Sto) (tag : Nat) (v : Int32) (σ1 : Sto) (h : liN (fX6_account a1 σ) σ = some (tag, v, σ1)) (ht : tag = 0 ∨ tag = 1) : CTW hL_account l mL_account yL_account [.ref 0, .int a1, .ref 154] σ (0, .int (kti [1] tag), if tag = 0 then su σ1 154 0 v else σ1) := by
  obtain ⟨h, h1⟩ := liN_inv h
  subst h1
  refine kctw [(0, .ref 0), (1, .int a1), (2, .ref 154)] hst (by decide +kernel) rfl rfl (Nat.le_of_ble_eq_true rfl) ?_
  refine wv_aload_n (pc := 0) 2 dL_account_0 rfl rfl ?_
  refine wv_iconst (pc := 1) (v := 0) dL_account_1 (by decide) ?_
  refine wv_aload_n (pc := 2) 0 dL_account_2 rfl rfl ?_
  refine wv_iload_n (pc := 3) 1 dL_account_3 rfl rfl ?_
  refine wv_call (pc := 4) (o1 := (tag, .int v, σ1)) (M' := mX6_account) (y := yX6_account) (ix := 35) [.int a1] (tX6_account l hst a1 σ1 (tag, v) h) dL_account_4 rfl yw_X6_account lk_L_35 (by decide) (by decide) (by decide) (fun h0 => ?_) (fun h0 => ?_)
  · rcases ht with ht | ht
    · exact absurd ht h0
    · subst ht
      refine ⟨show 1 ≤ 3 by decide, [], ⟨0, 9, 12, 18⟩, [], rfl, by decide, by decide, xc_1, (fun z hz => by cases hz), 3, 1, .inr ⟨3, dL_account_12, rfl, rfl⟩, by decide, ?_⟩
      refine wv_iconst (pc := 13) (v := 1) dL_account_13 (by decide) ?_
      exact wv_iret (pc := 14) dL_account_14 rfl rfl (by decide) (by decide)
  · have h0' : tag = 0 := h0
    subst h0'
    refine wv_i2l (pc := 7) dL_account_7 ?_
    refine wv_last (pc := 8) dL_account_8 ?_
    refine wv_goto (pc := 9) (tgt := 15) dL_account_9 (by decide) ?_
    refine wv_iconst (pc := 15) (v := 0) dL_account_15 (by decide) ?_
    exact wv_iret (pc := 16) dL_account_16 rfl rfl (by decide) (by decide)
theorem yw_X6_colour : KMV yX6_colour mX6_colour RX6 2 := ⟨⟨rfl, by decide +kernel, by decide +kernel, by decide +kernel⟩, ⟨rfl, rfl⟩, kg_in 1102 (by decide +kernel) (by decide +kernel), kg_in 1103 (by decide +kernel) (by decide +kernel), kg_in 121 (by decide +kernel) (by decide +kernel), kg_in 1104 (by decide +kernel) (by decide +kernel)⟩
theorem dL_colour_0 : decode cL_colour 0 = .ok (.aload_n 3, 1) := by decide +kernel
theorem dL_colour_1 : decode cL_colour 1 = .ok (.iconst 0, 1) := by decide +kernel
theorem dL_colour_2 : decode cL_colour 2 = .ok (.aload_n 0, 1) := by decide +kernel
theorem dL_colour_3 : decode cL_colour 3 = .ok (.iload_n 1, 1) := by decide +kernel
theorem dL_colour_4 : decode cL_colour 4 = .ok (.iload_n 2, 1) := by decide +kernel
theorem dL_colour_5 : decode cL_colour 5 = .ok (.invokevirtual 38, 3) := by decide +kernel
theorem dL_colour_8 : decode cL_colour 8 = .ok (.i2l, 1) := by decide +kernel
theorem dL_colour_9 : decode cL_colour 9 = .ok (.lastore, 1) := by decide +kernel
theorem dL_colour_10 : decode cL_colour 10 = .ok (.goto 7, 3) := by decide +kernel
theorem dL_colour_13 : decode cL_colour 13 = .ok (.astore 4, 2) := by decide +kernel
theorem dL_colour_15 : decode cL_colour 15 = .ok (.iconst 1, 1) := by decide +kernel
theorem dL_colour_16 : decode cL_colour 16 = .ok (.ireturn, 1) := by decide +kernel
theorem dL_colour_17 : decode cL_colour 17 = .ok (.iconst 0, 1) := by decide +kernel
theorem dL_colour_18 : decode cL_colour 18 = .ok (.ireturn, 1) := by decide +kernel
theorem lk_L_38 : Cond.methodLink RL 38 yX6_colour ∈ kg := kg_in 1101 (by decide +kernel) (by decide +kernel)
def hL_colour : List (Nat × Nat × Nat × Nat) := [(0, 10, 13, 27)]
abbrev mL_colour : KM := (RL, cL_colour, 5, (some .int), { frames := 8, cells := 1, slots := 6, locals := 135 }, 1, 6)
set_option maxRecDepth 100000 in
theorem tL_colour (l : Launch) (hst : l.stackTraces = false) (a1 a2 : Int32) (σ : Sto) (tag : Nat) (v : Int32) (σ1 : Sto) (h : fX6_colour a1 a2 σ = some (tag, v, σ1)) (ht : tag = 0 ∨ tag = 3) : CTW hL_colour l mL_colour yL_colour [.ref 0, .int a1, .int a2, .ref 154] σ (0, .int (kti [3] tag), if tag = 0 then su σ1 154 0 v else σ1) := by
  refine kctw [(0, .ref 0), (1, .int a1), (2, .int a2), (3, .ref 154)] hst (by decide +kernel) rfl rfl (Nat.le_of_ble_eq_true rfl) ?_
  refine wv_aload_n (pc := 0) 3 dL_colour_0 rfl rfl ?_
  refine wv_iconst (pc := 1) (v := 0) dL_colour_1 (by decide) ?_
  refine wv_aload_n (pc := 2) 0 dL_colour_2 rfl rfl ?_
  refine wv_iload_n (pc := 3) 1 dL_colour_3 rfl rfl ?_
  refine wv_iload_n (pc := 4) 2 dL_colour_4 rfl rfl ?_
  refine wv_call (pc := 5) (o1 := (tag, .int v, σ1)) (M' := mX6_colour) (y := yX6_colour) (ix := 38) [.int a1, .int a2] (tX6_colour l hst a1 a2 σ (tag, v, σ1) h) dL_colour_5 rfl yw_X6_colour lk_L_38 (by decide) (by decide) (by decide) (fun h0 => ?_) (fun h0 => ?_)
  · rcases ht with ht | ht
    · exact absurd ht h0
    · subst ht
      refine ⟨show 3 ≤ 3 by decide, [], ⟨0, 10, 13, 27⟩, [], rfl, by decide, by decide, xc_3, (fun z hz => by cases hz), 4, 2, .inl ⟨dL_colour_13, rfl⟩, by decide, ?_⟩
      refine wv_iconst (pc := 15) (v := 1) dL_colour_15 (by decide) ?_
      exact wv_iret (pc := 16) dL_colour_16 rfl rfl (by decide) (by decide)
  · have h0' : tag = 0 := h0
    subst h0'
    refine wv_i2l (pc := 8) dL_colour_8 ?_
    refine wv_last (pc := 9) dL_colour_9 ?_
    refine wv_goto (pc := 10) (tgt := 17) dL_colour_10 (by decide) ?_
    refine wv_iconst (pc := 17) (v := 0) dL_colour_17 (by decide) ?_
    exact wv_iret (pc := 18) dL_colour_18 rfl rfl (by decide) (by decide)
theorem yw_X6_brightness : KMV yX6_brightness mX6_brightness RX6 2 := ⟨⟨rfl, by decide +kernel, by decide +kernel, by decide +kernel⟩, ⟨rfl, rfl⟩, kg_in 1115 (by decide +kernel) (by decide +kernel), kg_in 1116 (by decide +kernel) (by decide +kernel), kg_in 121 (by decide +kernel) (by decide +kernel), kg_in 1117 (by decide +kernel) (by decide +kernel)⟩
theorem dL_brightness_0 : decode cL_brightness 0 = .ok (.aload_n 3, 1) := by decide +kernel
theorem dL_brightness_1 : decode cL_brightness 1 = .ok (.iconst 0, 1) := by decide +kernel
theorem dL_brightness_2 : decode cL_brightness 2 = .ok (.aload_n 0, 1) := by decide +kernel
theorem dL_brightness_3 : decode cL_brightness 3 = .ok (.iload_n 1, 1) := by decide +kernel
theorem dL_brightness_4 : decode cL_brightness 4 = .ok (.iload_n 2, 1) := by decide +kernel
theorem dL_brightness_5 : decode cL_brightness 5 = .ok (.invokevirtual 41, 3) := by decide +kernel
theorem dL_brightness_8 : decode cL_brightness 8 = .ok (.i2l, 1) := by decide +kernel
theorem dL_brightness_9 : decode cL_brightness 9 = .ok (.lastore, 1) := by decide +kernel
theorem dL_brightness_10 : decode cL_brightness 10 = .ok (.goto 7, 3) := by decide +kernel
theorem dL_brightness_13 : decode cL_brightness 13 = .ok (.astore 4, 2) := by decide +kernel
theorem dL_brightness_15 : decode cL_brightness 15 = .ok (.iconst 1, 1) := by decide +kernel
theorem dL_brightness_16 : decode cL_brightness 16 = .ok (.ireturn, 1) := by decide +kernel
theorem dL_brightness_17 : decode cL_brightness 17 = .ok (.iconst 0, 1) := by decide +kernel
theorem dL_brightness_18 : decode cL_brightness 18 = .ok (.ireturn, 1) := by decide +kernel
theorem lk_L_41 : Cond.methodLink RL 41 yX6_brightness ∈ kg := kg_in 1114 (by decide +kernel) (by decide +kernel)
def hL_brightness : List (Nat × Nat × Nat × Nat) := [(0, 10, 13, 27)]
abbrev mL_brightness : KM := (RL, cL_brightness, 5, (some .int), { frames := 8, cells := 1, slots := 6, locals := 135 }, 1, 6)
set_option maxRecDepth 100000 in
theorem tL_brightness (l : Launch) (hst : l.stackTraces = false) (a1 a2 : Int32) (σ : Sto) (tag : Nat) (v : Int32) (σ1 : Sto) (h : fX6_brightness a1 a2 σ = some (tag, v, σ1)) (ht : tag = 0 ∨ tag = 3) : CTW hL_brightness l mL_brightness yL_brightness [.ref 0, .int a1, .int a2, .ref 154] σ (0, .int (kti [3] tag), if tag = 0 then su σ1 154 0 v else σ1) := by
  refine kctw [(0, .ref 0), (1, .int a1), (2, .int a2), (3, .ref 154)] hst (by decide +kernel) rfl rfl (Nat.le_of_ble_eq_true rfl) ?_
  refine wv_aload_n (pc := 0) 3 dL_brightness_0 rfl rfl ?_
  refine wv_iconst (pc := 1) (v := 0) dL_brightness_1 (by decide) ?_
  refine wv_aload_n (pc := 2) 0 dL_brightness_2 rfl rfl ?_
  refine wv_iload_n (pc := 3) 1 dL_brightness_3 rfl rfl ?_
  refine wv_iload_n (pc := 4) 2 dL_brightness_4 rfl rfl ?_
  refine wv_call (pc := 5) (o1 := (tag, .int v, σ1)) (M' := mX6_brightness) (y := yX6_brightness) (ix := 41) [.int a1, .int a2] (tX6_brightness l hst a1 a2 σ (tag, v, σ1) h) dL_brightness_5 rfl yw_X6_brightness lk_L_41 (by decide) (by decide) (by decide) (fun h0 => ?_) (fun h0 => ?_)
  · rcases ht with ht | ht
    · exact absurd ht h0
    · subst ht
      refine ⟨show 3 ≤ 3 by decide, [], ⟨0, 10, 13, 27⟩, [], rfl, by decide, by decide, xc_3, (fun z hz => by cases hz), 4, 2, .inl ⟨dL_brightness_13, rfl⟩, by decide, ?_⟩
      refine wv_iconst (pc := 15) (v := 1) dL_brightness_15 (by decide) ?_
      exact wv_iret (pc := 16) dL_brightness_16 rfl rfl (by decide) (by decide)
  · have h0' : tag = 0 := h0
    subst h0'
    refine wv_i2l (pc := 8) dL_brightness_8 ?_
    refine wv_last (pc := 9) dL_brightness_9 ?_
    refine wv_goto (pc := 10) (tgt := 17) dL_brightness_10 (by decide) ?_
    refine wv_iconst (pc := 17) (v := 0) dL_brightness_17 (by decide) ?_
    exact wv_iret (pc := 18) dL_brightness_18 rfl rfl (by decide) (by decide)
theorem yw_X6_reflections : KMV yX6_reflections mX6_reflections RX6 2 := ⟨⟨rfl, by decide +kernel, by decide +kernel, by decide +kernel⟩, ⟨rfl, rfl⟩, kg_in 1123 (by decide +kernel) (by decide +kernel), kg_in 1124 (by decide +kernel) (by decide +kernel), kg_in 121 (by decide +kernel) (by decide +kernel), kg_in 1125 (by decide +kernel) (by decide +kernel)⟩
theorem dL_reflections_0 : decode cL_reflections 0 = .ok (.aload_n 3, 1) := by decide +kernel
theorem dL_reflections_1 : decode cL_reflections 1 = .ok (.iconst 0, 1) := by decide +kernel
theorem dL_reflections_2 : decode cL_reflections 2 = .ok (.aload_n 0, 1) := by decide +kernel
theorem dL_reflections_3 : decode cL_reflections 3 = .ok (.iload_n 1, 1) := by decide +kernel
theorem dL_reflections_4 : decode cL_reflections 4 = .ok (.iload_n 2, 1) := by decide +kernel
theorem dL_reflections_5 : decode cL_reflections 5 = .ok (.invokevirtual 44, 3) := by decide +kernel
theorem dL_reflections_8 : decode cL_reflections 8 = .ok (.i2l, 1) := by decide +kernel
theorem dL_reflections_9 : decode cL_reflections 9 = .ok (.lastore, 1) := by decide +kernel
theorem dL_reflections_10 : decode cL_reflections 10 = .ok (.goto 7, 3) := by decide +kernel
theorem dL_reflections_13 : decode cL_reflections 13 = .ok (.astore 4, 2) := by decide +kernel
theorem dL_reflections_15 : decode cL_reflections 15 = .ok (.iconst 1, 1) := by decide +kernel
theorem dL_reflections_16 : decode cL_reflections 16 = .ok (.ireturn, 1) := by decide +kernel
theorem dL_reflections_17 : decode cL_reflections 17 = .ok (.iconst 0, 1) := by decide +kernel
theorem dL_reflections_18 : decode cL_reflections 18 = .ok (.ireturn, 1) := by decide +kernel
theorem lk_L_44 : Cond.methodLink RL 44 yX6_reflections ∈ kg := kg_in 1122 (by decide +kernel) (by decide +kernel)
def hL_reflections : List (Nat × Nat × Nat × Nat) := [(0, 10, 13, 27)]
abbrev mL_reflections : KM := (RL, cL_reflections, 5, (some .int), { frames := 8, cells := 1, slots := 6, locals := 135 }, 1, 6)
set_option maxRecDepth 100000 in
theorem tL_reflections (l : Launch) (hst : l.stackTraces = false) (a1 a2 : Int32) (σ : Sto) (tag : Nat) (v : Int32) (σ1 : Sto) (h : fX6_reflections a1 a2 σ = some (tag, v, σ1)) (ht : tag = 0 ∨ tag = 3) : CTW hL_reflections l mL_reflections yL_reflections [.ref 0, .int a1, .int a2, .ref 154] σ (0, .int (kti [3] tag), if tag = 0 then su σ1 154 0 v else σ1) := by
  refine kctw [(0, .ref 0), (1, .int a1), (2, .int a2), (3, .ref 154)] hst (by decide +kernel) rfl rfl (Nat.le_of_ble_eq_true rfl) ?_
  refine wv_aload_n (pc := 0) 3 dL_reflections_0 rfl rfl ?_
  refine wv_iconst (pc := 1) (v := 0) dL_reflections_1 (by decide) ?_
  refine wv_aload_n (pc := 2) 0 dL_reflections_2 rfl rfl ?_
  refine wv_iload_n (pc := 3) 1 dL_reflections_3 rfl rfl ?_
  refine wv_iload_n (pc := 4) 2 dL_reflections_4 rfl rfl ?_
  refine wv_call (pc := 5) (o1 := (tag, .int v, σ1)) (M' := mX6_reflections) (y := yX6_reflections) (ix := 44) [.int a1, .int a2] (tX6_reflections l hst a1 a2 σ (tag, v, σ1) h) dL_reflections_5 rfl yw_X6_reflections lk_L_44 (by decide) (by decide) (by decide) (fun h0 => ?_) (fun h0 => ?_)
  · rcases ht with ht | ht
    · exact absurd ht h0
    · subst ht
      refine ⟨show 3 ≤ 3 by decide, [], ⟨0, 10, 13, 27⟩, [], rfl, by decide, by decide, xc_3, (fun z hz => by cases hz), 4, 2, .inl ⟨dL_reflections_13, rfl⟩, by decide, ?_⟩
      refine wv_iconst (pc := 15) (v := 1) dL_reflections_15 (by decide) ?_
      exact wv_iret (pc := 16) dL_reflections_16 rfl rfl (by decide) (by decide)
  · have h0' : tag = 0 := h0
    subst h0'
    refine wv_i2l (pc := 8) dL_reflections_8 ?_
    refine wv_last (pc := 9) dL_reflections_9 ?_
    refine wv_goto (pc := 10) (tgt := 17) dL_reflections_10 (by decide) ?_
    refine wv_iconst (pc := 17) (v := 0) dL_reflections_17 (by decide) ?_
    exact wv_iret (pc := 18) dL_reflections_18 rfl rfl (by decide) (by decide)
theorem yw_X6_source : KMV yX6_source mX6_source RX6 3 := ⟨⟨rfl, by decide +kernel, by decide +kernel, by decide +kernel⟩, ⟨rfl, rfl⟩, kg_in 1131 (by decide +kernel) (by decide +kernel), kg_in 1132 (by decide +kernel) (by decide +kernel), kg_in 121 (by decide +kernel) (by decide +kernel), kg_in 1133 (by decide +kernel) (by decide +kernel)⟩
theorem dL_source_0 : decode cL_source 0 = .ok (.aload 4, 2) := by decide +kernel
theorem dL_source_2 : decode cL_source 2 = .ok (.iconst 0, 1) := by decide +kernel
theorem dL_source_3 : decode cL_source 3 = .ok (.aload_n 0, 1) := by decide +kernel
theorem dL_source_4 : decode cL_source 4 = .ok (.iload_n 1, 1) := by decide +kernel
theorem dL_source_5 : decode cL_source 5 = .ok (.iload_n 2, 1) := by decide +kernel
theorem dL_source_6 : decode cL_source 6 = .ok (.iload_n 3, 1) := by decide +kernel
theorem dL_source_7 : decode cL_source 7 = .ok (.invokevirtual 47, 3) := by decide +kernel
theorem dL_source_10 : decode cL_source 10 = .ok (.i2l, 1) := by decide +kernel
theorem dL_source_11 : decode cL_source 11 = .ok (.lastore, 1) := by decide +kernel
theorem dL_source_12 : decode cL_source 12 = .ok (.goto 7, 3) := by decide +kernel
theorem dL_source_15 : decode cL_source 15 = .ok (.astore 5, 2) := by decide +kernel
theorem dL_source_17 : decode cL_source 17 = .ok (.iconst 1, 1) := by decide +kernel
theorem dL_source_18 : decode cL_source 18 = .ok (.ireturn, 1) := by decide +kernel
theorem dL_source_19 : decode cL_source 19 = .ok (.iconst 0, 1) := by decide +kernel
theorem dL_source_20 : decode cL_source 20 = .ok (.ireturn, 1) := by decide +kernel
theorem lk_L_47 : Cond.methodLink RL 47 yX6_source ∈ kg := kg_in 1130 (by decide +kernel) (by decide +kernel)
def hL_source : List (Nat × Nat × Nat × Nat) := [(0, 12, 15, 27)]
abbrev mL_source : KM := (RL, cL_source, 6, (some .int), { frames := 8, cells := 1, slots := 6, locals := 136 }, 1, 6)
set_option maxRecDepth 100000 in
theorem tL_source (l : Launch) (hst : l.stackTraces = false) (a1 a2 a3 : Int32) (σ : Sto) (tag : Nat) (v : Int32) (σ1 : Sto) (h : fX6_source a1 a2 a3 σ = some (tag, v, σ1)) (ht : tag = 0 ∨ tag = 3) : CTW hL_source l mL_source yL_source [.ref 0, .int a1, .int a2, .int a3, .ref 154] σ (0, .int (kti [3] tag), if tag = 0 then su σ1 154 0 v else σ1) := by
  refine kctw [(0, .ref 0), (1, .int a1), (2, .int a2), (3, .int a3), (4, .ref 154)] hst (by decide +kernel) rfl rfl (Nat.le_of_ble_eq_true rfl) ?_
  refine wv_aload (pc := 0) 4 dL_source_0 rfl ?_
  refine wv_iconst (pc := 2) (v := 0) dL_source_2 (by decide) ?_
  refine wv_aload_n (pc := 3) 0 dL_source_3 rfl rfl ?_
  refine wv_iload_n (pc := 4) 1 dL_source_4 rfl rfl ?_
  refine wv_iload_n (pc := 5) 2 dL_source_5 rfl rfl ?_
  refine wv_iload_n (pc := 6) 3 dL_source_6 rfl rfl ?_
  refine wv_call (pc := 7) (o1 := (tag, .int v, σ1)) (M' := mX6_source) (y := yX6_source) (ix := 47) [.int a1, .int a2, .int a3] (tX6_source l hst a1 a2 a3 σ (tag, v, σ1) h) dL_source_7 rfl yw_X6_source lk_L_47 (by decide) (by decide) (by decide) (fun h0 => ?_) (fun h0 => ?_)
  · rcases ht with ht | ht
    · exact absurd ht h0
    · subst ht
      refine ⟨show 3 ≤ 3 by decide, [], ⟨0, 12, 15, 27⟩, [], rfl, by decide, by decide, xc_3, (fun z hz => by cases hz), 5, 2, .inl ⟨dL_source_15, rfl⟩, by decide, ?_⟩
      refine wv_iconst (pc := 17) (v := 1) dL_source_17 (by decide) ?_
      exact wv_iret (pc := 18) dL_source_18 rfl rfl (by decide) (by decide)
  · have h0' : tag = 0 := h0
    subst h0'
    refine wv_i2l (pc := 10) dL_source_10 ?_
    refine wv_last (pc := 11) dL_source_11 ?_
    refine wv_goto (pc := 12) (tgt := 19) dL_source_12 (by decide) ?_
    refine wv_iconst (pc := 19) (v := 0) dL_source_19 (by decide) ?_
    exact wv_iret (pc := 20) dL_source_20 rfl rfl (by decide) (by decide)
theorem yw_X6_images : KMV yX6_images mX6_images RX6 2 := ⟨⟨rfl, by decide +kernel, by decide +kernel, by decide +kernel⟩, ⟨rfl, rfl⟩, kg_in 1138 (by decide +kernel) (by decide +kernel), kg_in 1139 (by decide +kernel) (by decide +kernel), kg_in 121 (by decide +kernel) (by decide +kernel), kg_in 1140 (by decide +kernel) (by decide +kernel)⟩
theorem dL_images_0 : decode cL_images 0 = .ok (.aload_n 3, 1) := by decide +kernel
theorem dL_images_1 : decode cL_images 1 = .ok (.iconst 0, 1) := by decide +kernel
theorem dL_images_2 : decode cL_images 2 = .ok (.aload_n 0, 1) := by decide +kernel
theorem dL_images_3 : decode cL_images 3 = .ok (.iload_n 1, 1) := by decide +kernel
theorem dL_images_4 : decode cL_images 4 = .ok (.iload_n 2, 1) := by decide +kernel
theorem dL_images_5 : decode cL_images 5 = .ok (.invokevirtual 51, 3) := by decide +kernel
theorem dL_images_8 : decode cL_images 8 = .ok (.i2l, 1) := by decide +kernel
theorem dL_images_9 : decode cL_images 9 = .ok (.lastore, 1) := by decide +kernel
theorem dL_images_10 : decode cL_images 10 = .ok (.goto 7, 3) := by decide +kernel
theorem dL_images_13 : decode cL_images 13 = .ok (.astore 4, 2) := by decide +kernel
theorem dL_images_15 : decode cL_images 15 = .ok (.iconst 1, 1) := by decide +kernel
theorem dL_images_16 : decode cL_images 16 = .ok (.ireturn, 1) := by decide +kernel
theorem dL_images_17 : decode cL_images 17 = .ok (.iconst 0, 1) := by decide +kernel
theorem dL_images_18 : decode cL_images 18 = .ok (.ireturn, 1) := by decide +kernel
theorem lk_L_51 : Cond.methodLink RL 51 yX6_images ∈ kg := kg_in 1137 (by decide +kernel) (by decide +kernel)
def hL_images : List (Nat × Nat × Nat × Nat) := [(0, 10, 13, 27)]
abbrev mL_images : KM := (RL, cL_images, 5, (some .int), { frames := 8, cells := 1, slots := 6, locals := 138 }, 1, 6)
set_option maxRecDepth 100000 in
theorem tL_images (l : Launch) (hst : l.stackTraces = false) (a1 a2 : Int32) (σ : Sto) (tag : Nat) (v : Int32) (σ1 : Sto) (h : fX6_images a1 a2 σ = some (tag, v, σ1)) (ht : tag = 0 ∨ tag = 3) : CTW hL_images l mL_images yL_images [.ref 0, .int a1, .int a2, .ref 154] σ (0, .int (kti [3] tag), if tag = 0 then su σ1 154 0 v else σ1) := by
  refine kctw [(0, .ref 0), (1, .int a1), (2, .int a2), (3, .ref 154)] hst (by decide +kernel) rfl rfl (Nat.le_of_ble_eq_true rfl) ?_
  refine wv_aload_n (pc := 0) 3 dL_images_0 rfl rfl ?_
  refine wv_iconst (pc := 1) (v := 0) dL_images_1 (by decide) ?_
  refine wv_aload_n (pc := 2) 0 dL_images_2 rfl rfl ?_
  refine wv_iload_n (pc := 3) 1 dL_images_3 rfl rfl ?_
  refine wv_iload_n (pc := 4) 2 dL_images_4 rfl rfl ?_
  refine wv_call (pc := 5) (o1 := (tag, .int v, σ1)) (M' := mX6_images) (y := yX6_images) (ix := 51) [.int a1, .int a2] (tX6_images l hst a1 a2 σ (tag, v, σ1) h) dL_images_5 rfl yw_X6_images lk_L_51 (by decide) (by decide) (by decide) (fun h0 => ?_) (fun h0 => ?_)
  · rcases ht with ht | ht
    · exact absurd ht h0
    · subst ht
      refine ⟨show 3 ≤ 3 by decide, [], ⟨0, 10, 13, 27⟩, [], rfl, by decide, by decide, xc_3, (fun z hz => by cases hz), 4, 2, .inl ⟨dL_images_13, rfl⟩, by decide, ?_⟩
      refine wv_iconst (pc := 15) (v := 1) dL_images_15 (by decide) ?_
      exact wv_iret (pc := 16) dL_images_16 rfl rfl (by decide) (by decide)
  · have h0' : tag = 0 := h0
    subst h0'
    refine wv_i2l (pc := 8) dL_images_8 ?_
    refine wv_last (pc := 9) dL_images_9 ?_
    refine wv_goto (pc := 10) (tgt := 17) dL_images_10 (by decide) ?_
    refine wv_iconst (pc := 17) (v := 0) dL_images_17 (by decide) ?_
    exact wv_iret (pc := 18) dL_images_18 rfl rfl (by decide) (by decide)
theorem yw_X6_cellsOf : KMV yX6_cellsOf mX6_cellsOf RX6 1 := ⟨⟨rfl, by decide +kernel, by decide +kernel, by decide +kernel⟩, ⟨rfl, rfl⟩, kg_in 1149 (by decide +kernel) (by decide +kernel), kg_in 1150 (by decide +kernel) (by decide +kernel), kg_in 121 (by decide +kernel) (by decide +kernel), kg_in 1151 (by decide +kernel) (by decide +kernel)⟩
theorem dL_cellsOf_0 : decode cL_cellsOf 0 = .ok (.aload_n 2, 1) := by decide +kernel
theorem dL_cellsOf_1 : decode cL_cellsOf 1 = .ok (.iconst 0, 1) := by decide +kernel
theorem dL_cellsOf_2 : decode cL_cellsOf 2 = .ok (.aload_n 0, 1) := by decide +kernel
theorem dL_cellsOf_3 : decode cL_cellsOf 3 = .ok (.iload_n 1, 1) := by decide +kernel
theorem dL_cellsOf_4 : decode cL_cellsOf 4 = .ok (.invokevirtual 54, 3) := by decide +kernel
theorem dL_cellsOf_7 : decode cL_cellsOf 7 = .ok (.i2l, 1) := by decide +kernel
theorem dL_cellsOf_8 : decode cL_cellsOf 8 = .ok (.lastore, 1) := by decide +kernel
theorem dL_cellsOf_9 : decode cL_cellsOf 9 = .ok (.goto 6, 3) := by decide +kernel
theorem dL_cellsOf_12 : decode cL_cellsOf 12 = .ok (.astore_n 3, 1) := by decide +kernel
theorem dL_cellsOf_13 : decode cL_cellsOf 13 = .ok (.iconst 1, 1) := by decide +kernel
theorem dL_cellsOf_14 : decode cL_cellsOf 14 = .ok (.ireturn, 1) := by decide +kernel
theorem dL_cellsOf_15 : decode cL_cellsOf 15 = .ok (.iconst 0, 1) := by decide +kernel
theorem dL_cellsOf_16 : decode cL_cellsOf 16 = .ok (.ireturn, 1) := by decide +kernel
theorem lk_L_54 : Cond.methodLink RL 54 yX6_cellsOf ∈ kg := kg_in 1148 (by decide +kernel) (by decide +kernel)
def hL_cellsOf : List (Nat × Nat × Nat × Nat) := [(0, 9, 12, 18)]
abbrev mL_cellsOf : KM := (RL, cL_cellsOf, 4, (some .int), { frames := 8, cells := 1, slots := 6, locals := 157 }, 1, 6)
set_option maxRecDepth 100000 in
theorem tL_cellsOf (l : Launch) (hst : l.stackTraces = false) (a1 : Int32) (σ : Sto) (tag : Nat) (v : Int32) (σ1 : Sto) (h : fX6_cellsOf a1 σ = some (tag, v, σ1)) (ht : tag = 0 ∨ tag = 1) : CTW hL_cellsOf l mL_cellsOf yL_cellsOf [.ref 0, .int a1, .ref 154] σ (0, .int (kti [1] tag), if tag = 0 then su σ1 154 0 v else σ1) := by
  refine kctw [(0, .ref 0), (1, .int a1), (2, .ref 154)] hst (by decide +kernel) rfl rfl (Nat.le_of_ble_eq_true rfl) ?_
  refine wv_aload_n (pc := 0) 2 dL_cellsOf_0 rfl rfl ?_
  refine wv_iconst (pc := 1) (v := 0) dL_cellsOf_1 (by decide) ?_
  refine wv_aload_n (pc := 2) 0 dL_cellsOf_2 rfl rfl ?_
  refine wv_iload_n (pc := 3) 1 dL_cellsOf_3 rfl rfl ?_
  refine wv_call (pc := 4) (o1 := (tag, .int v, σ1)) (M' := mX6_cellsOf) (y := yX6_cellsOf) (ix := 54) [.int a1] (tX6_cellsOf l hst a1 σ (tag, v, σ1) h) dL_cellsOf_4 rfl yw_X6_cellsOf lk_L_54 (by decide) (by decide) (by decide) (fun h0 => ?_) (fun h0 => ?_)
  · rcases ht with ht | ht
    · exact absurd ht h0
    · subst ht
      refine ⟨show 1 ≤ 3 by decide, [], ⟨0, 9, 12, 18⟩, [], rfl, by decide, by decide, xc_1, (fun z hz => by cases hz), 3, 1, .inr ⟨3, dL_cellsOf_12, rfl, rfl⟩, by decide, ?_⟩
      refine wv_iconst (pc := 13) (v := 1) dL_cellsOf_13 (by decide) ?_
      exact wv_iret (pc := 14) dL_cellsOf_14 rfl rfl (by decide) (by decide)
  · have h0' : tag = 0 := h0
    subst h0'
    refine wv_i2l (pc := 7) dL_cellsOf_7 ?_
    refine wv_last (pc := 8) dL_cellsOf_8 ?_
    refine wv_goto (pc := 9) (tgt := 15) dL_cellsOf_9 (by decide) ?_
    refine wv_iconst (pc := 15) (v := 0) dL_cellsOf_15 (by decide) ?_
    exact wv_iret (pc := 16) dL_cellsOf_16 rfl rfl (by decide) (by decide)
theorem yw_X6_commonest : KMV yX6_commonest mX6_commonest RX6 1 := ⟨⟨rfl, by decide +kernel, by decide +kernel, by decide +kernel⟩, ⟨rfl, rfl⟩, kg_in 1164 (by decide +kernel) (by decide +kernel), kg_in 1165 (by decide +kernel) (by decide +kernel), kg_in 121 (by decide +kernel) (by decide +kernel), kg_in 1166 (by decide +kernel) (by decide +kernel)⟩
theorem dL_commonest_0 : decode cL_commonest 0 = .ok (.aload_n 2, 1) := by decide +kernel
theorem dL_commonest_1 : decode cL_commonest 1 = .ok (.iconst 0, 1) := by decide +kernel
theorem dL_commonest_2 : decode cL_commonest 2 = .ok (.aload_n 0, 1) := by decide +kernel
theorem dL_commonest_3 : decode cL_commonest 3 = .ok (.iload_n 1, 1) := by decide +kernel
theorem dL_commonest_4 : decode cL_commonest 4 = .ok (.invokevirtual 57, 3) := by decide +kernel
theorem dL_commonest_7 : decode cL_commonest 7 = .ok (.i2l, 1) := by decide +kernel
theorem dL_commonest_8 : decode cL_commonest 8 = .ok (.lastore, 1) := by decide +kernel
theorem dL_commonest_9 : decode cL_commonest 9 = .ok (.goto 6, 3) := by decide +kernel
theorem dL_commonest_12 : decode cL_commonest 12 = .ok (.astore_n 3, 1) := by decide +kernel
theorem dL_commonest_13 : decode cL_commonest 13 = .ok (.iconst 1, 1) := by decide +kernel
theorem dL_commonest_14 : decode cL_commonest 14 = .ok (.ireturn, 1) := by decide +kernel
theorem dL_commonest_15 : decode cL_commonest 15 = .ok (.iconst 0, 1) := by decide +kernel
theorem dL_commonest_16 : decode cL_commonest 16 = .ok (.ireturn, 1) := by decide +kernel
theorem lk_L_57 : Cond.methodLink RL 57 yX6_commonest ∈ kg := kg_in 1163 (by decide +kernel) (by decide +kernel)
def hL_commonest : List (Nat × Nat × Nat × Nat) := [(0, 9, 12, 18)]
abbrev mL_commonest : KM := (RL, cL_commonest, 4, (some .int), { frames := 8, cells := 1, slots := 6, locals := 136 }, 1, 6)
set_option maxRecDepth 100000 in
theorem tL_commonest (l : Launch) (hst : l.stackTraces = false) (a1 : Int32) (σ : Sto) (tag : Nat) (v : Int32) (σ1 : Sto) (h : fX6_commonest a1 σ = some (tag, v, σ1)) (ht : tag = 0 ∨ tag = 1) : CTW hL_commonest l mL_commonest yL_commonest [.ref 0, .int a1, .ref 154] σ (0, .int (kti [1] tag), if tag = 0 then su σ1 154 0 v else σ1) := by
  refine kctw [(0, .ref 0), (1, .int a1), (2, .ref 154)] hst (by decide +kernel) rfl rfl (Nat.le_of_ble_eq_true rfl) ?_
  refine wv_aload_n (pc := 0) 2 dL_commonest_0 rfl rfl ?_
  refine wv_iconst (pc := 1) (v := 0) dL_commonest_1 (by decide) ?_
  refine wv_aload_n (pc := 2) 0 dL_commonest_2 rfl rfl ?_
  refine wv_iload_n (pc := 3) 1 dL_commonest_3 rfl rfl ?_
  refine wv_call (pc := 4) (o1 := (tag, .int v, σ1)) (M' := mX6_commonest) (y := yX6_commonest) (ix := 57) [.int a1] (tX6_commonest l hst a1 σ (tag, v, σ1) h) dL_commonest_4 rfl yw_X6_commonest lk_L_57 (by decide) (by decide) (by decide) (fun h0 => ?_) (fun h0 => ?_)
  · rcases ht with ht | ht
    · exact absurd ht h0
    · subst ht
      refine ⟨show 1 ≤ 3 by decide, [], ⟨0, 9, 12, 18⟩, [], rfl, by decide, by decide, xc_1, (fun z hz => by cases hz), 3, 1, .inr ⟨3, dL_commonest_12, rfl, rfl⟩, by decide, ?_⟩
      refine wv_iconst (pc := 13) (v := 1) dL_commonest_13 (by decide) ?_
      exact wv_iret (pc := 14) dL_commonest_14 rfl rfl (by decide) (by decide)
  · have h0' : tag = 0 := h0
    subst h0'
    refine wv_i2l (pc := 7) dL_commonest_7 ?_
    refine wv_last (pc := 8) dL_commonest_8 ?_
    refine wv_goto (pc := 9) (tgt := 15) dL_commonest_9 (by decide) ?_
    refine wv_iconst (pc := 15) (v := 0) dL_commonest_15 (by decide) ?_
    exact wv_iret (pc := 16) dL_commonest_16 rfl rfl (by decide) (by decide)
theorem yw_X6_regions : KMV yX6_regions mX6_regions RX6 1 := ⟨⟨rfl, by decide +kernel, by decide +kernel, by decide +kernel⟩, ⟨rfl, rfl⟩, kg_in 1180 (by decide +kernel) (by decide +kernel), kg_in 1181 (by decide +kernel) (by decide +kernel), kg_in 121 (by decide +kernel) (by decide +kernel), kg_in 1182 (by decide +kernel) (by decide +kernel)⟩
theorem dL_regions_0 : decode cL_regions 0 = .ok (.aload_n 2, 1) := by decide +kernel
theorem dL_regions_1 : decode cL_regions 1 = .ok (.iconst 0, 1) := by decide +kernel
theorem dL_regions_2 : decode cL_regions 2 = .ok (.aload_n 0, 1) := by decide +kernel
theorem dL_regions_3 : decode cL_regions 3 = .ok (.iload_n 1, 1) := by decide +kernel
theorem dL_regions_4 : decode cL_regions 4 = .ok (.invokevirtual 60, 3) := by decide +kernel
theorem dL_regions_7 : decode cL_regions 7 = .ok (.i2l, 1) := by decide +kernel
theorem dL_regions_8 : decode cL_regions 8 = .ok (.lastore, 1) := by decide +kernel
theorem dL_regions_9 : decode cL_regions 9 = .ok (.goto 6, 3) := by decide +kernel
theorem dL_regions_12 : decode cL_regions 12 = .ok (.astore_n 3, 1) := by decide +kernel
theorem dL_regions_13 : decode cL_regions 13 = .ok (.iconst 1, 1) := by decide +kernel
theorem dL_regions_14 : decode cL_regions 14 = .ok (.ireturn, 1) := by decide +kernel
theorem dL_regions_15 : decode cL_regions 15 = .ok (.iconst 0, 1) := by decide +kernel
theorem dL_regions_16 : decode cL_regions 16 = .ok (.ireturn, 1) := by decide +kernel
theorem lk_L_60 : Cond.methodLink RL 60 yX6_regions ∈ kg := kg_in 1179 (by decide +kernel) (by decide +kernel)
def hL_regions : List (Nat × Nat × Nat × Nat) := [(0, 9, 12, 18)]
abbrev mL_regions : KM := (RL, cL_regions, 4, (some .int), { frames := 8, cells := 1, slots := 6, locals := 140 }, 1, 6)
set_option maxRecDepth 100000 in
theorem tL_regions (l : Launch) (hst : l.stackTraces = false) (a1 : Int32) (σ : Sto) (tag : Nat) (v : Int32) (σ1 : Sto) (h : fX6_regions a1 σ = some (tag, v, σ1)) (ht : tag = 0 ∨ tag = 1) : CTW hL_regions l mL_regions yL_regions [.ref 0, .int a1, .ref 154] σ (0, .int (kti [1] tag), if tag = 0 then su σ1 154 0 v else σ1) := by
  refine kctw [(0, .ref 0), (1, .int a1), (2, .ref 154)] hst (by decide +kernel) rfl rfl (Nat.le_of_ble_eq_true rfl) ?_
  refine wv_aload_n (pc := 0) 2 dL_regions_0 rfl rfl ?_
  refine wv_iconst (pc := 1) (v := 0) dL_regions_1 (by decide) ?_
  refine wv_aload_n (pc := 2) 0 dL_regions_2 rfl rfl ?_
  refine wv_iload_n (pc := 3) 1 dL_regions_3 rfl rfl ?_
  refine wv_call (pc := 4) (o1 := (tag, .int v, σ1)) (M' := mX6_regions) (y := yX6_regions) (ix := 60) [.int a1] (tX6_regions l hst a1 σ (tag, v, σ1) h) dL_regions_4 rfl yw_X6_regions lk_L_60 (by decide) (by decide) (by decide) (fun h0 => ?_) (fun h0 => ?_)
  · rcases ht with ht | ht
    · exact absurd ht h0
    · subst ht
      refine ⟨show 1 ≤ 3 by decide, [], ⟨0, 9, 12, 18⟩, [], rfl, by decide, by decide, xc_1, (fun z hz => by cases hz), 3, 1, .inr ⟨3, dL_regions_12, rfl, rfl⟩, by decide, ?_⟩
      refine wv_iconst (pc := 13) (v := 1) dL_regions_13 (by decide) ?_
      exact wv_iret (pc := 14) dL_regions_14 rfl rfl (by decide) (by decide)
  · have h0' : tag = 0 := h0
    subst h0'
    refine wv_i2l (pc := 7) dL_regions_7 ?_
    refine wv_last (pc := 8) dL_regions_8 ?_
    refine wv_goto (pc := 9) (tgt := 15) dL_regions_9 (by decide) ?_
    refine wv_iconst (pc := 15) (v := 0) dL_regions_15 (by decide) ?_
    exact wv_iret (pc := 16) dL_regions_16 rfl rfl (by decide) (by decide)
theorem yw_X6_regionSize : KMV yX6_regionSize mX6_regionSize RX6 2 := ⟨⟨rfl, by decide +kernel, by decide +kernel, by decide +kernel⟩, ⟨rfl, rfl⟩, kg_in 1203 (by decide +kernel) (by decide +kernel), kg_in 1204 (by decide +kernel) (by decide +kernel), kg_in 121 (by decide +kernel) (by decide +kernel), kg_in 1205 (by decide +kernel) (by decide +kernel)⟩
theorem dL_regionSize_0 : decode cL_regionSize 0 = .ok (.aload_n 3, 1) := by decide +kernel
theorem dL_regionSize_1 : decode cL_regionSize 1 = .ok (.iconst 0, 1) := by decide +kernel
theorem dL_regionSize_2 : decode cL_regionSize 2 = .ok (.aload_n 0, 1) := by decide +kernel
theorem dL_regionSize_3 : decode cL_regionSize 3 = .ok (.iload_n 1, 1) := by decide +kernel
theorem dL_regionSize_4 : decode cL_regionSize 4 = .ok (.iload_n 2, 1) := by decide +kernel
theorem dL_regionSize_5 : decode cL_regionSize 5 = .ok (.invokevirtual 63, 3) := by decide +kernel
theorem dL_regionSize_8 : decode cL_regionSize 8 = .ok (.i2l, 1) := by decide +kernel
theorem dL_regionSize_9 : decode cL_regionSize 9 = .ok (.lastore, 1) := by decide +kernel
theorem dL_regionSize_10 : decode cL_regionSize 10 = .ok (.goto 7, 3) := by decide +kernel
theorem dL_regionSize_13 : decode cL_regionSize 13 = .ok (.astore 4, 2) := by decide +kernel
theorem dL_regionSize_15 : decode cL_regionSize 15 = .ok (.iconst 1, 1) := by decide +kernel
theorem dL_regionSize_16 : decode cL_regionSize 16 = .ok (.ireturn, 1) := by decide +kernel
theorem dL_regionSize_17 : decode cL_regionSize 17 = .ok (.iconst 0, 1) := by decide +kernel
theorem dL_regionSize_18 : decode cL_regionSize 18 = .ok (.ireturn, 1) := by decide +kernel
theorem lk_L_63 : Cond.methodLink RL 63 yX6_regionSize ∈ kg := kg_in 1202 (by decide +kernel) (by decide +kernel)
def hL_regionSize : List (Nat × Nat × Nat × Nat) := [(0, 10, 13, 27)]
abbrev mL_regionSize : KM := (RL, cL_regionSize, 5, (some .int), { frames := 8, cells := 1, slots := 6, locals := 139 }, 1, 6)
set_option maxRecDepth 100000 in
theorem tL_regionSize (l : Launch) (hst : l.stackTraces = false) (a1 a2 : Int32) (σ : Sto) (tag : Nat) (v : Int32) (σ1 : Sto) (h : fX6_regionSize a1 a2 σ = some (tag, v, σ1)) (ht : tag = 0 ∨ tag = 3) : CTW hL_regionSize l mL_regionSize yL_regionSize [.ref 0, .int a1, .int a2, .ref 154] σ (0, .int (kti [3] tag), if tag = 0 then su σ1 154 0 v else σ1) := by
  refine kctw [(0, .ref 0), (1, .int a1), (2, .int a2), (3, .ref 154)] hst (by decide +kernel) rfl rfl (Nat.le_of_ble_eq_true rfl) ?_
  refine wv_aload_n (pc := 0) 3 dL_regionSize_0 rfl rfl ?_
  refine wv_iconst (pc := 1) (v := 0) dL_regionSize_1 (by decide) ?_
  refine wv_aload_n (pc := 2) 0 dL_regionSize_2 rfl rfl ?_
  refine wv_iload_n (pc := 3) 1 dL_regionSize_3 rfl rfl ?_
  refine wv_iload_n (pc := 4) 2 dL_regionSize_4 rfl rfl ?_
  refine wv_call (pc := 5) (o1 := (tag, .int v, σ1)) (M' := mX6_regionSize) (y := yX6_regionSize) (ix := 63) [.int a1, .int a2] (tX6_regionSize l hst a1 a2 σ (tag, v, σ1) h) dL_regionSize_5 rfl yw_X6_regionSize lk_L_63 (by decide) (by decide) (by decide) (fun h0 => ?_) (fun h0 => ?_)
  · rcases ht with ht | ht
    · exact absurd ht h0
    · subst ht
      refine ⟨show 3 ≤ 3 by decide, [], ⟨0, 10, 13, 27⟩, [], rfl, by decide, by decide, xc_3, (fun z hz => by cases hz), 4, 2, .inl ⟨dL_regionSize_13, rfl⟩, by decide, ?_⟩
      refine wv_iconst (pc := 15) (v := 1) dL_regionSize_15 (by decide) ?_
      exact wv_iret (pc := 16) dL_regionSize_16 rfl rfl (by decide) (by decide)
  · have h0' : tag = 0 := h0
    subst h0'
    refine wv_i2l (pc := 8) dL_regionSize_8 ?_
    refine wv_last (pc := 9) dL_regionSize_9 ?_
    refine wv_goto (pc := 10) (tgt := 17) dL_regionSize_10 (by decide) ?_
    refine wv_iconst (pc := 17) (v := 0) dL_regionSize_17 (by decide) ?_
    exact wv_iret (pc := 18) dL_regionSize_18 rfl rfl (by decide) (by decide)
theorem yw_X6_mapped : KMV yX6_mapped mX6_mapped RX6 4 := ⟨⟨rfl, by decide +kernel, by decide +kernel, by decide +kernel⟩, ⟨rfl, rfl⟩, kg_in 1214 (by decide +kernel) (by decide +kernel), kg_in 1215 (by decide +kernel) (by decide +kernel), kg_in 121 (by decide +kernel) (by decide +kernel), kg_in 1216 (by decide +kernel) (by decide +kernel)⟩
theorem dL_mapped_0 : decode cL_mapped 0 = .ok (.aload 5, 2) := by decide +kernel
theorem dL_mapped_2 : decode cL_mapped 2 = .ok (.iconst 0, 1) := by decide +kernel
theorem dL_mapped_3 : decode cL_mapped 3 = .ok (.aload_n 0, 1) := by decide +kernel
theorem dL_mapped_4 : decode cL_mapped 4 = .ok (.iload_n 1, 1) := by decide +kernel
theorem dL_mapped_5 : decode cL_mapped 5 = .ok (.iload_n 2, 1) := by decide +kernel
theorem dL_mapped_6 : decode cL_mapped 6 = .ok (.iload_n 3, 1) := by decide +kernel
theorem dL_mapped_7 : decode cL_mapped 7 = .ok (.iload 4, 2) := by decide +kernel
theorem dL_mapped_9 : decode cL_mapped 9 = .ok (.invokevirtual 66, 3) := by decide +kernel
theorem dL_mapped_12 : decode cL_mapped 12 = .ok (.i2l, 1) := by decide +kernel
theorem dL_mapped_13 : decode cL_mapped 13 = .ok (.lastore, 1) := by decide +kernel
theorem dL_mapped_14 : decode cL_mapped 14 = .ok (.goto 7, 3) := by decide +kernel
theorem dL_mapped_17 : decode cL_mapped 17 = .ok (.astore 6, 2) := by decide +kernel
theorem dL_mapped_19 : decode cL_mapped 19 = .ok (.iconst 1, 1) := by decide +kernel
theorem dL_mapped_20 : decode cL_mapped 20 = .ok (.ireturn, 1) := by decide +kernel
theorem dL_mapped_21 : decode cL_mapped 21 = .ok (.iconst 0, 1) := by decide +kernel
theorem dL_mapped_22 : decode cL_mapped 22 = .ok (.ireturn, 1) := by decide +kernel
theorem lk_L_66 : Cond.methodLink RL 66 yX6_mapped ∈ kg := kg_in 1213 (by decide +kernel) (by decide +kernel)
def hL_mapped : List (Nat × Nat × Nat × Nat) := [(0, 14, 17, 27)]
abbrev mL_mapped : KM := (RL, cL_mapped, 7, (some .int), { frames := 8, cells := 1, slots := 6, locals := 136 }, 1, 6)
set_option maxRecDepth 100000 in
theorem tL_mapped (l : Launch) (hst : l.stackTraces = false) (a1 a2 a3 a4 : Int32) (σ : Sto) (tag : Nat) (v : Int32) (σ1 : Sto) (h : liN (fX6_mapped a1 a2 a3 a4 σ) σ = some (tag, v, σ1)) (ht : tag = 0 ∨ tag = 3) : CTW hL_mapped l mL_mapped yL_mapped [.ref 0, .int a1, .int a2, .int a3, .int a4, .ref 154] σ (0, .int (kti [3] tag), if tag = 0 then su σ1 154 0 v else σ1) := by
  obtain ⟨h, h1⟩ := liN_inv h
  subst h1
  refine kctw [(0, .ref 0), (1, .int a1), (2, .int a2), (3, .int a3), (4, .int a4), (5, .ref 154)] hst (by decide +kernel) rfl rfl (Nat.le_of_ble_eq_true rfl) ?_
  refine wv_aload (pc := 0) 5 dL_mapped_0 rfl ?_
  refine wv_iconst (pc := 2) (v := 0) dL_mapped_2 (by decide) ?_
  refine wv_aload_n (pc := 3) 0 dL_mapped_3 rfl rfl ?_
  refine wv_iload_n (pc := 4) 1 dL_mapped_4 rfl rfl ?_
  refine wv_iload_n (pc := 5) 2 dL_mapped_5 rfl rfl ?_
  refine wv_iload_n (pc := 6) 3 dL_mapped_6 rfl rfl ?_
  refine wv_iload (pc := 7) 4 dL_mapped_7 rfl ?_
  refine wv_call (pc := 9) (o1 := (tag, .int v, σ1)) (M' := mX6_mapped) (y := yX6_mapped) (ix := 66) [.int a1, .int a2, .int a3, .int a4] (tX6_mapped l hst a1 a2 a3 a4 σ1 (tag, v) h) dL_mapped_9 rfl yw_X6_mapped lk_L_66 (by decide) (by decide) (by decide) (fun h0 => ?_) (fun h0 => ?_)
  · rcases ht with ht | ht
    · exact absurd ht h0
    · subst ht
      refine ⟨show 3 ≤ 3 by decide, [], ⟨0, 14, 17, 27⟩, [], rfl, by decide, by decide, xc_3, (fun z hz => by cases hz), 6, 2, .inl ⟨dL_mapped_17, rfl⟩, by decide, ?_⟩
      refine wv_iconst (pc := 19) (v := 1) dL_mapped_19 (by decide) ?_
      exact wv_iret (pc := 20) dL_mapped_20 rfl rfl (by decide) (by decide)
  · have h0' : tag = 0 := h0
    subst h0'
    refine wv_i2l (pc := 12) dL_mapped_12 ?_
    refine wv_last (pc := 13) dL_mapped_13 ?_
    refine wv_goto (pc := 14) (tgt := 21) dL_mapped_14 (by decide) ?_
    refine wv_iconst (pc := 21) (v := 0) dL_mapped_21 (by decide) ?_
    exact wv_iret (pc := 22) dL_mapped_22 rfl rfl (by decide) (by decide)
theorem yw_X6_matches : KMV yX6_matches mX6_matches RX6 1 := ⟨⟨rfl, by decide +kernel, by decide +kernel, by decide +kernel⟩, ⟨rfl, rfl⟩, kg_in 1222 (by decide +kernel) (by decide +kernel), kg_in 1223 (by decide +kernel) (by decide +kernel), kg_in 121 (by decide +kernel) (by decide +kernel), kg_in 1224 (by decide +kernel) (by decide +kernel)⟩
theorem dL_matches_0 : decode cL_matches 0 = .ok (.aload_n 2, 1) := by decide +kernel
theorem dL_matches_1 : decode cL_matches 1 = .ok (.iconst 0, 1) := by decide +kernel
theorem dL_matches_2 : decode cL_matches 2 = .ok (.aload_n 0, 1) := by decide +kernel
theorem dL_matches_3 : decode cL_matches 3 = .ok (.iload_n 1, 1) := by decide +kernel
theorem dL_matches_4 : decode cL_matches 4 = .ok (.invokevirtual 70, 3) := by decide +kernel
theorem dL_matches_7 : decode cL_matches 7 = .ok (.i2l, 1) := by decide +kernel
theorem dL_matches_8 : decode cL_matches 8 = .ok (.lastore, 1) := by decide +kernel
theorem dL_matches_9 : decode cL_matches 9 = .ok (.goto 9, 3) := by decide +kernel
theorem dL_matches_12 : decode cL_matches 12 = .ok (.astore_n 3, 1) := by decide +kernel
theorem dL_matches_13 : decode cL_matches 13 = .ok (.iconst 1, 1) := by decide +kernel
theorem dL_matches_14 : decode cL_matches 14 = .ok (.ireturn, 1) := by decide +kernel
theorem dL_matches_15 : decode cL_matches 15 = .ok (.astore_n 3, 1) := by decide +kernel
theorem dL_matches_16 : decode cL_matches 16 = .ok (.iconst 2, 1) := by decide +kernel
theorem dL_matches_17 : decode cL_matches 17 = .ok (.ireturn, 1) := by decide +kernel
theorem dL_matches_18 : decode cL_matches 18 = .ok (.iconst 0, 1) := by decide +kernel
theorem dL_matches_19 : decode cL_matches 19 = .ok (.ireturn, 1) := by decide +kernel
theorem lk_L_70 : Cond.methodLink RL 70 yX6_matches ∈ kg := kg_in 1221 (by decide +kernel) (by decide +kernel)
def hL_matches : List (Nat × Nat × Nat × Nat) := [(0, 9, 12, 18), (0, 9, 15, 13)]
abbrev mL_matches : KM := (RL, cL_matches, 4, (some .int), { frames := 9, cells := 2, slots := 12, locals := 155 }, 2, 12)
set_option maxRecDepth 100000 in
theorem tL_matches (l : Launch) (hst : l.stackTraces = false) (a1 : Int32) (σ : Sto) (tag : Nat) (v : Int32) (σ1 : Sto) (h : fX6_matches a1 σ = some (tag, v, σ1)) (ht : tag = 0 ∨ tag = 1 ∨ tag = 2) : CTW hL_matches l mL_matches yL_matches [.ref 0, .int a1, .ref 154] σ (0, .int (kti [1, 2] tag), if tag = 0 then su σ1 154 0 v else σ1) := by
  refine kctw [(0, .ref 0), (1, .int a1), (2, .ref 154)] hst (by decide +kernel) rfl rfl (Nat.le_of_ble_eq_true rfl) ?_
  refine wv_aload_n (pc := 0) 2 dL_matches_0 rfl rfl ?_
  refine wv_iconst (pc := 1) (v := 0) dL_matches_1 (by decide) ?_
  refine wv_aload_n (pc := 2) 0 dL_matches_2 rfl rfl ?_
  refine wv_iload_n (pc := 3) 1 dL_matches_3 rfl rfl ?_
  refine wv_call (pc := 4) (o1 := (tag, .int v, σ1)) (M' := mX6_matches) (y := yX6_matches) (ix := 70) [.int a1] (tX6_matches l hst a1 σ (tag, v, σ1) h) dL_matches_4 rfl yw_X6_matches lk_L_70 (by decide) (by decide) (by decide) (fun h0 => ?_) (fun h0 => ?_)
  · rcases ht with ht | ht | ht
    · exact absurd ht h0
    · subst ht
      refine ⟨show 1 ≤ 3 by decide, [], ⟨0, 9, 12, 18⟩, [⟨0, 9, 15, 13⟩], rfl, by decide, by decide, xc_1, (fun z hz => by cases hz), 3, 1, .inr ⟨3, dL_matches_12, rfl, rfl⟩, by decide, ?_⟩
      refine wv_iconst (pc := 13) (v := 1) dL_matches_13 (by decide) ?_
      exact wv_iret (pc := 14) dL_matches_14 rfl rfl (by decide) (by decide)
    · subst ht
      refine ⟨show 2 ≤ 3 by decide, [⟨0, 9, 12, 18⟩], ⟨0, 9, 15, 13⟩, [], rfl, by decide, by decide, xc_2, (fun z hz => by
        rcases List.mem_cons.mp hz with hz | hz
        · subst hz; exact ⟨by decide, 1, by decide, by decide, show 2 ≠ 1 by decide, xc_1⟩
        · cases hz), 3, 1, .inr ⟨3, dL_matches_15, rfl, rfl⟩, by decide, ?_⟩
      refine wv_iconst (pc := 16) (v := 2) dL_matches_16 (by decide) ?_
      exact wv_iret (pc := 17) dL_matches_17 rfl rfl (by decide) (by decide)
  · have h0' : tag = 0 := h0
    subst h0'
    refine wv_i2l (pc := 7) dL_matches_7 ?_
    refine wv_last (pc := 8) dL_matches_8 ?_
    refine wv_goto (pc := 9) (tgt := 18) dL_matches_9 (by decide) ?_
    refine wv_iconst (pc := 18) (v := 0) dL_matches_18 (by decide) ?_
    exact wv_iret (pc := 19) dL_matches_19 rfl rfl (by decide) (by decide)
theorem yw_X6_add : KMV yX6_add mX6_add RX6 5 := ⟨⟨rfl, by decide +kernel, by decide +kernel, by decide +kernel⟩, ⟨rfl, rfl⟩, kg_in 1237 (by decide +kernel) (by decide +kernel), kg_in 1238 (by decide +kernel) (by decide +kernel), kg_in 121 (by decide +kernel) (by decide +kernel), kg_in 1239 (by decide +kernel) (by decide +kernel)⟩
theorem dL_add_0 : decode cL_add 0 = .ok (.aload 6, 2) := by decide +kernel
theorem dL_add_2 : decode cL_add 2 = .ok (.iconst 0, 1) := by decide +kernel
theorem dL_add_3 : decode cL_add 3 = .ok (.aload_n 0, 1) := by decide +kernel
theorem dL_add_4 : decode cL_add 4 = .ok (.iload_n 1, 1) := by decide +kernel
theorem dL_add_5 : decode cL_add 5 = .ok (.iload_n 2, 1) := by decide +kernel
theorem dL_add_6 : decode cL_add 6 = .ok (.iload_n 3, 1) := by decide +kernel
theorem dL_add_7 : decode cL_add 7 = .ok (.iload 4, 2) := by decide +kernel
theorem dL_add_9 : decode cL_add 9 = .ok (.iload 5, 2) := by decide +kernel
theorem dL_add_11 : decode cL_add 11 = .ok (.invokevirtual 73, 3) := by decide +kernel
theorem dL_add_14 : decode cL_add 14 = .ok (.i2l, 1) := by decide +kernel
theorem dL_add_15 : decode cL_add 15 = .ok (.lastore, 1) := by decide +kernel
theorem dL_add_16 : decode cL_add 16 = .ok (.goto 11, 3) := by decide +kernel
theorem dL_add_19 : decode cL_add 19 = .ok (.astore 7, 2) := by decide +kernel
theorem dL_add_21 : decode cL_add 21 = .ok (.iconst 1, 1) := by decide +kernel
theorem dL_add_22 : decode cL_add 22 = .ok (.ireturn, 1) := by decide +kernel
theorem dL_add_23 : decode cL_add 23 = .ok (.astore 7, 2) := by decide +kernel
theorem dL_add_25 : decode cL_add 25 = .ok (.iconst 2, 1) := by decide +kernel
theorem dL_add_26 : decode cL_add 26 = .ok (.ireturn, 1) := by decide +kernel
theorem dL_add_27 : decode cL_add 27 = .ok (.iconst 0, 1) := by decide +kernel
theorem dL_add_28 : decode cL_add 28 = .ok (.ireturn, 1) := by decide +kernel
theorem lk_L_73 : Cond.methodLink RL 73 yX6_add ∈ kg := kg_in 1236 (by decide +kernel) (by decide +kernel)
def hL_add : List (Nat × Nat × Nat × Nat) := [(0, 16, 19, 27), (0, 16, 23, 18)]
abbrev mL_add : KM := (RL, cL_add, 8, (some .int), { frames := 8, cells := 4, slots := 24, locals := 152 }, 4, 24)
set_option maxRecDepth 100000 in
theorem tL_add (l : Launch) (hst : l.stackTraces = false) (a1 a2 a3 a4 a5 : Int32) (σ : Sto) (tag : Nat) (v : Int32) (σ1 : Sto) (h : fX6_add a1 a2 a3 a4 a5 σ = some (tag, v, σ1)) (ht : tag = 0 ∨ tag = 3 ∨ tag = 1) : CTW hL_add l mL_add yL_add [.ref 0, .int a1, .int a2, .int a3, .int a4, .int a5, .ref 154] σ (0, .int (kti [3, 1] tag), if tag = 0 then su σ1 154 0 v else σ1) := by
  refine kctw [(0, .ref 0), (1, .int a1), (2, .int a2), (3, .int a3), (4, .int a4), (5, .int a5), (6, .ref 154)] hst (by decide +kernel) rfl rfl (Nat.le_of_ble_eq_true rfl) ?_
  refine wv_aload (pc := 0) 6 dL_add_0 rfl ?_
  refine wv_iconst (pc := 2) (v := 0) dL_add_2 (by decide) ?_
  refine wv_aload_n (pc := 3) 0 dL_add_3 rfl rfl ?_
  refine wv_iload_n (pc := 4) 1 dL_add_4 rfl rfl ?_
  refine wv_iload_n (pc := 5) 2 dL_add_5 rfl rfl ?_
  refine wv_iload_n (pc := 6) 3 dL_add_6 rfl rfl ?_
  refine wv_iload (pc := 7) 4 dL_add_7 rfl ?_
  refine wv_iload (pc := 9) 5 dL_add_9 rfl ?_
  refine wv_call (pc := 11) (o1 := (tag, .int v, σ1)) (M' := mX6_add) (y := yX6_add) (ix := 73) [.int a1, .int a2, .int a3, .int a4, .int a5] (tX6_add l hst a1 a2 a3 a4 a5 σ (tag, v, σ1) h) dL_add_11 rfl yw_X6_add lk_L_73 (by decide) (by decide) (by decide) (fun h0 => ?_) (fun h0 => ?_)
  · rcases ht with ht | ht | ht
    · exact absurd ht h0
    · subst ht
      refine ⟨show 3 ≤ 3 by decide, [], ⟨0, 16, 19, 27⟩, [⟨0, 16, 23, 18⟩], rfl, by decide, by decide, xc_3, (fun z hz => by cases hz), 7, 2, .inl ⟨dL_add_19, rfl⟩, by decide, ?_⟩
      refine wv_iconst (pc := 21) (v := 1) dL_add_21 (by decide) ?_
      exact wv_iret (pc := 22) dL_add_22 rfl rfl (by decide) (by decide)
    · subst ht
      refine ⟨show 1 ≤ 3 by decide, [⟨0, 16, 19, 27⟩], ⟨0, 16, 23, 18⟩, [], rfl, by decide, by decide, xc_1, (fun z hz => by
        rcases List.mem_cons.mp hz with hz | hz
        · subst hz; exact ⟨by decide, 3, by decide, by decide, show 1 ≠ 3 by decide, xc_3⟩
        · cases hz), 7, 2, .inl ⟨dL_add_23, rfl⟩, by decide, ?_⟩
      refine wv_iconst (pc := 25) (v := 2) dL_add_25 (by decide) ?_
      exact wv_iret (pc := 26) dL_add_26 rfl rfl (by decide) (by decide)
  · have h0' : tag = 0 := h0
    subst h0'
    refine wv_i2l (pc := 14) dL_add_14 ?_
    refine wv_last (pc := 15) dL_add_15 ?_
    refine wv_goto (pc := 16) (tgt := 27) dL_add_16 (by decide) ?_
    refine wv_iconst (pc := 27) (v := 0) dL_add_27 (by decide) ?_
    exact wv_iret (pc := 28) dL_add_28 rfl rfl (by decide) (by decide)
theorem yw_X6_take : KMV yX6_take mX6_take RX6 1 := ⟨⟨rfl, by decide +kernel, by decide +kernel, by decide +kernel⟩, ⟨rfl, rfl⟩, kg_in 1245 (by decide +kernel) (by decide +kernel), kg_in 1246 (by decide +kernel) (by decide +kernel), kg_in 121 (by decide +kernel) (by decide +kernel), kg_in 1247 (by decide +kernel) (by decide +kernel)⟩
theorem dL_take_0 : decode cL_take 0 = .ok (.aload_n 2, 1) := by decide +kernel
theorem dL_take_1 : decode cL_take 1 = .ok (.iconst 0, 1) := by decide +kernel
theorem dL_take_2 : decode cL_take 2 = .ok (.aload_n 0, 1) := by decide +kernel
theorem dL_take_3 : decode cL_take 3 = .ok (.iload_n 1, 1) := by decide +kernel
theorem dL_take_4 : decode cL_take 4 = .ok (.invokevirtual 77, 3) := by decide +kernel
theorem dL_take_7 : decode cL_take 7 = .ok (.i2l, 1) := by decide +kernel
theorem dL_take_8 : decode cL_take 8 = .ok (.lastore, 1) := by decide +kernel
theorem dL_take_9 : decode cL_take 9 = .ok (.goto 6, 3) := by decide +kernel
theorem dL_take_12 : decode cL_take 12 = .ok (.astore_n 3, 1) := by decide +kernel
theorem dL_take_13 : decode cL_take 13 = .ok (.iconst 1, 1) := by decide +kernel
theorem dL_take_14 : decode cL_take 14 = .ok (.ireturn, 1) := by decide +kernel
theorem dL_take_15 : decode cL_take 15 = .ok (.iconst 0, 1) := by decide +kernel
theorem dL_take_16 : decode cL_take 16 = .ok (.ireturn, 1) := by decide +kernel
theorem lk_L_77 : Cond.methodLink RL 77 yX6_take ∈ kg := kg_in 1244 (by decide +kernel) (by decide +kernel)
def hL_take : List (Nat × Nat × Nat × Nat) := [(0, 9, 12, 27)]
abbrev mL_take : KM := (RL, cL_take, 4, (some .int), { frames := 8, cells := 1, slots := 6, locals := 147 }, 1, 6)
set_option maxRecDepth 100000 in
theorem tL_take (l : Launch) (hst : l.stackTraces = false) (a1 : Int32) (σ : Sto) (tag : Nat) (v : Int32) (σ1 : Sto) (h : fX6_take a1 σ = some (tag, v, σ1)) (ht : tag = 0 ∨ tag = 3) : CTW hL_take l mL_take yL_take [.ref 0, .int a1, .ref 154] σ (0, .int (kti [3] tag), if tag = 0 then su σ1 154 0 v else σ1) := by
  refine kctw [(0, .ref 0), (1, .int a1), (2, .ref 154)] hst (by decide +kernel) rfl rfl (Nat.le_of_ble_eq_true rfl) ?_
  refine wv_aload_n (pc := 0) 2 dL_take_0 rfl rfl ?_
  refine wv_iconst (pc := 1) (v := 0) dL_take_1 (by decide) ?_
  refine wv_aload_n (pc := 2) 0 dL_take_2 rfl rfl ?_
  refine wv_iload_n (pc := 3) 1 dL_take_3 rfl rfl ?_
  refine wv_call (pc := 4) (o1 := (tag, .int v, σ1)) (M' := mX6_take) (y := yX6_take) (ix := 77) [.int a1] (tX6_take l hst a1 σ (tag, v, σ1) h) dL_take_4 rfl yw_X6_take lk_L_77 (by decide) (by decide) (by decide) (fun h0 => ?_) (fun h0 => ?_)
  · rcases ht with ht | ht
    · exact absurd ht h0
    · subst ht
      refine ⟨show 3 ≤ 3 by decide, [], ⟨0, 9, 12, 27⟩, [], rfl, by decide, by decide, xc_3, (fun z hz => by cases hz), 3, 1, .inr ⟨3, dL_take_12, rfl, rfl⟩, by decide, ?_⟩
      refine wv_iconst (pc := 13) (v := 1) dL_take_13 (by decide) ?_
      exact wv_iret (pc := 14) dL_take_14 rfl rfl (by decide) (by decide)
  · have h0' : tag = 0 := h0
    subst h0'
    refine wv_i2l (pc := 7) dL_take_7 ?_
    refine wv_last (pc := 8) dL_take_8 ?_
    refine wv_goto (pc := 9) (tgt := 15) dL_take_9 (by decide) ?_
    refine wv_iconst (pc := 15) (v := 0) dL_take_15 (by decide) ?_
    exact wv_iret (pc := 16) dL_take_16 rfl rfl (by decide) (by decide)
theorem yw_X6_push : KMV yX6_push mX6_push RX6 2 := ⟨⟨rfl, by decide +kernel, by decide +kernel, by decide +kernel⟩, ⟨rfl, rfl⟩, kg_in 1256 (by decide +kernel) (by decide +kernel), kg_in 1257 (by decide +kernel) (by decide +kernel), kg_in 121 (by decide +kernel) (by decide +kernel), kg_in 1258 (by decide +kernel) (by decide +kernel)⟩
theorem dL_push_0 : decode cL_push 0 = .ok (.aload_n 3, 1) := by decide +kernel
theorem dL_push_1 : decode cL_push 1 = .ok (.iconst 0, 1) := by decide +kernel
theorem dL_push_2 : decode cL_push 2 = .ok (.aload_n 0, 1) := by decide +kernel
theorem dL_push_3 : decode cL_push 3 = .ok (.iload_n 1, 1) := by decide +kernel
theorem dL_push_4 : decode cL_push 4 = .ok (.iload_n 2, 1) := by decide +kernel
theorem dL_push_5 : decode cL_push 5 = .ok (.invokevirtual 80, 3) := by decide +kernel
theorem dL_push_8 : decode cL_push 8 = .ok (.i2l, 1) := by decide +kernel
theorem dL_push_9 : decode cL_push 9 = .ok (.lastore, 1) := by decide +kernel
theorem dL_push_10 : decode cL_push 10 = .ok (.goto 7, 3) := by decide +kernel
theorem dL_push_13 : decode cL_push 13 = .ok (.astore 4, 2) := by decide +kernel
theorem dL_push_15 : decode cL_push 15 = .ok (.iconst 1, 1) := by decide +kernel
theorem dL_push_16 : decode cL_push 16 = .ok (.ireturn, 1) := by decide +kernel
theorem dL_push_17 : decode cL_push 17 = .ok (.iconst 0, 1) := by decide +kernel
theorem dL_push_18 : decode cL_push 18 = .ok (.ireturn, 1) := by decide +kernel
theorem lk_L_80 : Cond.methodLink RL 80 yX6_push ∈ kg := kg_in 1255 (by decide +kernel) (by decide +kernel)
def hL_push : List (Nat × Nat × Nat × Nat) := [(0, 10, 13, 27)]
abbrev mL_push : KM := (RL, cL_push, 5, (some .int), { frames := 8, cells := 2, slots := 12, locals := 180 }, 2, 12)
set_option maxRecDepth 100000 in
theorem tL_push (l : Launch) (hst : l.stackTraces = false) (a1 a2 : Int32) (σ : Sto) (tag : Nat) (v : Int32) (σ1 : Sto) (h : fX6_push a1 a2 σ = some (tag, v, σ1)) (ht : tag = 0 ∨ tag = 3) : CTW hL_push l mL_push yL_push [.ref 0, .int a1, .int a2, .ref 154] σ (0, .int (kti [3] tag), if tag = 0 then su σ1 154 0 v else σ1) := by
  refine kctw [(0, .ref 0), (1, .int a1), (2, .int a2), (3, .ref 154)] hst (by decide +kernel) rfl rfl (Nat.le_of_ble_eq_true rfl) ?_
  refine wv_aload_n (pc := 0) 3 dL_push_0 rfl rfl ?_
  refine wv_iconst (pc := 1) (v := 0) dL_push_1 (by decide) ?_
  refine wv_aload_n (pc := 2) 0 dL_push_2 rfl rfl ?_
  refine wv_iload_n (pc := 3) 1 dL_push_3 rfl rfl ?_
  refine wv_iload_n (pc := 4) 2 dL_push_4 rfl rfl ?_
  refine wv_call (pc := 5) (o1 := (tag, .int v, σ1)) (M' := mX6_push) (y := yX6_push) (ix := 80) [.int a1, .int a2] (tX6_push l hst a1 a2 σ (tag, v, σ1) h) dL_push_5 rfl yw_X6_push lk_L_80 (by decide) (by decide) (by decide) (fun h0 => ?_) (fun h0 => ?_)
  · rcases ht with ht | ht
    · exact absurd ht h0
    · subst ht
      refine ⟨show 3 ≤ 3 by decide, [], ⟨0, 10, 13, 27⟩, [], rfl, by decide, by decide, xc_3, (fun z hz => by cases hz), 4, 2, .inl ⟨dL_push_13, rfl⟩, by decide, ?_⟩
      refine wv_iconst (pc := 15) (v := 1) dL_push_15 (by decide) ?_
      exact wv_iret (pc := 16) dL_push_16 rfl rfl (by decide) (by decide)
  · have h0' : tag = 0 := h0
    subst h0'
    refine wv_i2l (pc := 8) dL_push_8 ?_
    refine wv_last (pc := 9) dL_push_9 ?_
    refine wv_goto (pc := 10) (tgt := 17) dL_push_10 (by decide) ?_
    refine wv_iconst (pc := 17) (v := 0) dL_push_17 (by decide) ?_
    exact wv_iret (pc := 18) dL_push_18 rfl rfl (by decide) (by decide)
theorem yw_X6_paint : KMV yX6_paint mX6_paint RX6 2 := ⟨⟨rfl, by decide +kernel, by decide +kernel, by decide +kernel⟩, ⟨rfl, rfl⟩, kg_in 1265 (by decide +kernel) (by decide +kernel), kg_in 1266 (by decide +kernel) (by decide +kernel), kg_in 121 (by decide +kernel) (by decide +kernel), kg_in 1267 (by decide +kernel) (by decide +kernel)⟩
theorem dL_paint_0 : decode cL_paint 0 = .ok (.aload_n 3, 1) := by decide +kernel
theorem dL_paint_1 : decode cL_paint 1 = .ok (.iconst 0, 1) := by decide +kernel
theorem dL_paint_2 : decode cL_paint 2 = .ok (.aload_n 0, 1) := by decide +kernel
theorem dL_paint_3 : decode cL_paint 3 = .ok (.iload_n 1, 1) := by decide +kernel
theorem dL_paint_4 : decode cL_paint 4 = .ok (.iload_n 2, 1) := by decide +kernel
theorem dL_paint_5 : decode cL_paint 5 = .ok (.invokevirtual 83, 3) := by decide +kernel
theorem dL_paint_8 : decode cL_paint 8 = .ok (.i2l, 1) := by decide +kernel
theorem dL_paint_9 : decode cL_paint 9 = .ok (.lastore, 1) := by decide +kernel
theorem dL_paint_10 : decode cL_paint 10 = .ok (.goto 11, 3) := by decide +kernel
theorem dL_paint_13 : decode cL_paint 13 = .ok (.astore 4, 2) := by decide +kernel
theorem dL_paint_15 : decode cL_paint 15 = .ok (.iconst 1, 1) := by decide +kernel
theorem dL_paint_16 : decode cL_paint 16 = .ok (.ireturn, 1) := by decide +kernel
theorem dL_paint_17 : decode cL_paint 17 = .ok (.astore 4, 2) := by decide +kernel
theorem dL_paint_19 : decode cL_paint 19 = .ok (.iconst 2, 1) := by decide +kernel
theorem dL_paint_20 : decode cL_paint 20 = .ok (.ireturn, 1) := by decide +kernel
theorem dL_paint_21 : decode cL_paint 21 = .ok (.iconst 0, 1) := by decide +kernel
theorem dL_paint_22 : decode cL_paint 22 = .ok (.ireturn, 1) := by decide +kernel
theorem lk_L_83 : Cond.methodLink RL 83 yX6_paint ∈ kg := kg_in 1264 (by decide +kernel) (by decide +kernel)
def hL_paint : List (Nat × Nat × Nat × Nat) := [(0, 10, 13, 27), (0, 10, 17, 18)]
abbrev mL_paint : KM := (RL, cL_paint, 5, (some .int), { frames := 8, cells := 2, slots := 12, locals := 158 }, 2, 12)
set_option maxRecDepth 100000 in
theorem tL_paint (l : Launch) (hst : l.stackTraces = false) (a1 a2 : Int32) (σ : Sto) (tag : Nat) (v : Int32) (σ1 : Sto) (h : fX6_paint a1 a2 σ = some (tag, v, σ1)) (ht : tag = 0 ∨ tag = 3 ∨ tag = 1) : CTW hL_paint l mL_paint yL_paint [.ref 0, .int a1, .int a2, .ref 154] σ (0, .int (kti [3, 1] tag), if tag = 0 then su σ1 154 0 v else σ1) := by
  refine kctw [(0, .ref 0), (1, .int a1), (2, .int a2), (3, .ref 154)] hst (by decide +kernel) rfl rfl (Nat.le_of_ble_eq_true rfl) ?_
  refine wv_aload_n (pc := 0) 3 dL_paint_0 rfl rfl ?_
  refine wv_iconst (pc := 1) (v := 0) dL_paint_1 (by decide) ?_
  refine wv_aload_n (pc := 2) 0 dL_paint_2 rfl rfl ?_
  refine wv_iload_n (pc := 3) 1 dL_paint_3 rfl rfl ?_
  refine wv_iload_n (pc := 4) 2 dL_paint_4 rfl rfl ?_
  refine wv_call (pc := 5) (o1 := (tag, .int v, σ1)) (M' := mX6_paint) (y := yX6_paint) (ix := 83) [.int a1, .int a2] (tX6_paint l hst a1 a2 σ (tag, v, σ1) h) dL_paint_5 rfl yw_X6_paint lk_L_83 (by decide) (by decide) (by decide) (fun h0 => ?_) (fun h0 => ?_)
  · rcases ht with ht | ht | ht
    · exact absurd ht h0
    · subst ht
      refine ⟨show 3 ≤ 3 by decide, [], ⟨0, 10, 13, 27⟩, [⟨0, 10, 17, 18⟩], rfl, by decide, by decide, xc_3, (fun z hz => by cases hz), 4, 2, .inl ⟨dL_paint_13, rfl⟩, by decide, ?_⟩
      refine wv_iconst (pc := 15) (v := 1) dL_paint_15 (by decide) ?_
      exact wv_iret (pc := 16) dL_paint_16 rfl rfl (by decide) (by decide)
    · subst ht
      refine ⟨show 1 ≤ 3 by decide, [⟨0, 10, 13, 27⟩], ⟨0, 10, 17, 18⟩, [], rfl, by decide, by decide, xc_1, (fun z hz => by
        rcases List.mem_cons.mp hz with hz | hz
        · subst hz; exact ⟨by decide, 3, by decide, by decide, show 1 ≠ 3 by decide, xc_3⟩
        · cases hz), 4, 2, .inl ⟨dL_paint_17, rfl⟩, by decide, ?_⟩
      refine wv_iconst (pc := 19) (v := 2) dL_paint_19 (by decide) ?_
      exact wv_iret (pc := 20) dL_paint_20 rfl rfl (by decide) (by decide)
  · have h0' : tag = 0 := h0
    subst h0'
    refine wv_i2l (pc := 8) dL_paint_8 ?_
    refine wv_last (pc := 9) dL_paint_9 ?_
    refine wv_goto (pc := 10) (tgt := 21) dL_paint_10 (by decide) ?_
    refine wv_iconst (pc := 21) (v := 0) dL_paint_21 (by decide) ?_
    exact wv_iret (pc := 22) dL_paint_22 rfl rfl (by decide) (by decide)
theorem yw_X6_turn : KMV yX6_turn mX6_turn RX6 1 := ⟨⟨rfl, by decide +kernel, by decide +kernel, by decide +kernel⟩, ⟨rfl, rfl⟩, kg_in 1276 (by decide +kernel) (by decide +kernel), kg_in 1277 (by decide +kernel) (by decide +kernel), kg_in 121 (by decide +kernel) (by decide +kernel), kg_in 1278 (by decide +kernel) (by decide +kernel)⟩
theorem dL_turn_0 : decode cL_turn 0 = .ok (.aload_n 2, 1) := by decide +kernel
theorem dL_turn_1 : decode cL_turn 1 = .ok (.iconst 0, 1) := by decide +kernel
theorem dL_turn_2 : decode cL_turn 2 = .ok (.aload_n 0, 1) := by decide +kernel
theorem dL_turn_3 : decode cL_turn 3 = .ok (.iload_n 1, 1) := by decide +kernel
theorem dL_turn_4 : decode cL_turn 4 = .ok (.invokevirtual 86, 3) := by decide +kernel
theorem dL_turn_7 : decode cL_turn 7 = .ok (.i2l, 1) := by decide +kernel
theorem dL_turn_8 : decode cL_turn 8 = .ok (.lastore, 1) := by decide +kernel
theorem dL_turn_9 : decode cL_turn 9 = .ok (.goto 6, 3) := by decide +kernel
theorem dL_turn_12 : decode cL_turn 12 = .ok (.astore_n 3, 1) := by decide +kernel
theorem dL_turn_13 : decode cL_turn 13 = .ok (.iconst 1, 1) := by decide +kernel
theorem dL_turn_14 : decode cL_turn 14 = .ok (.ireturn, 1) := by decide +kernel
theorem dL_turn_15 : decode cL_turn 15 = .ok (.iconst 0, 1) := by decide +kernel
theorem dL_turn_16 : decode cL_turn 16 = .ok (.ireturn, 1) := by decide +kernel
theorem lk_L_86 : Cond.methodLink RL 86 yX6_turn ∈ kg := kg_in 1275 (by decide +kernel) (by decide +kernel)
def hL_turn : List (Nat × Nat × Nat × Nat) := [(0, 9, 12, 18)]
abbrev mL_turn : KM := (RL, cL_turn, 4, (some .int), { frames := 8, cells := 1, slots := 6, locals := 147 }, 1, 6)
set_option maxRecDepth 100000 in
theorem tL_turn (l : Launch) (hst : l.stackTraces = false) (a1 : Int32) (σ : Sto) (tag : Nat) (v : Int32) (σ1 : Sto) (h : fX6_turn a1 σ = some (tag, v, σ1)) (ht : tag = 0 ∨ tag = 1) : CTW hL_turn l mL_turn yL_turn [.ref 0, .int a1, .ref 154] σ (0, .int (kti [1] tag), if tag = 0 then su σ1 154 0 v else σ1) := by
  refine kctw [(0, .ref 0), (1, .int a1), (2, .ref 154)] hst (by decide +kernel) rfl rfl (Nat.le_of_ble_eq_true rfl) ?_
  refine wv_aload_n (pc := 0) 2 dL_turn_0 rfl rfl ?_
  refine wv_iconst (pc := 1) (v := 0) dL_turn_1 (by decide) ?_
  refine wv_aload_n (pc := 2) 0 dL_turn_2 rfl rfl ?_
  refine wv_iload_n (pc := 3) 1 dL_turn_3 rfl rfl ?_
  refine wv_call (pc := 4) (o1 := (tag, .int v, σ1)) (M' := mX6_turn) (y := yX6_turn) (ix := 86) [.int a1] (tX6_turn l hst a1 σ (tag, v, σ1) h) dL_turn_4 rfl yw_X6_turn lk_L_86 (by decide) (by decide) (by decide) (fun h0 => ?_) (fun h0 => ?_)
  · rcases ht with ht | ht
    · exact absurd ht h0
    · subst ht
      refine ⟨show 1 ≤ 3 by decide, [], ⟨0, 9, 12, 18⟩, [], rfl, by decide, by decide, xc_1, (fun z hz => by cases hz), 3, 1, .inr ⟨3, dL_turn_12, rfl, rfl⟩, by decide, ?_⟩
      refine wv_iconst (pc := 13) (v := 1) dL_turn_13 (by decide) ?_
      exact wv_iret (pc := 14) dL_turn_14 rfl rfl (by decide) (by decide)
  · have h0' : tag = 0 := h0
    subst h0'
    refine wv_i2l (pc := 7) dL_turn_7 ?_
    refine wv_last (pc := 8) dL_turn_8 ?_
    refine wv_goto (pc := 9) (tgt := 15) dL_turn_9 (by decide) ?_
    refine wv_iconst (pc := 15) (v := 0) dL_turn_15 (by decide) ?_
    exact wv_iret (pc := 16) dL_turn_16 rfl rfl (by decide) (by decide)
theorem yw_X6_cover : KMV yX6_cover mX6_cover RX6 2 := ⟨⟨rfl, by decide +kernel, by decide +kernel, by decide +kernel⟩, ⟨rfl, rfl⟩, kg_in 1288 (by decide +kernel) (by decide +kernel), kg_in 1289 (by decide +kernel) (by decide +kernel), kg_in 121 (by decide +kernel) (by decide +kernel), kg_in 1290 (by decide +kernel) (by decide +kernel)⟩
theorem dL_cover_0 : decode cL_cover 0 = .ok (.aload_n 3, 1) := by decide +kernel
theorem dL_cover_1 : decode cL_cover 1 = .ok (.iconst 0, 1) := by decide +kernel
theorem dL_cover_2 : decode cL_cover 2 = .ok (.aload_n 0, 1) := by decide +kernel
theorem dL_cover_3 : decode cL_cover 3 = .ok (.iload_n 1, 1) := by decide +kernel
theorem dL_cover_4 : decode cL_cover 4 = .ok (.iload_n 2, 1) := by decide +kernel
theorem dL_cover_5 : decode cL_cover 5 = .ok (.invokevirtual 89, 3) := by decide +kernel
theorem dL_cover_8 : decode cL_cover 8 = .ok (.i2l, 1) := by decide +kernel
theorem dL_cover_9 : decode cL_cover 9 = .ok (.lastore, 1) := by decide +kernel
theorem dL_cover_10 : decode cL_cover 10 = .ok (.goto 7, 3) := by decide +kernel
theorem dL_cover_13 : decode cL_cover 13 = .ok (.astore 4, 2) := by decide +kernel
theorem dL_cover_15 : decode cL_cover 15 = .ok (.iconst 1, 1) := by decide +kernel
theorem dL_cover_16 : decode cL_cover 16 = .ok (.ireturn, 1) := by decide +kernel
theorem dL_cover_17 : decode cL_cover 17 = .ok (.iconst 0, 1) := by decide +kernel
theorem dL_cover_18 : decode cL_cover 18 = .ok (.ireturn, 1) := by decide +kernel
theorem lk_L_89 : Cond.methodLink RL 89 yX6_cover ∈ kg := kg_in 1287 (by decide +kernel) (by decide +kernel)
def hL_cover : List (Nat × Nat × Nat × Nat) := [(0, 10, 13, 27)]
abbrev mL_cover : KM := (RL, cL_cover, 5, (some .int), { frames := 7, cells := 1, slots := 6, locals := 157 }, 1, 6)
set_option maxRecDepth 100000 in
theorem tL_cover (l : Launch) (hst : l.stackTraces = false) (a1 a2 : Int32) (σ : Sto) (tag : Nat) (v : Int32) (σ1 : Sto) (h : fX6_cover a1 a2 σ = some (tag, v, σ1)) (ht : tag = 0 ∨ tag = 3) : CTW hL_cover l mL_cover yL_cover [.ref 0, .int a1, .int a2, .ref 154] σ (0, .int (kti [3] tag), if tag = 0 then su σ1 154 0 v else σ1) := by
  refine kctw [(0, .ref 0), (1, .int a1), (2, .int a2), (3, .ref 154)] hst (by decide +kernel) rfl rfl (Nat.le_of_ble_eq_true rfl) ?_
  refine wv_aload_n (pc := 0) 3 dL_cover_0 rfl rfl ?_
  refine wv_iconst (pc := 1) (v := 0) dL_cover_1 (by decide) ?_
  refine wv_aload_n (pc := 2) 0 dL_cover_2 rfl rfl ?_
  refine wv_iload_n (pc := 3) 1 dL_cover_3 rfl rfl ?_
  refine wv_iload_n (pc := 4) 2 dL_cover_4 rfl rfl ?_
  refine wv_call (pc := 5) (o1 := (tag, .int v, σ1)) (M' := mX6_cover) (y := yX6_cover) (ix := 89) [.int a1, .int a2] (tX6_cover l hst a1 a2 σ (tag, v, σ1) h) dL_cover_5 rfl yw_X6_cover lk_L_89 (by decide) (by decide) (by decide) (fun h0 => ?_) (fun h0 => ?_)
  · rcases ht with ht | ht
    · exact absurd ht h0
    · subst ht
      refine ⟨show 3 ≤ 3 by decide, [], ⟨0, 10, 13, 27⟩, [], rfl, by decide, by decide, xc_3, (fun z hz => by cases hz), 4, 2, .inl ⟨dL_cover_13, rfl⟩, by decide, ?_⟩
      refine wv_iconst (pc := 15) (v := 1) dL_cover_15 (by decide) ?_
      exact wv_iret (pc := 16) dL_cover_16 rfl rfl (by decide) (by decide)
  · have h0' : tag = 0 := h0
    subst h0'
    refine wv_i2l (pc := 8) dL_cover_8 ?_
    refine wv_last (pc := 9) dL_cover_9 ?_
    refine wv_goto (pc := 10) (tgt := 17) dL_cover_10 (by decide) ?_
    refine wv_iconst (pc := 17) (v := 0) dL_cover_17 (by decide) ?_
    exact wv_iret (pc := 18) dL_cover_18 rfl rfl (by decide) (by decide)
theorem yw_X6_setKeep : KMV yX6_setKeep mX6_setKeep RX6 1 := ⟨⟨rfl, by decide +kernel, by decide +kernel, by decide +kernel⟩, ⟨rfl, rfl⟩, kg_in 1298 (by decide +kernel) (by decide +kernel), kg_in 1299 (by decide +kernel) (by decide +kernel), kg_in 121 (by decide +kernel) (by decide +kernel), kg_in 1300 (by decide +kernel) (by decide +kernel)⟩
theorem dL_setKeep_0 : decode cL_setKeep 0 = .ok (.aload_n 2, 1) := by decide +kernel
theorem dL_setKeep_1 : decode cL_setKeep 1 = .ok (.iconst 0, 1) := by decide +kernel
theorem dL_setKeep_2 : decode cL_setKeep 2 = .ok (.aload_n 0, 1) := by decide +kernel
theorem dL_setKeep_3 : decode cL_setKeep 3 = .ok (.iload_n 1, 1) := by decide +kernel
theorem dL_setKeep_4 : decode cL_setKeep 4 = .ok (.invokevirtual 93, 3) := by decide +kernel
theorem dL_setKeep_7 : decode cL_setKeep 7 = .ok (.i2l, 1) := by decide +kernel
theorem dL_setKeep_8 : decode cL_setKeep 8 = .ok (.lastore, 1) := by decide +kernel
theorem dL_setKeep_9 : decode cL_setKeep 9 = .ok (.goto 6, 3) := by decide +kernel
theorem dL_setKeep_12 : decode cL_setKeep 12 = .ok (.astore_n 3, 1) := by decide +kernel
theorem dL_setKeep_13 : decode cL_setKeep 13 = .ok (.iconst 1, 1) := by decide +kernel
theorem dL_setKeep_14 : decode cL_setKeep 14 = .ok (.ireturn, 1) := by decide +kernel
theorem dL_setKeep_15 : decode cL_setKeep 15 = .ok (.iconst 0, 1) := by decide +kernel
theorem dL_setKeep_16 : decode cL_setKeep 16 = .ok (.ireturn, 1) := by decide +kernel
theorem lk_L_93 : Cond.methodLink RL 93 yX6_setKeep ∈ kg := kg_in 1297 (by decide +kernel) (by decide +kernel)
def hL_setKeep : List (Nat × Nat × Nat × Nat) := [(0, 9, 12, 18)]
abbrev mL_setKeep : KM := (RL, cL_setKeep, 4, (some .int), { frames := 8, cells := 1, slots := 6, locals := 148 }, 1, 6)
set_option maxRecDepth 100000 in
theorem tL_setKeep (l : Launch) (hst : l.stackTraces = false) (a1 : Int32) (σ : Sto) (tag : Nat) (v : Int32) (σ1 : Sto) (h : fX6_setKeep a1 σ = some (tag, v, σ1)) (ht : tag = 0 ∨ tag = 1) : CTW hL_setKeep l mL_setKeep yL_setKeep [.ref 0, .int a1, .ref 154] σ (0, .int (kti [1] tag), if tag = 0 then su σ1 154 0 v else σ1) := by
  refine kctw [(0, .ref 0), (1, .int a1), (2, .ref 154)] hst (by decide +kernel) rfl rfl (Nat.le_of_ble_eq_true rfl) ?_
  refine wv_aload_n (pc := 0) 2 dL_setKeep_0 rfl rfl ?_
  refine wv_iconst (pc := 1) (v := 0) dL_setKeep_1 (by decide) ?_
  refine wv_aload_n (pc := 2) 0 dL_setKeep_2 rfl rfl ?_
  refine wv_iload_n (pc := 3) 1 dL_setKeep_3 rfl rfl ?_
  refine wv_call (pc := 4) (o1 := (tag, .int v, σ1)) (M' := mX6_setKeep) (y := yX6_setKeep) (ix := 93) [.int a1] (tX6_setKeep l hst a1 σ (tag, v, σ1) h) dL_setKeep_4 rfl yw_X6_setKeep lk_L_93 (by decide) (by decide) (by decide) (fun h0 => ?_) (fun h0 => ?_)
  · rcases ht with ht | ht
    · exact absurd ht h0
    · subst ht
      refine ⟨show 1 ≤ 3 by decide, [], ⟨0, 9, 12, 18⟩, [], rfl, by decide, by decide, xc_1, (fun z hz => by cases hz), 3, 1, .inr ⟨3, dL_setKeep_12, rfl, rfl⟩, by decide, ?_⟩
      refine wv_iconst (pc := 13) (v := 1) dL_setKeep_13 (by decide) ?_
      exact wv_iret (pc := 14) dL_setKeep_14 rfl rfl (by decide) (by decide)
  · have h0' : tag = 0 := h0
    subst h0'
    refine wv_i2l (pc := 7) dL_setKeep_7 ?_
    refine wv_last (pc := 8) dL_setKeep_8 ?_
    refine wv_goto (pc := 9) (tgt := 15) dL_setKeep_9 (by decide) ?_
    refine wv_iconst (pc := 15) (v := 0) dL_setKeep_15 (by decide) ?_
    exact wv_iret (pc := 16) dL_setKeep_16 rfl rfl (by decide) (by decide)
theorem yw_X6_restsAt : KMV yX6_restsAt mX6_restsAt RX6 2 := ⟨⟨rfl, by decide +kernel, by decide +kernel, by decide +kernel⟩, ⟨rfl, rfl⟩, kg_in 1305 (by decide +kernel) (by decide +kernel), kg_in 1306 (by decide +kernel) (by decide +kernel), kg_in 121 (by decide +kernel) (by decide +kernel), kg_in 1307 (by decide +kernel) (by decide +kernel)⟩
theorem dL_restsAt_0 : decode cL_restsAt 0 = .ok (.aload_n 3, 1) := by decide +kernel
theorem dL_restsAt_1 : decode cL_restsAt 1 = .ok (.iconst 0, 1) := by decide +kernel
theorem dL_restsAt_2 : decode cL_restsAt 2 = .ok (.aload_n 0, 1) := by decide +kernel
theorem dL_restsAt_3 : decode cL_restsAt 3 = .ok (.iload_n 1, 1) := by decide +kernel
theorem dL_restsAt_4 : decode cL_restsAt 4 = .ok (.iload_n 2, 1) := by decide +kernel
theorem dL_restsAt_5 : decode cL_restsAt 5 = .ok (.invokevirtual 96, 3) := by decide +kernel
theorem dL_restsAt_8 : decode cL_restsAt 8 = .ok (.i2l, 1) := by decide +kernel
theorem dL_restsAt_9 : decode cL_restsAt 9 = .ok (.lastore, 1) := by decide +kernel
theorem dL_restsAt_10 : decode cL_restsAt 10 = .ok (.goto 11, 3) := by decide +kernel
theorem dL_restsAt_13 : decode cL_restsAt 13 = .ok (.astore 4, 2) := by decide +kernel
theorem dL_restsAt_15 : decode cL_restsAt 15 = .ok (.iconst 1, 1) := by decide +kernel
theorem dL_restsAt_16 : decode cL_restsAt 16 = .ok (.ireturn, 1) := by decide +kernel
theorem dL_restsAt_17 : decode cL_restsAt 17 = .ok (.astore 4, 2) := by decide +kernel
theorem dL_restsAt_19 : decode cL_restsAt 19 = .ok (.iconst 2, 1) := by decide +kernel
theorem dL_restsAt_20 : decode cL_restsAt 20 = .ok (.ireturn, 1) := by decide +kernel
theorem dL_restsAt_21 : decode cL_restsAt 21 = .ok (.iconst 0, 1) := by decide +kernel
theorem dL_restsAt_22 : decode cL_restsAt 22 = .ok (.ireturn, 1) := by decide +kernel
theorem lk_L_96 : Cond.methodLink RL 96 yX6_restsAt ∈ kg := kg_in 1304 (by decide +kernel) (by decide +kernel)
def hL_restsAt : List (Nat × Nat × Nat × Nat) := [(0, 10, 13, 27), (0, 10, 17, 13)]
abbrev mL_restsAt : KM := (RL, cL_restsAt, 5, (some .int), { frames := 8, cells := 2, slots := 12, locals := 180 }, 2, 12)
set_option maxRecDepth 100000 in
theorem tL_restsAt (l : Launch) (hst : l.stackTraces = false) (a1 a2 : Int32) (σ : Sto) (tag : Nat) (v : Int32) (σ1 : Sto) (h : fX6_restsAt a1 a2 σ = some (tag, v, σ1)) (ht : tag = 0 ∨ tag = 3 ∨ tag = 2) : CTW hL_restsAt l mL_restsAt yL_restsAt [.ref 0, .int a1, .int a2, .ref 154] σ (0, .int (kti [3, 2] tag), if tag = 0 then su σ1 154 0 v else σ1) := by
  refine kctw [(0, .ref 0), (1, .int a1), (2, .int a2), (3, .ref 154)] hst (by decide +kernel) rfl rfl (Nat.le_of_ble_eq_true rfl) ?_
  refine wv_aload_n (pc := 0) 3 dL_restsAt_0 rfl rfl ?_
  refine wv_iconst (pc := 1) (v := 0) dL_restsAt_1 (by decide) ?_
  refine wv_aload_n (pc := 2) 0 dL_restsAt_2 rfl rfl ?_
  refine wv_iload_n (pc := 3) 1 dL_restsAt_3 rfl rfl ?_
  refine wv_iload_n (pc := 4) 2 dL_restsAt_4 rfl rfl ?_
  refine wv_call (pc := 5) (o1 := (tag, .int v, σ1)) (M' := mX6_restsAt) (y := yX6_restsAt) (ix := 96) [.int a1, .int a2] (tX6_restsAt l hst a1 a2 σ (tag, v, σ1) h) dL_restsAt_5 rfl yw_X6_restsAt lk_L_96 (by decide) (by decide) (by decide) (fun h0 => ?_) (fun h0 => ?_)
  · rcases ht with ht | ht | ht
    · exact absurd ht h0
    · subst ht
      refine ⟨show 3 ≤ 3 by decide, [], ⟨0, 10, 13, 27⟩, [⟨0, 10, 17, 13⟩], rfl, by decide, by decide, xc_3, (fun z hz => by cases hz), 4, 2, .inl ⟨dL_restsAt_13, rfl⟩, by decide, ?_⟩
      refine wv_iconst (pc := 15) (v := 1) dL_restsAt_15 (by decide) ?_
      exact wv_iret (pc := 16) dL_restsAt_16 rfl rfl (by decide) (by decide)
    · subst ht
      refine ⟨show 2 ≤ 3 by decide, [⟨0, 10, 13, 27⟩], ⟨0, 10, 17, 13⟩, [], rfl, by decide, by decide, xc_2, (fun z hz => by
        rcases List.mem_cons.mp hz with hz | hz
        · subst hz; exact ⟨by decide, 3, by decide, by decide, show 2 ≠ 3 by decide, xc_3⟩
        · cases hz), 4, 2, .inl ⟨dL_restsAt_17, rfl⟩, by decide, ?_⟩
      refine wv_iconst (pc := 19) (v := 2) dL_restsAt_19 (by decide) ?_
      exact wv_iret (pc := 20) dL_restsAt_20 rfl rfl (by decide) (by decide)
  · have h0' : tag = 0 := h0
    subst h0'
    refine wv_i2l (pc := 8) dL_restsAt_8 ?_
    refine wv_last (pc := 9) dL_restsAt_9 ?_
    refine wv_goto (pc := 10) (tgt := 21) dL_restsAt_10 (by decide) ?_
    refine wv_iconst (pc := 21) (v := 0) dL_restsAt_21 (by decide) ?_
    exact wv_iret (pc := 22) dL_restsAt_22 rfl rfl (by decide) (by decide)
theorem yw_X6_settled : KMV yX6_settled mX6_settled RX6 2 := ⟨⟨rfl, by decide +kernel, by decide +kernel, by decide +kernel⟩, ⟨rfl, rfl⟩, kg_in 1312 (by decide +kernel) (by decide +kernel), kg_in 1313 (by decide +kernel) (by decide +kernel), kg_in 121 (by decide +kernel) (by decide +kernel), kg_in 1314 (by decide +kernel) (by decide +kernel)⟩
theorem dL_settled_0 : decode cL_settled 0 = .ok (.aload_n 3, 1) := by decide +kernel
theorem dL_settled_1 : decode cL_settled 1 = .ok (.iconst 0, 1) := by decide +kernel
theorem dL_settled_2 : decode cL_settled 2 = .ok (.aload_n 0, 1) := by decide +kernel
theorem dL_settled_3 : decode cL_settled 3 = .ok (.iload_n 1, 1) := by decide +kernel
theorem dL_settled_4 : decode cL_settled 4 = .ok (.iload_n 2, 1) := by decide +kernel
theorem dL_settled_5 : decode cL_settled 5 = .ok (.invokevirtual 99, 3) := by decide +kernel
theorem dL_settled_8 : decode cL_settled 8 = .ok (.i2l, 1) := by decide +kernel
theorem dL_settled_9 : decode cL_settled 9 = .ok (.lastore, 1) := by decide +kernel
theorem dL_settled_10 : decode cL_settled 10 = .ok (.goto 7, 3) := by decide +kernel
theorem dL_settled_13 : decode cL_settled 13 = .ok (.astore 4, 2) := by decide +kernel
theorem dL_settled_15 : decode cL_settled 15 = .ok (.iconst 1, 1) := by decide +kernel
theorem dL_settled_16 : decode cL_settled 16 = .ok (.ireturn, 1) := by decide +kernel
theorem dL_settled_17 : decode cL_settled 17 = .ok (.iconst 0, 1) := by decide +kernel
theorem dL_settled_18 : decode cL_settled 18 = .ok (.ireturn, 1) := by decide +kernel
theorem lk_L_99 : Cond.methodLink RL 99 yX6_settled ∈ kg := kg_in 1311 (by decide +kernel) (by decide +kernel)
def hL_settled : List (Nat × Nat × Nat × Nat) := [(0, 10, 13, 18)]
abbrev mL_settled : KM := (RL, cL_settled, 5, (some .int), { frames := 8, cells := 2, slots := 12, locals := 181 }, 2, 12)
set_option maxRecDepth 100000 in
theorem tL_settled (l : Launch) (hst : l.stackTraces = false) (a1 a2 : Int32) (σ : Sto) (tag : Nat) (v : Int32) (σ1 : Sto) (h : fX6_settled a1 a2 σ = some (tag, v, σ1)) (ht : tag = 0 ∨ tag = 1) : CTW hL_settled l mL_settled yL_settled [.ref 0, .int a1, .int a2, .ref 154] σ (0, .int (kti [1] tag), if tag = 0 then su σ1 154 0 v else σ1) := by
  refine kctw [(0, .ref 0), (1, .int a1), (2, .int a2), (3, .ref 154)] hst (by decide +kernel) rfl rfl (Nat.le_of_ble_eq_true rfl) ?_
  refine wv_aload_n (pc := 0) 3 dL_settled_0 rfl rfl ?_
  refine wv_iconst (pc := 1) (v := 0) dL_settled_1 (by decide) ?_
  refine wv_aload_n (pc := 2) 0 dL_settled_2 rfl rfl ?_
  refine wv_iload_n (pc := 3) 1 dL_settled_3 rfl rfl ?_
  refine wv_iload_n (pc := 4) 2 dL_settled_4 rfl rfl ?_
  refine wv_call (pc := 5) (o1 := (tag, .int v, σ1)) (M' := mX6_settled) (y := yX6_settled) (ix := 99) [.int a1, .int a2] (tX6_settled l hst a1 a2 σ (tag, v, σ1) h) dL_settled_5 rfl yw_X6_settled lk_L_99 (by decide) (by decide) (by decide) (fun h0 => ?_) (fun h0 => ?_)
  · rcases ht with ht | ht
    · exact absurd ht h0
    · subst ht
      refine ⟨show 1 ≤ 3 by decide, [], ⟨0, 10, 13, 18⟩, [], rfl, by decide, by decide, xc_1, (fun z hz => by cases hz), 4, 2, .inl ⟨dL_settled_13, rfl⟩, by decide, ?_⟩
      refine wv_iconst (pc := 15) (v := 1) dL_settled_15 (by decide) ?_
      exact wv_iret (pc := 16) dL_settled_16 rfl rfl (by decide) (by decide)
  · have h0' : tag = 0 := h0
    subst h0'
    refine wv_i2l (pc := 8) dL_settled_8 ?_
    refine wv_last (pc := 9) dL_settled_9 ?_
    refine wv_goto (pc := 10) (tgt := 17) dL_settled_10 (by decide) ?_
    refine wv_iconst (pc := 17) (v := 0) dL_settled_17 (by decide) ?_
    exact wv_iret (pc := 18) dL_settled_18 rfl rfl (by decide) (by decide)
theorem yw_X6_bestTurn : KMV yX6_bestTurn mX6_bestTurn RX6 1 := ⟨⟨rfl, by decide +kernel, by decide +kernel, by decide +kernel⟩, ⟨rfl, rfl⟩, kg_in 1324 (by decide +kernel) (by decide +kernel), kg_in 1325 (by decide +kernel) (by decide +kernel), kg_in 121 (by decide +kernel) (by decide +kernel), kg_in 1326 (by decide +kernel) (by decide +kernel)⟩
theorem dL_bestTurn_0 : decode cL_bestTurn 0 = .ok (.aload_n 2, 1) := by decide +kernel
theorem dL_bestTurn_1 : decode cL_bestTurn 1 = .ok (.iconst 0, 1) := by decide +kernel
theorem dL_bestTurn_2 : decode cL_bestTurn 2 = .ok (.aload_n 0, 1) := by decide +kernel
theorem dL_bestTurn_3 : decode cL_bestTurn 3 = .ok (.iload_n 1, 1) := by decide +kernel
theorem dL_bestTurn_4 : decode cL_bestTurn 4 = .ok (.invokevirtual 102, 3) := by decide +kernel
theorem dL_bestTurn_7 : decode cL_bestTurn 7 = .ok (.i2l, 1) := by decide +kernel
theorem dL_bestTurn_8 : decode cL_bestTurn 8 = .ok (.lastore, 1) := by decide +kernel
theorem dL_bestTurn_9 : decode cL_bestTurn 9 = .ok (.goto 6, 3) := by decide +kernel
theorem dL_bestTurn_12 : decode cL_bestTurn 12 = .ok (.astore_n 3, 1) := by decide +kernel
theorem dL_bestTurn_13 : decode cL_bestTurn 13 = .ok (.iconst 1, 1) := by decide +kernel
theorem dL_bestTurn_14 : decode cL_bestTurn 14 = .ok (.ireturn, 1) := by decide +kernel
theorem dL_bestTurn_15 : decode cL_bestTurn 15 = .ok (.iconst 0, 1) := by decide +kernel
theorem dL_bestTurn_16 : decode cL_bestTurn 16 = .ok (.ireturn, 1) := by decide +kernel
theorem lk_L_102 : Cond.methodLink RL 102 yX6_bestTurn ∈ kg := kg_in 1323 (by decide +kernel) (by decide +kernel)
def hL_bestTurn : List (Nat × Nat × Nat × Nat) := [(0, 9, 12, 18)]
abbrev mL_bestTurn : KM := (RL, cL_bestTurn, 4, (some .int), { frames := 8, cells := 1, slots := 6, locals := 183 }, 1, 6)
set_option maxRecDepth 100000 in
theorem tL_bestTurn (l : Launch) (hst : l.stackTraces = false) (a1 : Int32) (σ : Sto) (tag : Nat) (v : Int32) (σ1 : Sto) (h : fX6_bestTurn a1 σ = some (tag, v, σ1)) (ht : tag = 0 ∨ tag = 1) : CTW hL_bestTurn l mL_bestTurn yL_bestTurn [.ref 0, .int a1, .ref 154] σ (0, .int (kti [1] tag), if tag = 0 then su σ1 154 0 v else σ1) := by
  refine kctw [(0, .ref 0), (1, .int a1), (2, .ref 154)] hst (by decide +kernel) rfl rfl (Nat.le_of_ble_eq_true rfl) ?_
  refine wv_aload_n (pc := 0) 2 dL_bestTurn_0 rfl rfl ?_
  refine wv_iconst (pc := 1) (v := 0) dL_bestTurn_1 (by decide) ?_
  refine wv_aload_n (pc := 2) 0 dL_bestTurn_2 rfl rfl ?_
  refine wv_iload_n (pc := 3) 1 dL_bestTurn_3 rfl rfl ?_
  refine wv_call (pc := 4) (o1 := (tag, .int v, σ1)) (M' := mX6_bestTurn) (y := yX6_bestTurn) (ix := 102) [.int a1] (tX6_bestTurn l hst a1 σ (tag, v, σ1) h) dL_bestTurn_4 rfl yw_X6_bestTurn lk_L_102 (by decide) (by decide) (by decide) (fun h0 => ?_) (fun h0 => ?_)
  · rcases ht with ht | ht
    · exact absurd ht h0
    · subst ht
      refine ⟨show 1 ≤ 3 by decide, [], ⟨0, 9, 12, 18⟩, [], rfl, by decide, by decide, xc_1, (fun z hz => by cases hz), 3, 1, .inr ⟨3, dL_bestTurn_12, rfl, rfl⟩, by decide, ?_⟩
      refine wv_iconst (pc := 13) (v := 1) dL_bestTurn_13 (by decide) ?_
      exact wv_iret (pc := 14) dL_bestTurn_14 rfl rfl (by decide) (by decide)
  · have h0' : tag = 0 := h0
    subst h0'
    refine wv_i2l (pc := 7) dL_bestTurn_7 ?_
    refine wv_last (pc := 8) dL_bestTurn_8 ?_
    refine wv_goto (pc := 9) (tgt := 15) dL_bestTurn_9 (by decide) ?_
    refine wv_iconst (pc := 15) (v := 0) dL_bestTurn_15 (by decide) ?_
    exact wv_iret (pc := 16) dL_bestTurn_16 rfl rfl (by decide) (by decide)
theorem yw_X6_period : KMV yX6_period mX6_period RX6 1 := ⟨⟨rfl, by decide +kernel, by decide +kernel, by decide +kernel⟩, ⟨rfl, rfl⟩, kg_in 1331 (by decide +kernel) (by decide +kernel), kg_in 1332 (by decide +kernel) (by decide +kernel), kg_in 121 (by decide +kernel) (by decide +kernel), kg_in 1333 (by decide +kernel) (by decide +kernel)⟩
theorem dL_period_0 : decode cL_period 0 = .ok (.aload_n 2, 1) := by decide +kernel
theorem dL_period_1 : decode cL_period 1 = .ok (.iconst 0, 1) := by decide +kernel
theorem dL_period_2 : decode cL_period 2 = .ok (.aload_n 0, 1) := by decide +kernel
theorem dL_period_3 : decode cL_period 3 = .ok (.iload_n 1, 1) := by decide +kernel
theorem dL_period_4 : decode cL_period 4 = .ok (.invokevirtual 105, 3) := by decide +kernel
theorem dL_period_7 : decode cL_period 7 = .ok (.i2l, 1) := by decide +kernel
theorem dL_period_8 : decode cL_period 8 = .ok (.lastore, 1) := by decide +kernel
theorem dL_period_9 : decode cL_period 9 = .ok (.goto 6, 3) := by decide +kernel
theorem dL_period_12 : decode cL_period 12 = .ok (.astore_n 3, 1) := by decide +kernel
theorem dL_period_13 : decode cL_period 13 = .ok (.iconst 1, 1) := by decide +kernel
theorem dL_period_14 : decode cL_period 14 = .ok (.ireturn, 1) := by decide +kernel
theorem dL_period_15 : decode cL_period 15 = .ok (.iconst 0, 1) := by decide +kernel
theorem dL_period_16 : decode cL_period 16 = .ok (.ireturn, 1) := by decide +kernel
theorem lk_L_105 : Cond.methodLink RL 105 yX6_period ∈ kg := kg_in 1330 (by decide +kernel) (by decide +kernel)
def hL_period : List (Nat × Nat × Nat × Nat) := [(0, 9, 12, 18)]
abbrev mL_period : KM := (RL, cL_period, 4, (some .int), { frames := 8, cells := 1, slots := 6, locals := 180 }, 1, 6)
set_option maxRecDepth 100000 in
theorem tL_period (l : Launch) (hst : l.stackTraces = false) (a1 : Int32) (σ : Sto) (tag : Nat) (v : Int32) (σ1 : Sto) (h : fX6_period a1 σ = some (tag, v, σ1)) (ht : tag = 0 ∨ tag = 1) : CTW hL_period l mL_period yL_period [.ref 0, .int a1, .ref 154] σ (0, .int (kti [1] tag), if tag = 0 then su σ1 154 0 v else σ1) := by
  refine kctw [(0, .ref 0), (1, .int a1), (2, .ref 154)] hst (by decide +kernel) rfl rfl (Nat.le_of_ble_eq_true rfl) ?_
  refine wv_aload_n (pc := 0) 2 dL_period_0 rfl rfl ?_
  refine wv_iconst (pc := 1) (v := 0) dL_period_1 (by decide) ?_
  refine wv_aload_n (pc := 2) 0 dL_period_2 rfl rfl ?_
  refine wv_iload_n (pc := 3) 1 dL_period_3 rfl rfl ?_
  refine wv_call (pc := 4) (o1 := (tag, .int v, σ1)) (M' := mX6_period) (y := yX6_period) (ix := 105) [.int a1] (tX6_period l hst a1 σ (tag, v, σ1) h) dL_period_4 rfl yw_X6_period lk_L_105 (by decide) (by decide) (by decide) (fun h0 => ?_) (fun h0 => ?_)
  · rcases ht with ht | ht
    · exact absurd ht h0
    · subst ht
      refine ⟨show 1 ≤ 3 by decide, [], ⟨0, 9, 12, 18⟩, [], rfl, by decide, by decide, xc_1, (fun z hz => by cases hz), 3, 1, .inr ⟨3, dL_period_12, rfl, rfl⟩, by decide, ?_⟩
      refine wv_iconst (pc := 13) (v := 1) dL_period_13 (by decide) ?_
      exact wv_iret (pc := 14) dL_period_14 rfl rfl (by decide) (by decide)
  · have h0' : tag = 0 := h0
    subst h0'
    refine wv_i2l (pc := 7) dL_period_7 ?_
    refine wv_last (pc := 8) dL_period_8 ?_
    refine wv_goto (pc := 9) (tgt := 15) dL_period_9 (by decide) ?_
    refine wv_iconst (pc := 15) (v := 0) dL_period_15 (by decide) ?_
    exact wv_iret (pc := 16) dL_period_16 rfl rfl (by decide) (by decide)
theorem yw_X6_save : KMV yX6_save mX6_save RX6 1 := ⟨⟨rfl, by decide +kernel, by decide +kernel, by decide +kernel⟩, ⟨rfl, rfl⟩, kg_in 1342 (by decide +kernel) (by decide +kernel), kg_in 1343 (by decide +kernel) (by decide +kernel), kg_in 121 (by decide +kernel) (by decide +kernel), kg_in 1344 (by decide +kernel) (by decide +kernel)⟩
theorem dL_save_0 : decode cL_save 0 = .ok (.aload_n 0, 1) := by decide +kernel
theorem dL_save_1 : decode cL_save 1 = .ok (.iload_n 1, 1) := by decide +kernel
theorem dL_save_2 : decode cL_save 2 = .ok (.invokevirtual 108, 3) := by decide +kernel
theorem dL_save_5 : decode cL_save 5 = .ok (.goto 6, 3) := by decide +kernel
theorem dL_save_8 : decode cL_save 8 = .ok (.astore_n 2, 1) := by decide +kernel
theorem dL_save_9 : decode cL_save 9 = .ok (.iconst 1, 1) := by decide +kernel
theorem dL_save_10 : decode cL_save 10 = .ok (.ireturn, 1) := by decide +kernel
theorem dL_save_11 : decode cL_save 11 = .ok (.iconst 0, 1) := by decide +kernel
theorem dL_save_12 : decode cL_save 12 = .ok (.ireturn, 1) := by decide +kernel
theorem lk_L_108 : Cond.methodLink RL 108 yX6_save ∈ kg := kg_in 1341 (by decide +kernel) (by decide +kernel)
def hL_save : List (Nat × Nat × Nat × Nat) := [(0, 5, 8, 18)]
abbrev mL_save : KM := (RL, cL_save, 3, (some .int), { frames := 8, cells := 1, slots := 6, locals := 132 }, 1, 6)
set_option maxRecDepth 100000 in
theorem tL_save (l : Launch) (hst : l.stackTraces = false) (a1 : Int32) (σ : Sto) (tag : Nat) (v : Int32) (σ1 : Sto) (h : fX6_save a1 σ = some (tag, v, σ1)) (ht : tag = 0 ∨ tag = 1) : CTW hL_save l mL_save yL_save [.ref 0, .int a1] σ (0, .int (kti [1] tag), σ1) := by
  refine kctw [(0, .ref 0), (1, .int a1)] hst (by decide +kernel) rfl rfl (Nat.le_of_ble_eq_true rfl) ?_
  refine wv_aload_n (pc := 0) 0 dL_save_0 rfl rfl ?_
  refine wv_iload_n (pc := 1) 1 dL_save_1 rfl rfl ?_
  refine wv_call (pc := 2) (o1 := (tag, .int v, σ1)) (M' := mX6_save) (y := yX6_save) (ix := 108) [.int a1] (tX6_save l hst a1 σ (tag, v, σ1) h) dL_save_2 rfl yw_X6_save lk_L_108 (by decide) (by decide) (by decide) (fun h0 => ?_) (fun h0 => ?_)
  · rcases ht with ht | ht
    · exact absurd ht h0
    · subst ht
      refine ⟨show 1 ≤ 3 by decide, [], ⟨0, 5, 8, 18⟩, [], rfl, by decide, by decide, xc_1, (fun z hz => by cases hz), 2, 1, .inr ⟨2, dL_save_8, rfl, rfl⟩, by decide, ?_⟩
      refine wv_iconst (pc := 9) (v := 1) dL_save_9 (by decide) ?_
      exact wv_iret (pc := 10) dL_save_10 rfl rfl (by decide) (by decide)
  · have h0' : tag = 0 := h0
    subst h0'
    refine wv_goto (pc := 5) (tgt := 11) dL_save_5 (by decide) ?_
    refine wv_iconst (pc := 11) (v := 0) dL_save_11 (by decide) ?_
    exact wv_iret (pc := 12) dL_save_12 rfl rfl (by decide) (by decide)
theorem yw_X6_restore : KMV yX6_restore mX6_restore RX6 1 := ⟨⟨rfl, by decide +kernel, by decide +kernel, by decide +kernel⟩, ⟨rfl, rfl⟩, kg_in 1349 (by decide +kernel) (by decide +kernel), kg_in 1350 (by decide +kernel) (by decide +kernel), kg_in 121 (by decide +kernel) (by decide +kernel), kg_in 1351 (by decide +kernel) (by decide +kernel)⟩
theorem dL_restore_0 : decode cL_restore 0 = .ok (.aload_n 0, 1) := by decide +kernel
theorem dL_restore_1 : decode cL_restore 1 = .ok (.iload_n 1, 1) := by decide +kernel
theorem dL_restore_2 : decode cL_restore 2 = .ok (.invokevirtual 112, 3) := by decide +kernel
theorem dL_restore_5 : decode cL_restore 5 = .ok (.goto 9, 3) := by decide +kernel
theorem dL_restore_8 : decode cL_restore 8 = .ok (.astore_n 2, 1) := by decide +kernel
theorem dL_restore_9 : decode cL_restore 9 = .ok (.iconst 1, 1) := by decide +kernel
theorem dL_restore_10 : decode cL_restore 10 = .ok (.ireturn, 1) := by decide +kernel
theorem dL_restore_11 : decode cL_restore 11 = .ok (.astore_n 2, 1) := by decide +kernel
theorem dL_restore_12 : decode cL_restore 12 = .ok (.iconst 2, 1) := by decide +kernel
theorem dL_restore_13 : decode cL_restore 13 = .ok (.ireturn, 1) := by decide +kernel
theorem dL_restore_14 : decode cL_restore 14 = .ok (.iconst 0, 1) := by decide +kernel
theorem dL_restore_15 : decode cL_restore 15 = .ok (.ireturn, 1) := by decide +kernel
theorem lk_L_112 : Cond.methodLink RL 112 yX6_restore ∈ kg := kg_in 1348 (by decide +kernel) (by decide +kernel)
def hL_restore : List (Nat × Nat × Nat × Nat) := [(0, 5, 8, 18), (0, 5, 11, 13)]
abbrev mL_restore : KM := (RL, cL_restore, 3, (some .int), { frames := 9, cells := 2, slots := 12, locals := 153 }, 2, 12)
set_option maxRecDepth 100000 in
theorem tL_restore (l : Launch) (hst : l.stackTraces = false) (a1 : Int32) (σ : Sto) (tag : Nat) (v : Int32) (σ1 : Sto) (h : fX6_restore a1 σ = some (tag, v, σ1)) (ht : tag = 0 ∨ tag = 1 ∨ tag = 2) : CTW hL_restore l mL_restore yL_restore [.ref 0, .int a1] σ (0, .int (kti [1, 2] tag), σ1) := by
  refine kctw [(0, .ref 0), (1, .int a1)] hst (by decide +kernel) rfl rfl (Nat.le_of_ble_eq_true rfl) ?_
  refine wv_aload_n (pc := 0) 0 dL_restore_0 rfl rfl ?_
  refine wv_iload_n (pc := 1) 1 dL_restore_1 rfl rfl ?_
  refine wv_call (pc := 2) (o1 := (tag, .int v, σ1)) (M' := mX6_restore) (y := yX6_restore) (ix := 112) [.int a1] (tX6_restore l hst a1 σ (tag, v, σ1) h) dL_restore_2 rfl yw_X6_restore lk_L_112 (by decide) (by decide) (by decide) (fun h0 => ?_) (fun h0 => ?_)
  · rcases ht with ht | ht | ht
    · exact absurd ht h0
    · subst ht
      refine ⟨show 1 ≤ 3 by decide, [], ⟨0, 5, 8, 18⟩, [⟨0, 5, 11, 13⟩], rfl, by decide, by decide, xc_1, (fun z hz => by cases hz), 2, 1, .inr ⟨2, dL_restore_8, rfl, rfl⟩, by decide, ?_⟩
      refine wv_iconst (pc := 9) (v := 1) dL_restore_9 (by decide) ?_
      exact wv_iret (pc := 10) dL_restore_10 rfl rfl (by decide) (by decide)
    · subst ht
      refine ⟨show 2 ≤ 3 by decide, [⟨0, 5, 8, 18⟩], ⟨0, 5, 11, 13⟩, [], rfl, by decide, by decide, xc_2, (fun z hz => by
        rcases List.mem_cons.mp hz with hz | hz
        · subst hz; exact ⟨by decide, 1, by decide, by decide, show 2 ≠ 1 by decide, xc_1⟩
        · cases hz), 2, 1, .inr ⟨2, dL_restore_11, rfl, rfl⟩, by decide, ?_⟩
      refine wv_iconst (pc := 12) (v := 2) dL_restore_12 (by decide) ?_
      exact wv_iret (pc := 13) dL_restore_13 rfl rfl (by decide) (by decide)
  · have h0' : tag = 0 := h0
    subst h0'
    refine wv_goto (pc := 5) (tgt := 14) dL_restore_5 (by decide) ?_
    refine wv_iconst (pc := 14) (v := 0) dL_restore_14 (by decide) ?_
    exact wv_iret (pc := 15) dL_restore_15 rfl rfl (by decide) (by decide)
