theorem kgood {w : Cond} (h : w ∈ kg) : w ∈ kg ∧ ((w.onTables && w.keeps) = true ∨ ∃ ty, w = .arrayClass ty) := ⟨h, good_of_word (kg_good h)⟩
/-- a method's own words, for a call on an object / of a static one -/
def KMV (y : MethodName) (M : KM) (C0 : String) (na : Nat) : Prop :=
  (y.cls = C0 ∧ y.cls ≠ "java/lang/invoke/MethodHandle" ∧ y.cls ≠ "java/lang/invoke/VarHandle" ∧ (parseMethodDescriptor y.desc).map (fun d => d.parameters.length) = some na) ∧ (M.2.2.2.2.1.cells = M.2.2.2.2.2.1 ∧ M.2.2.2.2.1.slots = M.2.2.2.2.2.2) ∧
  Cond.instanceMethod y ∈ kg ∧ Cond.selects C0 y y ∈ kg ∧ Cond.initialized C0 ∈ kg ∧ Cond.code y M.2.1 M.2.2.1 M.2.2.2.1 ∈ kg
def KMS (y : MethodName) (M : KM) (na : Nat) : Prop :=
  (y.cls ≠ "java/lang/invoke/MethodHandle" ∧ y.cls ≠ "java/lang/invoke/VarHandle" ∧ (parseMethodDescriptor y.desc).map (fun d => d.parameters.length) = some na) ∧ (M.2.2.2.2.1.cells = M.2.2.2.2.2.1 ∧ M.2.2.2.2.1.slots = M.2.2.2.2.2.2) ∧
  Cond.static y ∈ kg ∧ Cond.initialized y.cls ∈ kg ∧ Cond.code y M.2.1 M.2.2.1 M.2.2.2.1 ∈ kg
theorem kgV {own C0 : String} {ix : Nat} {y : MethodName} {w0 : Cond} (h1 : Cond.methodLink own ix y ∈ kg) (h2 : Cond.instanceMethod y ∈ kg) (h3 : Cond.selects C0 y y ∈ kg) (h4 : Cond.initialized C0 ∈ kg) (h5 : w0 ∈ kg) : GoodIn kg (wsV own ix C0 y (w0 :: kg)) := by
  intro w hw
  unfold wsV at hw
  rcases List.mem_append.mp hw with hw | hw
  · rcases List.mem_cons.mp hw with rfl | hw
    · exact kgood h1
    rcases List.mem_cons.mp hw with rfl | hw
    · exact kgood h2
    rcases List.mem_cons.mp hw with rfl | hw
    · exact kgood h3
    rcases List.mem_cons.mp hw with rfl | hw
    · exact kgood h4
    · cases hw
  · rcases List.mem_cons.mp hw with rfl | hw
    · exact kgood h5
    · exact kgood hw
theorem kgS {own : String} {ix : Nat} {y : MethodName} {w0 : Cond} (h1 : Cond.methodLink own ix y ∈ kg) (h2 : Cond.static y ∈ kg) (h4 : Cond.initialized y.cls ∈ kg) (h5 : w0 ∈ kg) : GoodIn kg (va_wsS own ix y (w0 :: kg)) := by
  intro w hw
  unfold va_wsS at hw
  rcases List.mem_append.mp hw with hw | hw
  · rcases List.mem_cons.mp hw with rfl | hw
    · exact kgood h1
    rcases List.mem_cons.mp hw with rfl | hw
    · exact kgood h2
    rcases List.mem_cons.mp hw with rfl | hw
    · exact kgood h4
    · cases hw
  · rcases List.mem_cons.mp hw with rfl | hw
    · exact kgood h5
    · exact kgood hw
theorem kcats (E : KE) (st : List Value) : ((st.map (kmv E)).map fun v => v.category).sum = (st.map fun v => v.category).sum := by
  rw [List.map_map]
  congr 1
  exact List.map_congr_left fun v _ => kmv_cat E v
theorem kwa_sub {E : KE} {sh : KSh} {A : Nat → Prop} {σ : Sto} {s : State} {H : Heap} {sz : Nat} (hW : WD E sh A σ s H) (hA : ∀ q, s.heap.size ≤ q → A q) (hz : s.heap.size ≤ sz) : ∀ q, kwa E sh sz q → A q := by
  intro q hq
  rcases hq with ⟨k, hk, rfl⟩ | hq
  · obtain ⟨j, hj, -⟩ := kwl_at (E := E) σ hk
    exact hW.2.2.1.2 j _ hj
  · exact hA q (Nat.le_trans hz hq)
theorem kblind (E : KE) (sh : KSh) (As : List Value) (sz : Nat) (σ : Sto) : FrameBlind (va_Pc (As.map (kmv E)) (fun U => U.heap.size = sz ∧ WD E sh (kwa E sh sz) σ U U.heap ∧ KST E sh (kwa E sh sz) U U.heap)) :=
  fun a U g mk q => ⟨q.1, q.2.1, WD.moved (u := U) (U := U.calling g mk a) (Vm.Alike.refl U.vm) q.2.2.1, KST.moved (u := U) (U := U.calling g mk a) (State.WarmedH.refl U) q.2.2.2⟩
theorem krv_map (E : KE) (ret : Option FieldType) (v : Value) (st : List Value) : ((krv ret v).toList ++ st).map (kmv E) = (krv ret (kmv E v)).toList ++ st.map (kmv E) := by
  cases ret <;> rfl
section KCALL
variable {p : Program} {l : Launch} {e : Env} {R : Room} {s : State} {m : MethodId} {args : Array Value} {below : List Frame} {meth : Method} {c : Code} {H : Heap} {locs : List Loc} {cells slots : Nat} {Q : State → Prop}
variable {mc ms : Nat} {free : Addr → Prop} {A0 A1 : Nat → Prop} {H0 : Heap} {a : Array Value} {pc : Nat} {ls : Array Slot} {st0 rest : List Value}
theorem kx_call {E : KE} {sh : KSh} {ret : Option FieldType} {o1 : KO} (hr : vx_Run p l e R s m args below meth c H locs cells slots mc ms (F0 m pc ls st0) rest (KQ E sh ret o1 A1 a) (KX E sh o1 A1) free) (hS : va_S A0 H0 H locs) (hA : ∀ q, q < H.size → A1 q → A0 q) (hf : ∀ q, free q → A0 q)
    (kx : o1.1 ≠ 0 → ∀ (ce : Cell) (q9 : Addr) (t : State) (H1 : Heap) (locs1 : List Loc), s.vm.Alike t.vm → WD E sh A1 o1.2.2 t H1 → va_S A0 H0 H1 locs1 → H1[q9]? = some ce → ce.vm = .none → s.vm.findClass (kxn o1.1) = some ce.cls → vx_W p l e R s m args below meth c H1 locs1 (cells + mc) (slots + ms) Q (F0 m pc ls rest) q9)
    (kk : o1.1 = 0 → ∀ (t : State) (H1 : Heap) (locs1 : List Loc), s.vm.Alike t.vm → WD E sh A1 o1.2.2 t H1 → va_S A0 H0 H1 locs1 → W p l e R s m args below meth c H1 locs1 (cells + mc) (slots + ms) Q (F0 m (pc + 3) ls ((krv ret (kmv E o1.2.1)).toList ++ rest))) : W p l e R s m args below meth c H locs cells slots Q (F0 m pc ls st0) := by
  intro T hT X
  rcases hr T hT X with ⟨v, st₀, t, T', L, h0, X', hL, e1, e2, ⟨⟨ho, hv, hw⟩, hF⟩, st⟩ | ⟨q, st₀, t, T', L, E9, ce, h0, X', hL, e1, e2, ⟨⟨ho, hE, hw⟩, hF⟩, hce, hcv, hcl, st⟩
  · cases hv
    obtain ⟨k1, k2, k3⟩ := vx_keep h0 e1 hS hA hf hL hF
    obtain ⟨t2, a1, b1⟩ := kk ho t T'.heap (locs ++ L) (by rw [← e2]; exact X'.warmed.alike) (by rw [e1]; exact hw) k3 T' rfl X'
    exact ⟨t2, st t2 a1, b1⟩
  · subst hE
    obtain ⟨k1, k2, k3⟩ := vx_keep h0 e1 hS hA hf hL hF
    obtain ⟨t2, a1, b1⟩ := kx ho ce q t T'.heap (locs ++ L) (by rw [← e2]; exact X'.warmed.alike) (by rw [e1]; exact hw) k3 (by rw [e1]; exact hce) hcv hcl T' rfl X'
    exact ⟨t2, st.trans a1, b1⟩
end KCALL
section KROWS2
variable {sh : KSh} {l : Launch} {M : KM} {k n pc : Nat} {lo : List (Nat × Value)} {st : List Value} {σ : Sto} {o : KO}
theorem WD.back {E : KE} {sh : KSh} {A B : Nat → Prop} {σ : Sto} {s t : State} {H : Heap} (h : WD E sh B σ t H) (hvm : s.vm.Alike t.vm) (hs : ∀ q, B q → A q) : WD E sh A σ s H := ⟨h.1, va_K.moved hvm.symm h.2.1, h.2.2.1.weaken (fun _ _ _ hq => hs _ hq), h.2.2.2⟩
theorem WD.call {E : KE} {sh : KSh} {A : Nat → Prop} {σ : Sto} {s U : State} {H : Heap} (hW : WD E sh A σ s H) (hWU : s.WarmedH U.vm) : WD E sh (kwa E sh H.size) σ U H := by
  refine ⟨hW.1, va_K.moved hWU.alike hW.2.1, ⟨hW.2.2.1.1, fun j x hj => ?_⟩, hW.2.2.2⟩
  unfold kwl at hj
  rw [List.getElem?_map] at hj
  cases hp : (kpl sh)[j]? with
  | none => rw [hp] at hj; cases hj
  | some q =>
    rw [hp] at hj
    cases hj
    exact Or.inl ⟨q, List.mem_of_getElem? hp, rfl⟩
theorem kcall_end {M' : KM} {o1 : KO} {E : KE} {sh : KSh} {A : Nat → Prop} {p : Program} {e : Env} {s : State} {m : MethodId} {args : Array Value} {below : List Frame} {meth : Method} {c : Code} (C : KC l M E sh A p s m args meth c) {H : Heap} {locs : List Loc} {ls : Array Slot} {stk : List Value} (hW : WD E sh A σ s H) (hS : va_S A s.heap H locs) (hl : lv_has ls M.2.2.1 (kml E lo)) {a : Array Value}
    (hr : vx_Run p l e M.2.2.2.2.1 s m args below meth c H locs k n M'.2.2.2.2.2.1 M'.2.2.2.2.2.2 (F0 m pc ls (stk.map (kmv E))) (st.map (kmv E)) (KQ E sh M'.2.2.2.1 o1 (kwa E sh H.size) a) (KX E sh o1 (kwa E sh H.size)) (kwa E sh H.size))
    (hx : o1.1 ≠ 0 → o.1 = o1.1 ∧ o.2.2 = o1.2.2 ∧ k + M'.2.2.2.2.2.1 ≤ M.2.2.2.2.2.1 ∧ n + M'.2.2.2.2.2.2 ≤ M.2.2.2.2.2.2)
    (kk : o1.1 = 0 → VV sh l M (k + M'.2.2.2.2.2.1) (n + M'.2.2.2.2.2.2) (pc + 3) lo ((krv M'.2.2.2.1 o1.2.1).toList ++ st) o1.2.2 o) :
    W p l e M.2.2.2.2.1 s m args below meth c H locs k n (vx_MQ below (KQ E sh M.2.2.2.1 o A) (KX E sh o A) args s M.2.2.2.2.2.1 M.2.2.2.2.2.2 A) (F0 m pc ls (stk.map (kmv E))) := by
  have hsub := kwa_sub hW C.2.2.2.2.2.2.2.2.1 hS.1
  refine kx_call hr hS (fun q _ h => hsub q h) hsub (fun h0 ce q9 t H1 locs1 hvm hw hS1 hce hcv hcl => ?_) (fun h0 t H1 locs1 hvm hw hS1 => ?_)
  · obtain ⟨x1, x2, x3, x4⟩ := hx h0
    refine vx_out (E := kxn o1.1) (fun x hx => (C.2.2.2.2.2.2.2.1 x hx).elim) C.2.2.2.2.2.1 hce hcv hcl (fun t2 ht2 hvm2 => ⟨⟨by rw [x1]; exact h0, by rw [x1], ?_⟩, hS1.F ht2⟩) hS1.2.2 x3 x4
    rw [x2, ht2]
    exact WD.moved hvm2 (WD.back hw hvm hsub)
  · have h9 := kk h0 E A p e s m args below meth c C H1 locs1 ls (WD.back hw hvm hsub) hS1 hl
    rw [krv_map] at h9
    exact h9
theorem kv_callV {M' : KM} {y : MethodName} {q ci ix : Nat} (As : List Value) {stk : List Value} {o1 : KO} {C0 : String} {T0 : u_T} {N0 : Nat} (hc : CT sh l M' y (.ref q :: As) σ o1) (hd : decode M.2.1 pc = .ok (.invokevirtual ix, 3)) (hst : stk = As.reverse ++ .ref q :: st)
    (hs : sh q = .inl ci) (hcl : vwCl[ci]? = some (C0, T0, N0)) (hy : KMV y M' C0 As.length) (hlk : Cond.methodLink M.1 ix y ∈ kg)
    (hR : M'.2.2.2.2.1.frames + 1 ≤ M.2.2.2.2.1.frames ∧ 8 + (M'.2.2.1 + 11) + M'.2.2.2.2.1.locals ≤ M.2.2.2.2.1.locals) (hcat : (st.map fun v => v.category).sum ≤ 8) (hf : k + M'.2.2.2.2.2.1 ≤ M.2.2.2.2.1.cells ∧ n + M'.2.2.2.2.2.2 ≤ M.2.2.2.2.1.slots)
    (hx : o1.1 ≠ 0 → o.1 = o1.1 ∧ o.2.2 = o1.2.2 ∧ k + M'.2.2.2.2.2.1 ≤ M.2.2.2.2.2.1 ∧ n + M'.2.2.2.2.2.2 ≤ M.2.2.2.2.2.2)
    (kk : o1.1 = 0 → VV sh l M (k + M'.2.2.2.2.2.1) (n + M'.2.2.2.2.2.2) (pc + 3) lo ((krv M'.2.2.2.1 o1.2.1).toList ++ st) o1.2.2 o) : VV sh l M k n pc lo stk σ o := by
  intro E A p e s m args below meth c C H locs ls hW hS hl
  subst hst
  obtain ⟨hy0, hyr, hy1, hy2, hy3, hy4⟩ := hy
  have hC := C
  obtain ⟨hx0, hb, hml, hr, hown, hlocks, hts, het, hAs, hK, hst0⟩ := hC
  obtain ⟨j0, hj0, -⟩ := kwl_at (E := E) σ (hW.at hs (fun n h => by cases h))
  have hsub := kwa_sub hW hAs hS.1
  refine kcall_end (M' := M') (o1 := o1) (a := (Value.ref (E.2.1 q) :: As.map (kmv E)).toArray) C hW hS hl (vx_runV (As := As.map (kmv E)) (rest := st.map (kmv E)) (b := E.2.1 q) (C := C0) (y := y) (bytes := M'.2.1) (maxL := M'.2.2.1) (ret := M'.2.2.2.1) ⟨hx0, hb, hml, hown, hts⟩ (hc E H.size) (cwV As.length hts (kgV hlk hy1 hy2 hy3 hy4) rfl hyr.1 hyr.2 hy0 hR)
    ⟨kblind E sh (.ref q :: As) _ _, va_recv (q0 := j0) hW.2.1 hW.1 hcl (hj0.trans (by rw [kce_o hs])), fun U hU hWU => ⟨rfl, by rw [hU], by rw [hU]; exact hW.call hWU, by rw [hU]; exact ((hK.kept hS.2.1).moved hWU).narrow hsub⟩⟩
    rfl (List.length_map _) hl.1 ?_ (lv_room (by rw [kcats]; exact hcat)) hd hf) hx kk
  · show List.map (kmv E) (As.reverse ++ .ref q :: st) = _
    rw [List.map_append, List.map_reverse]
    rfl
theorem kv_callS {M' : KM} {y : MethodName} {ix : Nat} (As : List Value) {stk : List Value} {o1 : KO} (hc : CT sh l M' y As σ o1) (hd : decode M.2.1 pc = .ok (.invokestatic ix, 3)) (hst : stk = As.reverse ++ st)
    (hy : KMS y M' As.length) (hlk : Cond.methodLink M.1 ix y ∈ kg)
    (hR : M'.2.2.2.2.1.frames + 1 ≤ M.2.2.2.2.1.frames ∧ 8 + (M'.2.2.1 + 11) + M'.2.2.2.2.1.locals ≤ M.2.2.2.2.1.locals) (hcat : (st.map fun v => v.category).sum ≤ 8) (hf : k + M'.2.2.2.2.2.1 ≤ M.2.2.2.2.1.cells ∧ n + M'.2.2.2.2.2.2 ≤ M.2.2.2.2.1.slots)
    (hx : o1.1 ≠ 0 → o.1 = o1.1 ∧ o.2.2 = o1.2.2 ∧ k + M'.2.2.2.2.2.1 ≤ M.2.2.2.2.2.1 ∧ n + M'.2.2.2.2.2.2 ≤ M.2.2.2.2.2.2)
    (kk : o1.1 = 0 → VV sh l M (k + M'.2.2.2.2.2.1) (n + M'.2.2.2.2.2.2) (pc + 3) lo ((krv M'.2.2.2.1 o1.2.1).toList ++ st) o1.2.2 o) : VV sh l M k n pc lo stk σ o := by
  intro E A p e s m args below meth c C H locs ls hW hS hl
  subst hst
  obtain ⟨hy0, hyr, hy1, hy3, hy4⟩ := hy
  have hC := C
  obtain ⟨hx0, hb, hml, hr, hown, hlocks, hts, het, hAs, hK, hst0⟩ := hC
  have hsub := kwa_sub hW hAs hS.1
  refine kcall_end (M' := M') (o1 := o1) (a := (As.map (kmv E)).toArray) C hW hS hl (vx_runS (As := As.map (kmv E)) (rest := st.map (kmv E)) (y := y) (bytes := M'.2.1) (maxL := M'.2.2.1) (ret := M'.2.2.2.1) ⟨hx0, hb, hml, hown, hts⟩ (hc E H.size) (va_cwS As.length hts (kgS hlk hy1 hy3 hy4) rfl hyr.1 hyr.2 hy0 hR)
    ⟨kblind E sh As _ _, fun U hU hWU => ⟨rfl, by rw [hU], by rw [hU]; exact hW.call hWU, by rw [hU]; exact ((hK.kept hS.2.1).moved hWU).narrow hsub⟩⟩
    rfl (List.length_map _) hl.1 ?_ (lv_room (by rw [kcats]; exact hcat)) hd hf) hx kk
  · show List.map (kmv E) (As.reverse ++ st) = _
    rw [List.map_append, List.map_reverse]
theorem kslen (E : KE) : ∀ As : List Value, (lg_sl (As.map (kmv E))).length = (lg_sl As).length
  | [] => rfl
  | v :: vs => by
    have ih := kslen E vs
    unfold lg_sl at ih ⊢
    rw [List.map_cons, List.flatMap_cons, List.flatMap_cons, List.length_append, List.length_append, ih, kmv_cat]
    congr 1
    split <;> rfl
theorem kargs (E : KE) : ∀ (As : List Value) (i : Nat), lv_args i (As.map (kmv E)) = kml E (lv_args i As)
  | [], _ => rfl
  | v :: vs, i => by
    rw [List.map_cons, lv_args, lv_args, kmv_cat, kargs E vs]
    rfl
/-- a method's contract out of its walk -/
theorem kct {y : MethodName} {As : List Value} (lo : List (Nat × Value)) (hst : l.stackTraces = false) (hy : plainName y.cls = true) (hyc : y.cls = M.1) (hlo : lv_args 0 As = lo) (hsl : (lg_sl As).length ≤ M.2.2.1) (hV : VV sh l M 0 0 0 lo [] σ o) : CT sh l M y As σ o := by
  intro E sz
  refine vx_ofW (cc := M.2.1) (maxL := M.2.2.1) (ret := M.2.2.2.1) hy rfl ?_
  intro p e s m args below meth c s₁ B hml het hv
  obtain ⟨rfl, hsz, hW, hK⟩ := hv
  subst hsz
  have hts0 := atoms_spec (ws := Cond.code y M.2.1 M.2.2.1 M.2.2.2.1 :: kg) B.pre
  have hts : ∀ w ∈ kg, w.before (As.map (kmv E)).toArray s = true := fun w h => hts0 w (List.mem_cons_of_mem _ h)
  have hown : s.vm.findClass M.1 = some m.cls := hyc ▸ findClass_of_methodNamed B.named
  rw [lg_entry_eq]
  have hl := lv_entry (As.map (kmv E)) (n := M.2.2.1) (by rw [kslen]; exact hsl)
  rw [kargs, hlo] at hl
  exact hV E (kwa E sh s.heap.size) p e s m _ below meth c ⟨B.exec, B.bytes, hml, B.returns, hown, B.notSynchronized, hts, het, fun q h => Or.inr h, hK, hst⟩ s.heap [] _ hW va_S.rf hl
/-- 'throw new E()' -/
theorem kv_throw {ik ic xc : Nat} {v : Value} (hown : M.1 = RX6) (d0 : decode M.2.1 pc = .ok (.new ik, 3)) (d3 : decode M.2.1 (pc + 3) = .ok (.dup, 1)) (d4 : decode M.2.1 (pc + 4) = .ok (.invokespecial ic, 3)) (d7 : decode M.2.1 (pc + 7) = .ok (.athrow, 1)) (hxc : xc ≠ 0)
    (hfit : Bundle.fit (kxn xc) = true) (hfn : ∀ n ∈ knm, Bundle.fit n = true) (hk : Cond.classLink RX6 ik (kxn xc) ∈ kg) (hini : Cond.initialized (kxn xc) ∈ kg) (hsub : ∀ w ∈ vx_at0 RX6 ic (kxn xc) knm, w ∈ kbt)
    (hfr : 5 < M.2.2.2.2.1.frames) (hlo : (st.map fun v => v.category).sum + 81 ≤ M.2.2.2.2.1.locals) (hc : k + 1 ≤ M.2.2.2.2.1.cells) (hs : n + 6 ≤ M.2.2.2.2.1.slots) (hmc : k + 1 ≤ M.2.2.2.2.2.1) (hms : n + 6 ≤ M.2.2.2.2.2.2) (ho : o = (xc, v, σ)) : VV sh l M k n pc lo st σ o := by
  intro E A p e s m args below meth c C H locs ls hW hS hl
  subst ho
  have hK := C.2.2.2.2.2.2.2.2.2.1
  have hall : ∀ w ∈ vx_at0 RX6 ic (kxn xc) knm, w.onTables = true := fun w hw => by
    have h0 := List.all_eq_true.mp kbt_ok w (hsub w hw)
    simp only [Bool.and_eq_true] at h0
    exact h0.1
  refine vx_throw0 (own := RX6) (cls := kxn xc) (names := knm) (ik := ik) (ic := ic) (A := A) C.1 C.2.1 C.2.2.2.2.2.2.2.2.2.2 (by rw [← hown]; exact C.2.2.2.2.1) hfit hfn (C.2.2.2.2.2.2.1 _ hk) (C.2.2.2.2.2.2.1 _ hini)
    (fun w hw => va_tabs (hall w hw) rfl (hK.2.2.2.2.2.2.1 w (hsub w hw))) ?_ hK.2.1 hK.2.2.1 hS (by rw [hl.1, C.2.2.1]) d0 d3 d4 d7 (fun x hx => (C.2.2.2.2.2.2.2.1 x hx).elim) hfr (by rw [kcats]; exact hlo) hc hs C.2.2.2.2.2.1 ?_ hS.2.2 hmc hms
  · intro w hw
    unfold vx_ot
    rw [Bool.or_eq_true]
    rcases List.mem_cons.mp hw with rfl | hw
    · exact Or.inr (kg_good hk)
    rcases List.mem_cons.mp hw with rfl | hw
    · exact Or.inr (kg_good hini)
    · exact Or.inl (hall w hw)
  · intro t hvm hz hq
    refine ⟨⟨hxc, rfl, hW.1.kept (fun j x hj => hq x.1 (hW.1 j x hj).lt), va_K.moved hvm hW.2.1, hW.2.2⟩, Nat.le_trans hS.1 hz, fun q h1 h2 => ?_⟩
    rw [hq q (Nat.lt_of_lt_of_le h1 hS.1)]
    exact hS.2.1 q h1 h2
theorem kv_max {ix : Nat} {x y : Int32} (hd : decode M.2.1 pc = .ok (.invokestatic ix, 3)) (hlk : Cond.methodLink M.1 ix Lib.Math.max.name ∈ kg) (hw : Cond.static Lib.Math.max.name ∈ kg ∧ Cond.initialized "java/lang/Math" ∈ kg ∧ Cond.code Lib.Math.max.name Lib.Math.max.code 2 (some .int) ∈ kg) (hfr : 1 ≤ M.2.2.2.2.1.frames) (hlo : (st.map fun v => v.category).sum + 13 ≤ M.2.2.2.2.1.locals) (hc : k ≤ M.2.2.2.2.1.cells) (hs : n ≤ M.2.2.2.2.1.slots)
    (kk : VV sh l M k n (pc + 3) lo (.int (if x < y then y else x) :: st) σ o) : VV sh l M k n pc lo (.int y :: .int x :: st) σ o :=
  fun E A p e s m args below meth c C H locs ls hW hS hl => va_mmax C.1 C.2.1 (by rw [hl.1, C.2.2.1]) C.2.2.2.2.1 (C.2.2.2.2.2.2.1 _ hlk) (C.2.2.2.2.2.2.1 _ hw.1) (C.2.2.2.2.2.2.1 _ hw.2.1) (C.2.2.2.2.2.2.1 _ hw.2.2) hfr (by rw [kcats]; exact hlo) hc hs hd (kk E A p e s m args below meth c C H locs ls hW hS hl)
theorem kv_min {ix : Nat} {x y : Int32} (hd : decode M.2.1 pc = .ok (.invokestatic ix, 3)) (hlk : Cond.methodLink M.1 ix Lib.Math.min.name ∈ kg) (hw : Cond.static Lib.Math.min.name ∈ kg ∧ Cond.initialized "java/lang/Math" ∈ kg ∧ Cond.code Lib.Math.min.name Lib.Math.min.code 2 (some .int) ∈ kg) (hfr : 1 ≤ M.2.2.2.2.1.frames) (hlo : (st.map fun v => v.category).sum + 13 ≤ M.2.2.2.2.1.locals) (hc : k ≤ M.2.2.2.2.1.cells) (hs : n ≤ M.2.2.2.2.1.slots)
    (kk : VV sh l M k n (pc + 3) lo (.int (if y < x then y else x) :: st) σ o) : VV sh l M k n pc lo (.int y :: .int x :: st) σ o :=
  fun E A p e s m args below meth c C H locs ls hW hS hl => va_mmin C.1 C.2.1 (by rw [hl.1, C.2.2.1]) C.2.2.2.2.1 (C.2.2.2.2.2.2.1 _ hlk) (C.2.2.2.2.2.2.1 _ hw.1) (C.2.2.2.2.2.2.1 _ hw.2.1) (C.2.2.2.2.2.2.1 _ hw.2.2) hfr (by rw [kcats]; exact hlo) hc hs hd (kk E A p e s m args below meth c C H locs ls hW hS hl)
theorem kv_abs {ix : Nat} {x : Int32} (hd : decode M.2.1 pc = .ok (.invokestatic ix, 3)) (hlk : Cond.methodLink M.1 ix Lib.Math.abs.name ∈ kg) (hw : Cond.static Lib.Math.abs.name ∈ kg ∧ Cond.initialized "java/lang/Math" ∈ kg ∧ Cond.code Lib.Math.abs.name Lib.Math.abs.code 1 (some .int) ∈ kg) (hfr : 1 ≤ M.2.2.2.2.1.frames) (hlo : (st.map fun v => v.category).sum + 13 ≤ M.2.2.2.2.1.locals) (hc : k ≤ M.2.2.2.2.1.cells) (hs : n ≤ M.2.2.2.2.1.slots)
    (kk : VV sh l M k n (pc + 3) lo (.int (if 0 ≤ x then x else 0 - x) :: st) σ o) : VV sh l M k n pc lo (.int x :: st) σ o :=
  fun E A p e s m args below meth c C H locs ls hW hS hl => va_mabs C.1 C.2.1 (by rw [hl.1, C.2.2.1]) C.2.2.2.2.1 (C.2.2.2.2.2.2.1 _ hlk) (C.2.2.2.2.2.2.1 _ hw.1) (C.2.2.2.2.2.2.1 _ hw.2.1) (C.2.2.2.2.2.2.1 _ hw.2.2) hfr (by rw [kcats]; exact hlo) hc hs hd (kk E A p e s m args below meth c C H locs ls hW hS hl)
/-- System.arraycopy(q0, 0, q1, 0, N) of two int arrays of N places -/
def kcp (σ : Sto) (q0 q1 N : Nat) : Sto := sur σ q1 (fun j => if j < N then σ q0 j else σ q1 j)
theorem kv_copy {ix q0 q1 N : Nat} {x : Int32} (hx : x = nI N) (hN : N < 2 ^ 31) (hd : decode M.2.1 pc = .ok (.invokestatic ix, 3)) (hlk : Cond.methodLink M.1 ix arraycopyName ∈ kg) (hw : Cond.native arraycopyName ∈ kg ∧ Cond.static arraycopyName ∈ kg ∧ Cond.initialized "java/lang/System" ∈ kg) (h0 : sh q0 = .inr (0, N)) (h1 : sh q1 = .inr (0, N)) (hfr : 1 ≤ M.2.2.2.2.1.frames) (hlo : (st.map fun v => v.category).sum + (nativeFrameWords "java/lang/System" "arraycopy" 5 + 11) ≤ M.2.2.2.2.1.locals)
    (kk : VV sh l M k n (pc + 3) lo st (kcp σ q0 q1 N) o) : VV sh l M k n pc lo (.int x :: .int 0 :: .ref q1 :: .int 0 :: .ref q0 :: st) σ o := by
  intro E A p e s m args below meth c C H locs ls hW hS hl
  obtain ⟨j0, hj0, -⟩ := kwl_at (E := E) σ (hW.at h0 (fun n h => by cases h))
  obtain ⟨j1, hj1, hset⟩ := kwl_at (E := E) σ (hW.at h1 (fun n h => by cases h))
  have z0 : (0 : Int32).toNatClampNeg = 0 := rfl
  have zx : x.toNatClampNeg = N := by rw [hx]; exact nI_clamp hN
  refine va_copyi (D := E.1) (tys := kty E) (ty := .int) C.1 C.2.1 (by rw [hl.1, C.2.2.1]) C.2.2.2.2.1 (C.2.2.2.2.2.2.1 _ hlk) (C.2.2.2.2.2.2.1 _ hw.1) (C.2.2.2.2.2.2.1 _ hw.2.1) (C.2.2.2.2.2.2.1 _ hw.2.2) hW.2.1 hW.1 hW.2.2.1 hS j0 j1 0 0 (hj0.trans (by rw [kce_i h0])) (hj1.trans (by rw [kce_i h1])) rfl rfl rfl (by decide) (by decide) (by rw [hx]; exact nI_pos hN) (by rw [z0, zx]; omega) (by rw [z0, zx]; omega) (fun i _ => rfl) hfr (by rw [kcats]; exact hlo) hd (fun H1 locs1 hP hD hS1 => ?_)
  rw [hset (kcp σ q0 q1 N) _ (by
    rw [kce_i h1]
    refine congrArg (fun f => Sum.inl (E.2.2 0, N, Sum.inl f)) ?_
    rw [kcp, sur_s, z0, zx]
    funext j
    by_cases hj : j < N
    · rw [pk_cpy_in (Nat.zero_le j) (by omega), if_pos hj]; simp
    · rw [pk_cpy_out (Or.inr (by omega)), if_neg hj]) sur_o] at hP hD
  exact kk E A p e s m args below meth c C H1 locs1 ls ⟨hP, hW.2.1, hD, hW.2.2.2⟩ hS1 hl
end KROWS2
