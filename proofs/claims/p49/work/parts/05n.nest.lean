/-! ===== BEGIN a private method of a nest mate that may throw (follows va_callVN, va_callSN, va_runVN, va_runSN) ===== -/
section
variable {p : Program} {l : Launch} {e : Env} {R : Room} {s : State} {m : MethodId} {args : Array Value} {below : List Frame} {meth : Method} {c : Code} {H : Heap} {locs : List Loc} {cells slots : Nat}
variable {T : State}
theorem vx_callVN (X : Stand p l e R s m args below meth c T locs cells slots) (hexec : p.tables.exec = Jvm.exec) {own C : String} {index : Nat} {host : String} {y : MethodName} {bytes : ByteArray} {maxL : Nat} {ret : Option FieldType}
    (hown : s.vm.findClass own = some m.cls) (hlink : (Cond.methodLinkNest own index y host).before args s = true) (hinst : (Cond.instanceMethod y).before args s = true) (hsel : (Cond.selects C y y).before args s = true)
    (hcode : (Cond.code y bytes maxL ret).before args s = true) (hy : y.cls ≠ "java/lang/invoke/MethodHandle" ∧ y.cls ≠ "java/lang/invoke/VarHandle")
    {W : Nat} {Pre : Pt → Array Value → Prop} {Post : Pt → Array Value → Option Value → Pt → Prop} {PostX : Pt → Array Value → Addr → Pt → Prop} (hK : vx_Back l R p e below s args y 3 W Pre Post PostX)
    {b : Addr} {cellB : Cell} (hcell : T.heap[b]? = some cellB) (hobj : cellB.vm.isStatics = false) (hcls : s.vm.findClass C = some cellB.cls)
    {g : JFrame} (hg : g.method = m) (hsize : g.locals.size = c.maxLocals) {argsL rest : List Value} (hlen : ∀ sig, parseMethodDescriptor y.desc = some sig → argsL.length = sig.parameters.length)
    (hstack : g.stack = argsL.reverse ++ .ref b :: rest) (hW : 2 * g.monitorRoom + (rest.map fun v => v.category).sum ≤ W) (hdg : decode c.code g.pc = .ok (.invokevirtual index, 3))
    (hpre : ∀ vm₁, s.WarmedH vm₁ → Pre ⟨T.setVm vm₁, locs, cells, slots⟩ (Value.ref b :: argsL).toArray) :
    (∃ (v : Option Value) (vm₁ : Vm) (B : Pt), s.WarmedH vm₁ ∧ Stand p l e R s m args below meth c B.U B.locs B.cells B.slots ∧ Post ⟨T.setVm vm₁, locs, cells, slots⟩ (Value.ref b :: argsL).toArray v B ∧
      ∀ target, Steps p.tables e below (B.U.setTop { g with pc := g.pc + 3, stack := v.toList ++ rest }) target → Steps p.tables e below (T.setTop g) target) ∨
    (∃ (q : Addr) (vm₁ : Vm) (B : Pt), s.WarmedH vm₁ ∧ Stand p l e R s m args below meth c B.U B.locs B.cells B.slots ∧ PostX ⟨T.setVm vm₁, locs, cells, slots⟩ (Value.ref b :: argsL).toArray q B ∧
      Steps p.tables e below (T.setTop g) ((B.U.setTop { g with stack := rest }).pushFrame (.throwing q))) := by
  obtain ⟨mk, methM, hnamed, hmethM, hstM, habM⟩ := Cond.instanceMethod_spec hinst
  obtain ⟨methM', cM, hmethM', -, -, -, -, -, -, hsigM⟩ := Cond.code_spec hnamed hcode
  cases hmethM.symm.trans hmethM'
  obtain ⟨c2, r2, m2, q1, q2, q3, q4, kP, hkP, hkPi⟩ := Cond.selects_spec hsel
  cases hcls.symm.trans q1
  cases (State.methodFound?_of_named hnamed hy).symm.trans q2
  cases hnamed.symm.trans q3
  have hselP : selectMethod e.platform s.vm cellB.cls mk = .method mk := by rw [Launch.admits_selectMethod X.admits]; exact q4
  obtain ⟨vm₁, X₁, hstep₁⟩ := X.invokevirtualNest hexec hown hlink hnamed hmethM hstM hkP hkPi hy (a := b) (cell := cellB) hcell
    (fun z h => by rw [h] at hobj; cases hobj) hselP hmethM habM hkP hkPi (g := g) hg (argsL := argsL) (rest := rest) (hlen _ hsigM) hstack hdg
  rcases hK m meth c ⟨T.setVm vm₁, locs, cells, slots⟩ { g with stack := rest } (.invokevirtual index) mk (Value.ref b :: argsL).toArray X₁ hg hsize hdg hW (X₁.named hnamed) (hpre vm₁ X₁.warmed) with ⟨v, B, X', hpost, hsteps⟩ | ⟨q, B, X', hpost, hsteps⟩
  · exact Or.inl ⟨v, vm₁, B, X₁.warmed, X', hpost, fun target h => hstep₁ _ fun acts => by rw [doInvoke_state]; exact hsteps.trans h⟩
  · exact Or.inr ⟨q, vm₁, B, X₁.warmed, X', hpost, hstep₁ _ fun acts => by rw [doInvoke_state]; exact hsteps⟩
theorem vx_callSN (X : Stand p l e R s m args below meth c T locs cells slots) (hexec : p.tables.exec = Jvm.exec) {own : String} {index : Nat} {host : String} {y : MethodName} {bytes : ByteArray} {maxL : Nat} {ret : Option FieldType}
    (hown : s.vm.findClass own = some m.cls) (hlink : (Cond.methodLinkNest own index y host).before args s = true) (hstat : (Cond.static y).before args s = true) (hinit : (Cond.initialized y.cls).before args s = true)
    (hcode : (Cond.code y bytes maxL ret).before args s = true) (hy : y.cls ≠ "java/lang/invoke/MethodHandle" ∧ y.cls ≠ "java/lang/invoke/VarHandle")
    {W : Nat} {Pre : Pt → Array Value → Prop} {Post : Pt → Array Value → Option Value → Pt → Prop} {PostX : Pt → Array Value → Addr → Pt → Prop} (hK : vx_Back l R p e below s args y 3 W Pre Post PostX)
    {g : JFrame} (hg : g.method = m) (hsize : g.locals.size = c.maxLocals) {argsL rest : List Value} (hlen : ∀ sig, parseMethodDescriptor y.desc = some sig → argsL.length = sig.parameters.length)
    (hstack : g.stack = argsL.reverse ++ rest) (hW : 2 * g.monitorRoom + (rest.map fun v => v.category).sum ≤ W) (hdg : decode c.code g.pc = .ok (.invokestatic index, 3))
    (hpre : ∀ vm₁, s.WarmedH vm₁ → Pre ⟨T.setVm vm₁, locs, cells, slots⟩ argsL.toArray) :
    (∃ (v : Option Value) (vm₁ : Vm) (B : Pt), s.WarmedH vm₁ ∧ Stand p l e R s m args below meth c B.U B.locs B.cells B.slots ∧ Post ⟨T.setVm vm₁, locs, cells, slots⟩ argsL.toArray v B ∧
      ∀ target, Steps p.tables e below (B.U.setTop { g with pc := g.pc + 3, stack := v.toList ++ rest }) target → Steps p.tables e below (T.setTop g) target) ∨
    (∃ (q : Addr) (vm₁ : Vm) (B : Pt), s.WarmedH vm₁ ∧ Stand p l e R s m args below meth c B.U B.locs B.cells B.slots ∧ PostX ⟨T.setVm vm₁, locs, cells, slots⟩ argsL.toArray q B ∧
      Steps p.tables e below (T.setTop g) ((B.U.setTop { g with stack := rest }).pushFrame (.throwing q))) := by
  obtain ⟨mk, hnamed⟩ := Cond.code_named hcode
  obtain ⟨methM, cM, hmethM, -, -, -, -, -, -, hsigM⟩ := Cond.code_spec hnamed hcode
  have hstatic : methM.isStatic = true := Cond.static_spec hnamed hmethM hstat
  obtain ⟨kP, hkP, -⟩ := className_of_methodNamed hnamed
  have hinitP : kP.init = .initialized := Cond.initialized_spec (findClass_of_methodNamed hnamed) hkP hinit
  obtain ⟨vm₁, X₁, hstep₁⟩ := X.invokestaticNest hexec hown hlink hnamed hmethM hstatic hkP hinitP hy (g := g) hg (argsL := argsL) (rest := rest) (hlen _ hsigM) hstack hdg
  rcases hK m meth c ⟨T.setVm vm₁, locs, cells, slots⟩ { g with stack := rest } (.invokestatic index) mk argsL.toArray X₁ hg hsize hdg hW (X₁.named hnamed) (hpre vm₁ X₁.warmed) with ⟨v, B, X', hpost, hsteps⟩ | ⟨q, B, X', hpost, hsteps⟩
  · exact Or.inl ⟨v, vm₁, B, X₁.warmed, X', hpost, fun target h => hstep₁ _ fun acts => by rw [doInvoke_state]; exact hsteps.trans h⟩
  · exact Or.inr ⟨q, vm₁, B, X₁.warmed, X', hpost, hstep₁ _ fun acts => by rw [doInvoke_state]; exact hsteps⟩
theorem vx_runVN {y : MethodName} {bytes cc : ByteArray} {maxL nL mc ms n index : Nat} {ret : Option FieldType} {ws : List Cond} {rm : Room} {Pc : Array Value → State → Prop} {Qc : Array Value → State → Outcome → State → Prop} {XC : String → State → State → Prop} {free : Addr → Prop} {Ts : List Cond} {own C host : String} {b : Addr} {As rest : List Value} {g : JFrame}
    (S : CallFix p m c cc nL s args Ts own) (hM : vx_Met l y ws rm Pc Qc XC mc ms free) (cw : va_CN R s args own index y host bytes maxL ret ws rm mc ms n ∧ (Cond.instanceMethod y).before args s = true ∧ (Cond.selects C y y).before args s = true) (hp : PreV s H C b Pc As)
    (hg : g.method = m) (hn : As.length = n) (hsize : g.locals.size = nL) (hstack : g.stack = As.reverse ++ .ref b :: rest) (hW : 2 * g.monitorRoom + (rest.map fun v => v.category).sum ≤ 8) (hdg : decode cc g.pc = .ok (.invokevirtual index, 3)) (hf : cells + mc ≤ R.cells ∧ slots + ms ≤ R.slots) :
    vx_Run p l e R s m args below meth c H locs cells slots mc ms g rest (Qc (Value.ref b :: As).toArray) XC free := by
  obtain ⟨⟨⟨hrc, hrs, hfr, hlo, hws, hcw⟩, hcode, hini, hy, hlen, hl⟩, hx1, hx2⟩ := cw
  have hK : vx_Back l R p e below s args y 3 8 (PreOf R mc ms Pc) (PostOf Qc mc ms free) (vx_Post XC mc ms free) := vx_back (bytes := bytes) (maxL := maxL) (ret := ret) hM hp.1 hrc hrs hfr hlo hws hcw (fun a' U hW => word_at hW (Or.inl (by first | rfl | simp [Cond.onTables, Cond.keeps, Cond.steady])) hini)
  obtain ⟨hx, hb, hml, ho, -⟩ := S
  obtain ⟨-, ⟨cellB, hcB, hoB, hclB⟩, hPc⟩ := hp
  intro T hT X
  rcases vx_callVN X hx (C := C) (bytes := bytes) (maxL := maxL) (ret := ret) ho hl hx1 hx2 hcode hy hK (by rw [hT]; exact hcB) hoB hclB hg (hsize.trans hml.symm) (argsL := As) (rest := rest) (fun sig h => hn.trans (hlen sig h)) hstack hW (by rw [hb]; exact hdg)
    (fun vm₁ hW₁ => ⟨hf.1, hf.2, hPc (T.setVm vm₁) hT hW₁⟩) with ⟨v, vm₁, ⟨U', l2, c2, s2⟩, hW₁, X', ⟨g', mk, t, L, e1, e2, hq, h1, hL, h2, h3⟩, st⟩ | ⟨q, vm₁, ⟨U', l2, c2, s2⟩, hW₁, X', ⟨g', mk, t, L, E, ce, e1, e2, hq, hce, hcv, hcl, h1, hL, h2, h3⟩, st⟩
  · dsimp only [Pt.U, Pt.locs, Pt.cells, Pt.slots] at X' e1 e2 h1 h2 h3 st
    subst h1; subst h2; subst h3
    exact Or.inl ⟨v, (T.setVm vm₁).calling g' mk (Value.ref b :: As).toArray, t, U', L, hT, X', hL, e1, e2, hq, st⟩
  · dsimp only [Pt.U, Pt.locs, Pt.cells, Pt.slots] at X' e1 e2 h1 h2 h3 st hcl
    subst h1; subst h2; subst h3
    exact Or.inr ⟨q, (T.setVm vm₁).calling g' mk (Value.ref b :: As).toArray, t, U', L, E, ce, hT, X', hL, e1, e2, hq, hce, hcv, vx_cls hW₁ hcl, st⟩
theorem vx_runSN {y : MethodName} {bytes cc : ByteArray} {maxL nL mc ms n index : Nat} {ret : Option FieldType} {ws : List Cond} {rm : Room} {Pc : Array Value → State → Prop} {Qc : Array Value → State → Outcome → State → Prop} {XC : String → State → State → Prop} {free : Addr → Prop} {Ts : List Cond} {own host : String} {As rest : List Value} {g : JFrame}
    (S : CallFix p m c cc nL s args Ts own) (hM : vx_Met l y ws rm Pc Qc XC mc ms free) (cw : va_CN R s args own index y host bytes maxL ret ws rm mc ms n ∧ (Cond.static y).before args s = true ∧ True) (hp : PreS s H Pc As)
    (hg : g.method = m) (hn : As.length = n) (hsize : g.locals.size = nL) (hstack : g.stack = As.reverse ++ rest) (hW : 2 * g.monitorRoom + (rest.map fun v => v.category).sum ≤ 8) (hdg : decode cc g.pc = .ok (.invokestatic index, 3)) (hf : cells + mc ≤ R.cells ∧ slots + ms ≤ R.slots) :
    vx_Run p l e R s m args below meth c H locs cells slots mc ms g rest (Qc As.toArray) XC free := by
  obtain ⟨⟨⟨hrc, hrs, hfr, hlo, hws, hcw⟩, hcode, hini, hy, hlen, hl⟩, hx1, hx2⟩ := cw
  have hK : vx_Back l R p e below s args y 3 8 (PreOf R mc ms Pc) (PostOf Qc mc ms free) (vx_Post XC mc ms free) := vx_back (bytes := bytes) (maxL := maxL) (ret := ret) hM hp.1 hrc hrs hfr hlo hws hcw (fun a' U hW => word_at hW (Or.inl (by first | rfl | simp [Cond.onTables, Cond.keeps, Cond.steady])) hini)
  obtain ⟨hx, hb, hml, ho, -⟩ := S
  have hPc := hp.2
  intro T hT X
  rcases vx_callSN X hx (bytes := bytes) (maxL := maxL) (ret := ret) ho hl hx1 hini hcode hy hK hg (hsize.trans hml.symm) (argsL := As) (rest := rest) (fun sig h => hn.trans (hlen sig h)) hstack hW (by rw [hb]; exact hdg)
    (fun vm₁ hW₁ => ⟨hf.1, hf.2, hPc (T.setVm vm₁) hT hW₁⟩) with ⟨v, vm₁, ⟨U', l2, c2, s2⟩, hW₁, X', ⟨g', mk, t, L, e1, e2, hq, h1, hL, h2, h3⟩, st⟩ | ⟨q, vm₁, ⟨U', l2, c2, s2⟩, hW₁, X', ⟨g', mk, t, L, E, ce, e1, e2, hq, hce, hcv, hcl, h1, hL, h2, h3⟩, st⟩
  · dsimp only [Pt.U, Pt.locs, Pt.cells, Pt.slots] at X' e1 e2 h1 h2 h3 st
    subst h1; subst h2; subst h3
    exact Or.inl ⟨v, (T.setVm vm₁).calling g' mk As.toArray, t, U', L, hT, X', hL, e1, e2, hq, st⟩
  · dsimp only [Pt.U, Pt.locs, Pt.cells, Pt.slots] at X' e1 e2 h1 h2 h3 st hcl
    subst h1; subst h2; subst h3
    exact Or.inr ⟨q, (T.setVm vm₁).calling g' mk As.toArray, t, U', L, E, ce, hT, X', hL, e1, e2, hq, hce, hcv, vx_cls hW₁ hcl, st⟩
end
/-! ===== END ===== -/
section KROWS4
variable {sh : KSh} {l : Launch} {M : KM} {k n pc : Nat} {lo : List (Nat × Value)} {st : List Value} {σ : Sto} {o : KO}
theorem kgS0 {y : MethodName} {w0 : Cond} (h5 : w0 ∈ kg) : GoodIn kg (w0 :: kg) := by
  intro w hw
  rcases List.mem_cons.mp hw with rfl | hw
  · exact kgood h5
  · exact kgood hw
/-- the script's reader: a private static method of the host -/
theorem kv_cSN {α β : Type} {f : Option α} {K : α → Option β} {res : β} {M' : KM} (As : List Value) (conv : α → KO) (stk2 : α → List Value) (σ2 : α → Sto) (pc2 k2 n2 : Nat) {stk : List Value} (h : f.bind K = some res) (hc : ∀ r, f = some r → CT sh l M' yL_pick As σ (conv r)) (hd : decode M.2.1 pc = .ok (.invokestatic 17, 3)) (hst : stk = As.reverse ++ st)
    (hy : KMS yL_pick M' As.length) (hM1 : M.1 = RX7)
    (hR : M'.2.2.2.2.1.frames + 1 ≤ M.2.2.2.2.1.frames ∧ 8 + (M'.2.2.1 + 11) + M'.2.2.2.2.1.locals ≤ M.2.2.2.2.1.locals) (hcat : (st.map fun v => v.category).sum ≤ 8) (hf : k + M'.2.2.2.2.2.1 ≤ M.2.2.2.2.1.cells ∧ n + M'.2.2.2.2.2.2 ≤ M.2.2.2.2.1.slots)
    (h2 : ∀ r, (krv M'.2.2.2.1 (conv r).2.1).toList ++ st = stk2 r) (h3 : ∀ r, (conv r).2.2 = σ2 r) (h4 : pc + 3 = pc2 ∧ k + M'.2.2.2.2.2.1 = k2 ∧ n + M'.2.2.2.2.2.2 = n2)
    (hx : ∀ r, K r = some res → (conv r).1 ≠ 0 → o.1 = (conv r).1 ∧ o.2.2 = (conv r).2.2 ∧ k + M'.2.2.2.2.2.1 ≤ M.2.2.2.2.2.1 ∧ n + M'.2.2.2.2.2.2 ≤ M.2.2.2.2.2.2)
    (kk : ∀ r, f = some r → (conv r).1 = 0 → K r = some res → VV sh l M k2 n2 pc2 lo (stk2 r) (σ2 r) o) : VV sh l M k n pc lo stk σ o := by
  cases hf0 : f with
  | none => rw [hf0] at h; cases h
  | some r =>
    rw [hf0] at h
    obtain ⟨rfl, rfl, rfl⟩ := h4
    intro E A p e s m args below meth c C H locs ls hW hS hl
    subst hst
    obtain ⟨hy0, hyr, hy1, hy3, hy4⟩ := hy
    have hC := C
    obtain ⟨hx0, hb, hml, hr, hown, hlocks, hts, het, hAs, hK, hst0⟩ := hC
    have hsub := kwa_sub hW hAs hS.1
    have hkk : (conv r).1 = 0 → VV sh l M (k + M'.2.2.2.2.2.1) (n + M'.2.2.2.2.2.2) (pc + 3) lo ((krv M'.2.2.2.1 (conv r).2.1).toList ++ st) (conv r).2.2 o := fun h0 => by
      rw [h2 r, h3 r]
      exact kk r hf0 h0 h
    refine kcall_end (M' := M') (o1 := conv r) (a := (As.map (kmv E)).toArray) C hW hS hl (vx_runSN (host := "KaleidoscopeBoxLaw") (own := RX7) (index := 17) (Ts := kg) (As := As.map (kmv E)) (rest := st.map (kmv E)) (y := yL_pick) (bytes := M'.2.1) (maxL := M'.2.2.1) (ret := M'.2.2.2.1) ⟨hx0, hb, hml, hM1 ▸ hown, hts⟩ (hc r hf0 E H.size) ⟨va_cnB As.length hts (kgS0 (y := yL_pick) hy4) rfl hyr.1 hyr.2 hK.2.2.2.2.2.2.2.2 (hts _ hy3) hy0 hR, hts _ hy1, trivial⟩
      ⟨kblind E sh As _ _, fun U hU hWU => ⟨rfl, by rw [hU], by rw [hU]; exact hW.call hWU, by rw [hU]; exact ((hK.kept hS.2.1).moved hWU).narrow hsub⟩⟩
      rfl (List.length_map _) hl.1 ?_ (lv_room (by rw [kcats]; exact hcat)) hd hf) (fun h0 => hx r h h0) hkk
    show List.map (kmv E) (As.reverse ++ st) = _
    rw [List.map_append, List.map_reverse]
theorem kv_cVn {α β : Type} {f : Option α} {K : α → Option β} {res : β} {M' : KM} {y : MethodName} {q ci ix : Nat} (As : List Value) (conv : α → KO) (stk2 : α → List Value) (σ2 : α → Sto) (pc2 k2 n2 : Nat) {stk : List Value} {C0 : String} {T0 : u_T} {N0 : Nat} (h : f.bind K = some res) (hc : ∀ r, f = some r → (conv r).1 = 0 → CT sh l M' y (.ref q :: As) σ (conv r)) (hd : decode M.2.1 pc = .ok (.invokevirtual ix, 3)) (hst : stk = As.reverse ++ .ref q :: st)
    (hs : sh q = .inl ci) (hcl : vwCl[ci]? = some (C0, T0, N0)) (hy : KMV y M' C0 As.length) (hlk : Cond.methodLink M.1 ix y ∈ kg)
    (hR : M'.2.2.2.2.1.frames + 1 ≤ M.2.2.2.2.1.frames ∧ 8 + (M'.2.2.1 + 11) + M'.2.2.2.2.1.locals ≤ M.2.2.2.2.1.locals) (hcat : (st.map fun v => v.category).sum ≤ 8) (hf : k + M'.2.2.2.2.2.1 ≤ M.2.2.2.2.1.cells ∧ n + M'.2.2.2.2.2.2 ≤ M.2.2.2.2.1.slots)
    (h2 : ∀ r, (krv M'.2.2.2.1 (conv r).2.1).toList ++ st = stk2 r) (h3 : ∀ r, (conv r).2.2 = σ2 r) (h4 : pc + 3 = pc2 ∧ k + M'.2.2.2.2.2.1 = k2 ∧ n + M'.2.2.2.2.2.2 = n2)
    (hx : ∀ r, K r = some res → (conv r).1 = 0)
    (kk : ∀ r, f = some r → (conv r).1 = 0 → K r = some res → VV sh l M k2 n2 pc2 lo (stk2 r) (σ2 r) o) : VV sh l M k n pc lo stk σ o := by
  cases hf0 : f with
  | none => rw [hf0] at h; cases h
  | some r =>
    rw [hf0] at h
    obtain ⟨rfl, rfl, rfl⟩ := h4
    have h00 := hx r h
    refine kv_callV (o1 := conv r) As (hc r hf0 h00) hd hst hs hcl hy hlk hR hcat hf (fun h0 => absurd h00 h0) (fun h0 => ?_)
    rw [h2 r, h3 r]
    exact kk r hf0 h0 h
theorem kv_cSn {α β : Type} {f : Option α} {K : α → Option β} {res : β} {M' : KM} {y : MethodName} {ix : Nat} (As : List Value) (conv : α → KO) (stk2 : α → List Value) (σ2 : α → Sto) (pc2 k2 n2 : Nat) {stk : List Value} (h : f.bind K = some res) (hc : ∀ r, f = some r → (conv r).1 = 0 → CT sh l M' y As σ (conv r)) (hd : decode M.2.1 pc = .ok (.invokestatic ix, 3)) (hst : stk = As.reverse ++ st)
    (hy : KMS y M' As.length) (hlk : Cond.methodLink M.1 ix y ∈ kg)
    (hR : M'.2.2.2.2.1.frames + 1 ≤ M.2.2.2.2.1.frames ∧ 8 + (M'.2.2.1 + 11) + M'.2.2.2.2.1.locals ≤ M.2.2.2.2.1.locals) (hcat : (st.map fun v => v.category).sum ≤ 8) (hf : k + M'.2.2.2.2.2.1 ≤ M.2.2.2.2.1.cells ∧ n + M'.2.2.2.2.2.2 ≤ M.2.2.2.2.1.slots)
    (h2 : ∀ r, (krv M'.2.2.2.1 (conv r).2.1).toList ++ st = stk2 r) (h3 : ∀ r, (conv r).2.2 = σ2 r) (h4 : pc + 3 = pc2 ∧ k + M'.2.2.2.2.2.1 = k2 ∧ n + M'.2.2.2.2.2.2 = n2)
    (hx : ∀ r, K r = some res → (conv r).1 = 0)
    (kk : ∀ r, f = some r → (conv r).1 = 0 → K r = some res → VV sh l M k2 n2 pc2 lo (stk2 r) (σ2 r) o) : VV sh l M k n pc lo stk σ o := by
  cases hf0 : f with
  | none => rw [hf0] at h; cases h
  | some r =>
    rw [hf0] at h
    obtain ⟨rfl, rfl, rfl⟩ := h4
    have h00 := hx r h
    refine kv_callS (o1 := conv r) As (hc r hf0 h00) hd hst hy hlk hR hcat hf (fun h0 => absurd h00 h0) (fun h0 => ?_)
    rw [h2 r, h3 r]
    exact kk r hf0 h0 h
end KROWS4
def EQ (E0 E : KE) : Prop := E.1 = E0.1 ∧ E.2.2 = E0.2.2 ∧ ∀ k, 1000 ≤ k → E.2.1 k = E0.2.1 k
theorem EQ.rf {E : KE} : EQ E E := ⟨rfl, rfl, fun _ _ => rfl⟩
theorem EQ.tr {E E1 E2 : KE} (h : EQ E E1) (h2 : EQ E1 E2) : EQ E E2 := ⟨h2.1.trans h.1, h2.2.1.trans h.2.1, fun k hk => (h2.2.2 k hk).trans (h.2.2 k hk)⟩
theorem nsh_e {sh sh' : KSh} (h : ∀ q, 1000 ≤ q → sh' q = sh q) {q : Nat} (hq : 1000 ≤ q) : nsh sh' q = nsh sh q := by unfold nsh; rw [h q hq]
theorem KST.eqs {E0 E : KE} {sh sh' : KSh} {A : Nat → Prop} {U : State} {H : Heap} (hE : EQ E0 E) (hs : ∀ q, 1000 ≤ q → sh' q = sh q) (h : KST E0 sh A U H) : KST E sh' A U H := by
  obtain ⟨h1, h2, h3, h4, h5, h6, h7, h8, h9⟩ := h
  have e := hE.2.2
  have d1 : dyb sh' = dyb sh := by
    unfold dyb
    rw [nsh_e hs (by omega)]
    exact List.map_congr_left fun i _ => by rw [nsh_e hs (by omega)]
  have d2 : ∀ t, ksbz sh' t = ksbz sh t := fun t => by unfold ksbz; rw [d1]
  have d3 : ∀ t, ktx sh' t = ktx sh t := fun t => by unfold ktx; rw [nsh_e hs (by omega)]
  have d4 : scl sh' = scl sh := nsh_e hs (by omega)
  have d5 : scx sh' = scx sh := by funext i; unfold scx; rw [nsh_e hs (by omega)]
  refine ⟨fun j hj => by rw [e (1000 + j) (by omega)]; exact h1 j hj, h2, h3, h4, ?_, fun j hj => ?_, h7, ?_, h9⟩
  · rw [show ksf E = ksf E0 by unfold ksf; rw [e 3001 (by omega), e 3000 (by omega)]]
    exact h5
  · have h9 := h6 j (by rw [← d3]; exact hj)
    unfold KSS at h9 ⊢
    rw [e (2000 + j) (by omega), e (2100 + j) (by omega), d2]
    exact h9
  · rw [e 3100 (by omega), d4, d5]
    exact h8
/-- one place more: an array of ten ints -/
def kad (sh : KSh) : KSh := fun q => if q = 134 then .inr (0, 10) else sh q
theorem kad_134 (sh : KSh) : kad sh 134 = .inr (0, 10) := if_pos rfl
theorem kad_ne {sh : KSh} {q : Nat} (h : q ≠ 134) : kad sh q = sh q := if_neg h
theorem kad_hk {sh : KSh} (hk : KAG sh) : KAG (kad sh) := by
  refine ⟨fun q hq => ?_, fun q hq ci => ?_⟩
  · rw [kad_ne (by omega)]; exact hk.1 q hq
  · unfold kad
    split
    · exact fun h => by cases h
    · exact hk.2 q hq ci
def kE8 (E : KE) (a : Nat) : KE := (E.1, fun q => if q = 134 then a else E.2.1 q, E.2.2)
theorem kE8_ne {E : KE} {a q : Nat} (h : q ≠ 134) : (kE8 E a).2.1 q = E.2.1 q := if_neg h
theorem kE8_at {E : KE} {a : Nat} : (kE8 E a).2.1 134 = a := by
  show (if 134 = 134 then a else E.2.1 134) = a
  rw [if_pos rfl]
theorem kE8_eq {E : KE} {a : Nat} : EQ E (kE8 E a) := ⟨rfl, rfl, fun q hq => kE8_ne (by omega)⟩
theorem kpl_ad {sh : KSh} (h10 : sh 134 = .inr (2, 0)) : kpl (kad sh) = kpl sh ++ [134] := by
  unfold kpl
  rw [show List.range kNP = List.range 134 ++ [134] from List.range_succ, List.filter_append, List.filter_append]
  have e1 : List.filter (fun k => decide (sh k ≠ .inr (2, 0))) [134] = [] := by
    rw [List.filter_cons, if_neg (by rw [h10]; simp)]; rfl
  have e2 : List.filter (fun k => decide (kad sh k ≠ .inr (2, 0))) [134] = [134] := by
    rw [List.filter_cons, if_pos (by rw [kad_134]; decide)]; rfl
  rw [e1, e2, List.append_nil]
  exact congrArg (fun x => x ++ [134]) (List.filter_congr fun q hq => by rw [kad_ne (by have := List.mem_range.mp hq; omega)])
theorem kpl_ns {sh : KSh} (h10 : sh 134 = .inr (2, 0)) {q : Nat} (hq : q ∈ kpl sh) : q < 134 := by
  have h1 := List.mem_filter.mp hq
  have h2 : q < 135 := List.mem_range.mp h1.1
  have h3 := of_decide_eq_true h1.2
  rcases Nat.lt_or_ge q 134 with h | h
  · exact h
  · exact absurd (by rw [show q = 134 by omega]; exact h10) h3
/-- no field leads to place 134 -/
theorem kpo_134 : ∀ q, q < 134 → ∀ ci, ci < 8 → ksh q = .inl ci → ∀ i, i < 15 → kpo ci i ≠ some (134 - q) := by decide +kernel
theorem kpo_none {ci i : Nat} (h : ¬ (ci < 8 ∧ i < 15)) : kpo ci i = none := by
  unfold kpo
  by_cases h1 : ci < 8
  · have h2 : 15 ≤ i := by omega
    have h3 : ∀ c, c < 8 → (kpol.getD c []).length ≤ 15 := by decide
    rw [List.getD_eq_getElem?_getD, List.getElem?_eq_none (Nat.le_trans (h3 ci h1) h2)]
    rfl
  · have : kpol.getD ci [] = [] := by
      rw [List.getD_eq_getElem?_getD, List.getElem?_eq_none (show kpol.length ≤ ci from Nat.le_of_not_lt h1)]
      rfl
    rw [this]
    rfl
theorem kce_ad {E : KE} {sh : KSh} (hk : KAG sh) {σ σ' : Sto} {a q : Nat} (hq : q < 134) (hσ : σ' q = σ q) : kce (kE8 E a) (kad sh) σ' q = kce E sh σ q := by
  have hs : kad sh q = ksh q := by rw [kad_ne (by omega)]; exact hk.1 q hq
  have hs' : sh q = ksh q := hk.1 q hq
  unfold kce
  rw [hs, hs', hσ]
  cases hx : ksh q with
  | inl ci =>
    refine congrArg (fun x => Sum.inr (ci, x)) (List.map_congr_left fun i _ => ?_)
    unfold kfv
    rw [hσ]
    cases hp : kpo ci i with
    | none => rfl
    | some d =>
      by_cases hc : ci < 8 ∧ i < 15
      · have := kpo_134 q hq ci hc.1 hx i hc.2
        refine congrArg Value.ref (kE8_ne fun h9 => this ?_)
        rw [hp, ← h9, Nat.add_sub_cancel_left]
      · rw [kpo_none hc] at hp
        cases hp
  | inr y =>
    obtain ⟨t, N⟩ := y
    match t with
    | 0 => rfl
    | 1 => rfl
    | 2 => rfl
    | b + 3 =>
      have hb : ∀ z, z < 134 → ∀ y, ksh z = .inr y → y.1 = 0 ∨ y.1 = 1 ∨ y.1 = 43 ∨ y.1 = 115 := by
        have : ∀ z, z < 134 → (match ksh z with | .inr y => decide (y.1 = 0) || (decide (y.1 = 1) || (decide (y.1 = 43) || decide (y.1 = 115))) | .inl _ => true) = true := by decide +kernel
        intro z hz y hy
        have h9 := this z hz
        rw [hy] at h9
        simpa using h9
      have hb' := hb q hq _ hx
      refine congrArg (fun f => Sum.inl ((kE8 E a).2.2 3, N, Sum.inr (Sum.inr (Sum.inr (Sum.inr f))))) (funext fun j => congrArg some (kE8_ne ?_))
      have h9 : b + 3 = 0 ∨ b + 3 = 1 ∨ b + 3 = 43 ∨ b + 3 = 115 := hb'
      omega
theorem kwl_ad {E : KE} {sh : KSh} (hk : KAG sh) (h10 : sh 134 = .inr (2, 0)) {σ σ' : Sto} {a : Nat} (hσ : ∀ q, q < 134 → σ' q = σ q) : kwl (kE8 E a) (kad sh) σ' = kwl E sh σ ++ [(a, .inl (E.2.2 0, 10, .inl (σ' 134)))] := by
  unfold kwl
  rw [kpl_ad h10, List.map_append]
  rw [show [134].map (fun k => ((kE8 E a).2.1 k, kce (kE8 E a) (kad sh) σ' k)) = [((kE8 E a).2.1 134, kce (kE8 E a) (kad sh) σ' 134)] from rfl, kce_i (kad_134 sh), kE8_at]
  refine congrArg (fun x => x ++ _) (List.map_congr_left fun q hq => ?_)
  have hq := kpl_ns h10 hq
  rw [kE8_ne (by omega), kce_ad hk hq (hσ q hq)]
theorem WD.less {E : KE} {sh : KSh} (hk : KAG sh) (h10 : sh 134 = .inr (2, 0)) {A : Nat → Prop} {σ : Sto} {U : State} {H : Heap} {a : Nat} (h : WD (kE8 E a) (kad sh) A σ U H) : WD E sh A σ U H := by
  obtain ⟨h1, h2, h3, h4⟩ := h
  rw [kwl_ad (σ := σ) hk h10 (fun _ _ => rfl)] at h1 h3
  refine ⟨fun k x hx => h1 k x ?_, h2, ⟨fun i j x y hx hy hxy => h3.1 i j x y ?_ ?_ hxy, fun k x hx => h3.2 k x ?_⟩, fun q hq => ?_⟩
  · rw [List.getElem?_append_left (List.getElem?_eq_some_iff.mp hx).1]; exact hx
  · rw [List.getElem?_append_left (List.getElem?_eq_some_iff.mp hx).1]; exact hx
  · rw [List.getElem?_append_left (List.getElem?_eq_some_iff.mp hy).1]; exact hy
  · rw [List.getElem?_append_left (List.getElem?_eq_some_iff.mp hx).1]; exact hx
  · obtain ⟨n, hn⟩ := h4 q hq
    refine ⟨n, ?_⟩
    rw [← hn, kad_ne (by have : kNP = 135 := rfl; omega)]
theorem kmv_8 {E : KE} {a : Nat} {v : Value} (h : v ≠ .ref 134) : kmv (kE8 E a) v = kmv E v := by
  cases v with
  | ref q => exact congrArg Value.ref (kE8_ne fun c => h (by rw [c]))
  | null =>
    show ksf _ = ksf _
    unfold ksf
    rw [kE8_ne (by omega), kE8_ne (by omega)]
  | _ => rfl
theorem W.mono' {p : Program} {l : Launch} {e : Env} {R : Room} {s : State} {m : MethodId} {args : Array Value} {below : List Frame} {meth : Method} {c : Code} {H : Heap} {locs : List Loc} {k n : Nat} {Q Q' : State → Prop} {g : JFrame} (hQ : ∀ t, Q t → Q' t) (h : W p l e R s m args below meth c H locs k n Q g) : W p l e R s m args below meth c H locs k n Q' g := by
  intro T hT X
  obtain ⟨t, h1, h2⟩ := h T hT X
  exact ⟨t, h1, hQ t h2⟩
section KROWS5
variable {sh : KSh} {l : Launch} {M : KM} {k n pc : Nat} {lo : List (Nat × Value)} {st : List Value} {σ : Sto} {o : KO}
theorem kv_newa (hk : KAG sh) (hd : decode M.2.1 pc = .ok (.newarray .int, 2)) (harr : Cond.arrayClass .int ∈ kg) (h10 : sh 134 = .inr (2, 0)) (hf : k + 1 ≤ M.2.2.2.2.1.cells ∧ n + 10 ≤ M.2.2.2.2.1.slots) (hlo : ∀ q ∈ lo, q.2 ≠ .ref 134) (hst : ∀ v ∈ st, v ≠ .ref 134) (ho : o.2.1 ≠ .ref 134)
    (kk : VV (kad sh) l M (k + 1) (n + 10) (pc + 2) lo (.ref 134 :: st) (sur σ 134 (fun _ => 0)) o) : VV sh l M k n pc lo (.int 10 :: st) σ o := by
  intro E A p e s m args below meth c C H locs ls hW hS hl
  obtain ⟨c1, c2, c3, c4, c5, c6, c7, c8, c9, c10, c11⟩ := C
  refine va_newaK (atype := .int) (N := 10) c1 c2 (c7 _ harr) rfl hd rfl (by decide) (by decide) (by decide) hf.1 hf.2 rfl fun H1 cA e1 z1 o1 hAr hNm => ?_
  have hcA : cA = E.2.2 0 := by
    have h := (hW.2.1.2 0 (E.2.2 0, .int) rfl).2
    exact Option.some.inj (hNm.symm.trans h)
  subst hcA
  have C' : KC l M (kE8 E H.size) (kad sh) A p s m args meth c := ⟨c1, c2, c3, c4, c5, c6, c7, c8, c9, KST.eqs kE8_eq (fun q hq => kad_ne (by omega)) c10, c11⟩
  have hS1 : va_S A s.heap H1 locs := ⟨Nat.le_trans hS.1 (by omega), fun x h1 h2 => (o1 x (Nat.lt_of_lt_of_le h1 hS.1)).trans (hS.2.1 x h1 h2), hS.2.2⟩
  have hP1 : va_P E.1 vwCl (kwl E sh σ ++ [(H.size, .inl (E.2.2 0, 10, .inl (fun _ => 0)))]) H1 := by
    refine (hW.1.kept (fun k x hx => o1 x.1 ((hW.1 k x hx).lt))).app (fun k x hx => ?_)
    have hz : k < 1 := (List.getElem?_eq_some_iff.mp hx).1
    rw [show k = 0 by omega] at hx
    cases hx
    exact e1
  have hD1 := hW.2.2.1.push (e := .inl (E.2.2 0, 10, .inl (fun _ => 0))) hW.1 rfl (c9 _ hS.1)
  have hW1 : WD (kE8 E H.size) (kad sh) A (sur σ 134 (fun _ => 0)) s H1 := by
    have hkw := kwl_ad (E := E) (a := H.size) hk h10 (σ := σ) (σ' := sur σ 134 (fun _ => 0)) (fun q hq => sur_o q (by omega))
    rw [sur_s] at hkw
    refine ⟨?_, hW.2.1, ?_, fun q hq => ?_⟩
    · rw [hkw]; exact hP1
    · rw [hkw]; exact hD1
    · obtain ⟨n, hn⟩ := hW.2.2.2 q hq
      exact ⟨n, by rw [kad_ne (by have : kNP = 135 := rfl; omega)]; exact hn⟩
  have hl1 : kml (kE8 E H.size) lo = kml E lo := List.map_congr_left fun q hq => by rw [kmv_8 (hlo q hq)]
  have hs1 : st.map (kmv (kE8 E H.size)) = st.map (kmv E) := List.map_congr_left fun v hv => kmv_8 (hst v hv)
  have h9 := kk (kE8 E H.size) A p e s m args below meth c C' H1 locs ls hW1 hS1 (by rw [hl1]; exact hl)
  rw [List.map_cons, hs1, show kmv (kE8 E H.size) (.ref 134) = .ref H.size from congrArg Value.ref kE8_at] at h9
  refine W.mono' (fun t ht => ?_) h9
  obtain ⟨o2, t1, t2, t3⟩ := ht
  refine ⟨o2, t1, t2, ?_⟩
  rcases t3 with ⟨⟨⟨a1, a2, a3⟩, a4⟩, a5⟩ | ⟨q, b1, b2⟩
  · refine .inl ⟨⟨⟨a1, by rw [a2, kmv_8 ho], WD.less hk h10 a3⟩, a4⟩, a5⟩
  · refine .inr ⟨q, b1, ?_⟩
    obtain ⟨E1, ce, L, ⟨⟨x1, x2, x3⟩, x4⟩, x5⟩ := b2
    exact ⟨E1, ce, L, ⟨⟨x1, x2, WD.less hk h10 x3⟩, x4⟩, x5⟩
end KROWS5
