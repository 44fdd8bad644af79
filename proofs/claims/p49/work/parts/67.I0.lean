/-! making objects: rows over a world that is a plain list of cells -/
def icA (h0 sz : Nat) : Nat → Prop := fun q => q = h0 ∨ sz ≤ q
/-- the places of sh, beyond them sh0 -/
def kxt (sh0 sh : KSh) : KSh := fun q => if q < 1000 then sh q else sh0 q
theorem kxt_lo {sh0 sh : KSh} {q : Nat} (h : q < 1000) : kxt sh0 sh q = sh q := if_pos h
theorem kxt_hi {sh0 sh : KSh} {q : Nat} (h : 1000 ≤ q) : kxt sh0 sh q = sh0 q := if_neg (by omega)
theorem kpl_xt (sh0 sh : KSh) : kpl (kxt sh0 sh) = kpl sh := List.filter_congr fun q hq => by rw [kxt_lo (by have := List.mem_range.mp hq; have : kNP = 135 := rfl; omega)]
theorem kwl_xt (sh0 : KSh) {E : KE} {sh : KSh} {σ : Sto} : kwl E (kxt sh0 sh) σ = kwl E sh σ := by
  unfold kwl
  rw [kpl_xt]
  refine List.map_congr_left fun q hq => ?_
  have h1 := List.mem_range.mp (List.mem_filter.mp hq).1
  have h2 : kNP = 135 := rfl
  unfold kce
  rw [kxt_lo (by omega)]
theorem kxt_z {sh0 sh : KSh} (hz0 : ∀ q, 1000 ≤ q → ∃ n, sh0 q = .inr (2, n)) (hz : ∀ q, kNP ≤ q → sh q = .inr (2, 0)) : ∀ q, kNP ≤ q → ∃ n, kxt sh0 sh q = .inr (2, n) := by
  intro q hq
  rcases Nat.lt_or_ge q 1000 with h | h
  · exact ⟨0, by rw [kxt_lo h]; exact hz q hq⟩
  · rw [kxt_hi h]; exact hz0 q h
theorem kxt_o {sh0 sh : KSh} (hz : ∀ q, kNP ≤ q → sh q = .inr (2, 0)) {q ci : Nat} (hs : sh q = .inl ci) : kxt sh0 sh q = .inl ci := by
  have h2 : kNP = 135 := rfl
  rcases Nat.lt_or_ge q kNP with h | h
  · rw [kxt_lo (by omega)]; exact hs
  · rw [hz q h] at hs; cases hs
/-- what a making asks of the tables that isn't among the plain words -/
def knw : List Cond := [.methodLinkNest RX6 36 yX4_init "KaleidoscopeBox", .methodLinkNest RX6 43 yX3_init "KaleidoscopeBox", .methodLinkNest RX6 53 yX0_init "KaleidoscopeBox", .methodLinkNest RX6 60 yX2_init "KaleidoscopeBox"]
def KNX (U : State) : Prop := va_AO "KaleidoscopeBox$State" U ∧ ∀ w ∈ knw, w.before #[] U = true
theorem KNX.moved {u U : State} (hW : u.WarmedH U.vm) (h : KNX u) : KNX U := by
  refine ⟨va_AO.moved hW.alike h.1, fun w hw => ?_⟩
  have h9 := h.2 w hw
  unfold knw at hw
  rcases List.mem_cons.mp hw with rfl | hw
  · exact va_Nw.warmM hW h9
  rcases List.mem_cons.mp hw with rfl | hw
  · exact va_Nw.warmM hW h9
  rcases List.mem_cons.mp hw with rfl | hw
  · exact va_Nw.warmM hW h9
  rcases List.mem_cons.mp hw with rfl | hw
  · exact va_Nw.warmM hW h9
  cases hw
theorem kty_eq {E0 E : KE} (hE : EQ E0 E) : kty E = kty E0 := by unfold kty; rw [hE.2.1]
def IX (l : Launch) (E0 : KE) (sh0 : KSh) (own : String) (cc : ByteArray) (nL : Nat) (A : Nat → Prop) (p : Program) (s : State) (m : MethodId) (args : Array Value) (c : Code) : Prop :=
  p.tables.exec = Jvm.exec ∧ c.code = cc ∧ c.maxLocals = nL ∧ s.vm.findClass own = some m.cls ∧ (∀ w ∈ kg, w.before args s = true) ∧ (∀ q, s.heap.size ≤ q → A q) ∧ va_K E0.1 vwCl (kty E0) s ∧ KST E0 sh0 A s s.heap ∧ l.stackTraces = false ∧ KNX s
def IW (l : Launch) (E0 : KE) (A : Nat → Prop) (p : Program) (e : Env) (R : Room) (s : State) (m : MethodId) (args : Array Value) (below : List Frame) (meth : Method) (c : Code) (nL : Nat) (Q : State → Prop) (k n pc : Nat) (lo : List (Nat × Value)) (st : List Value) (ws : va_W) : Prop :=
  ∀ (H : Heap) (locs : List Loc) (ls : Array Slot), va_P E0.1 vwCl ws H → va_D A ws → va_S A s.heap H locs → lv_has ls nL lo → W p l e R s m args below meth c H locs k n Q (F0 m pc ls st)
def ifs (ty : Nat → FieldType) (N : Nat) : List Value := (List.range N).map fun j => defaultValue (ty j)
theorem ifs_ok {ty : Nat → FieldType} {N j : Nat} (hj : j < N) : defaultValue (ty j) = vp_V (ifs ty N) j := by
  unfold vp_V ifs
  rw [List.getD_eq_getElem?_getD, List.getElem?_map, List.getElem?_range hj]
  rfl
theorem ic_join {A0 : Nat → Prop} {D : va_G} {ws w1 : va_W} {q : Nat} {e : va_E} {H H1 : Heap} (hP : va_P D vwCl (ws ++ [(q, e)]) H) (hD : va_D A0 (ws ++ [(q, e)])) (hk : ∀ a : Nat, a < H.size → ¬ icA q H.size a → H1[a]? = H[a]?) (hF : ∀ a, icA q H.size a → A0 a) (hP1 : va_P D vwCl w1 H1) (hD1 : va_D (icA q H.size) w1) : va_P D vwCl (ws ++ w1) H1 ∧ va_D A0 (ws ++ w1) := by
  have key : ∀ (k : Nat) (x : Nat × va_E), ws[k]? = some x → x.1 < H.size ∧ x.1 ≠ q := by
    intro k x hx
    have hl := (List.getElem?_eq_some_iff.mp hx).1
    have h1 : (ws ++ [(q, e)])[k]? = some x := by rw [List.getElem?_append_left hl]; exact hx
    refine ⟨(hP k x h1).lt, fun h => ?_⟩
    have h2 : (ws ++ [(q, e)])[ws.length]? = some (q, e) := by simp
    have := hD.1 k ws.length x (q, e) h1 h2 h
    omega
  have hapart : ∀ (k : Nat) (x : Nat × va_E), ws[k]? = some x → ¬ icA q H.size x.1 := by
    intro k x hx h
    obtain ⟨g1, g2⟩ := key k x hx
    rcases h with h | h
    · exact g2 h
    · exact absurd g1 (Nat.not_lt.mpr h)
  have hP0 : va_P D vwCl ws H := fun k x hx => hP k x (by rw [List.getElem?_append_left (List.getElem?_eq_some_iff.mp hx).1]; exact hx)
  have hD0 : va_D A0 ws := ⟨fun i j x y hx hy h => hD.1 i j x y (by rw [List.getElem?_append_left (List.getElem?_eq_some_iff.mp hx).1]; exact hx) (by rw [List.getElem?_append_left (List.getElem?_eq_some_iff.mp hy).1]; exact hy) h, fun k x hx => hD.2 k x (by rw [List.getElem?_append_left (List.getElem?_eq_some_iff.mp hx).1]; exact hx)⟩
  refine ⟨(hP0.kept (fun k x hx => hk x.1 (key k x hx).1 (hapart k x hx))).app hP1, hD0.app (hD1.weaken (fun _ _ _ h => hF _ h)) (fun i j x y hx hy hxy => hapart i x hx (by rw [hxy]; exact hD1.2 j y hy))⟩
/-- a constructor's contract: from the bare object to a world of the shape shX about it -/
def IC (l : Launch) (sh0 : KSh) (y : MethodName) (M : KM) (ci : Nat) (fs0 : List Value) (shX : KSh) (z : Nat) (F : Sto → Prop) : Prop :=
  ∀ (E0 : KE) (h0 sz : Nat), Met l y (Cond.code y M.2.1 M.2.2.1 none :: kg) M.2.2.2.2.1
    (va_Pc [.ref h0] (fun U => U.heap.size = sz ∧ va_P E0.1 vwCl [(h0, .inr (ci, fs0))] U.heap ∧ va_K E0.1 vwCl (kty E0) U ∧ KST E0 sh0 (icA h0 sz) U U.heap ∧ KNX U))
    (va_Qv (fun x : KE × Sto => EQ E0 x.1 ∧ x.1.2.1 z = h0 ∧ F x.2) (fun x t => va_P E0.1 vwCl (kwl x.1 shX x.2) t.heap ∧ va_D (icA h0 sz) (kwl x.1 shX x.2)) (icA h0 sz)) M.2.2.2.2.2.1 M.2.2.2.2.2.2 (icA h0 sz)
def KMI (y : MethodName) (M : KM) : Prop := y.name = "<init>" ∧ (y.cls ≠ "java/lang/invoke/MethodHandle" ∧ y.cls ≠ "java/lang/invoke/VarHandle" ∧ (parseMethodDescriptor y.desc).map (fun d => d.parameters.length) = some 0) ∧ (M.2.2.2.2.1.cells = M.2.2.2.2.2.1 ∧ M.2.2.2.2.1.slots = M.2.2.2.2.2.2) ∧
  Cond.instanceMethod y ∈ kg ∧ Cond.initialized y.cls ∈ kg ∧ Cond.code y M.2.1 M.2.2.1 none ∈ kg
section IROWS
variable {l : Launch} {E0 : KE} {sh0 : KSh} {own : String} {cc : ByteArray} {nL : Nat} {A : Nat → Prop} {p : Program} {e : Env} {R : Room} {s : State} {m : MethodId} {args : Array Value} {below : List Frame} {meth : Method} {c : Code} {Q : State → Prop} {k n pc : Nat} {lo : List (Nat × Value)} {st : List Value} {ws : va_W}
theorem ii_iconst {a : Int} {v : Int32} (C : IX l E0 sh0 own cc nL A p s m args c) (hd : decode cc pc = .ok (.iconst a, 1)) (hv : Int32.ofInt a = v) (kk : IW l E0 A p e R s m args below meth c nL Q k n (pc + 1) lo (.int v :: st) ws) : IW l E0 A p e R s m args below meth c nL Q k n pc lo st ws :=
  fun H locs ls hP hD hS hl => lv_iconst C.1 C.2.1 hd hv (kk H locs ls hP hD hS hl)
theorem ii_bipush {a : Int} {v : Int32} (C : IX l E0 sh0 own cc nL A p s m args c) (hd : decode cc pc = .ok (.bipush a, 2)) (hv : (Int8.ofInt a).toInt32 = v) (kk : IW l E0 A p e R s m args below meth c nL Q k n (pc + 2) lo (.int v :: st) ws) : IW l E0 A p e R s m args below meth c nL Q k n pc lo st ws :=
  fun H locs ls hP hD hS hl => lv_bipush C.1 C.2.1 hd hv (kk H locs ls hP hD hS hl)
theorem ii_sipush {a : Int} {v : Int32} (C : IX l E0 sh0 own cc nL A p s m args c) (hd : decode cc pc = .ok (.sipush a, 3)) (hv : (Int16.ofInt a).toInt32 = v) (kk : IW l E0 A p e R s m args below meth c nL Q k n (pc + 3) lo (.int v :: st) ws) : IW l E0 A p e R s m args below meth c nL Q k n pc lo st ws :=
  fun H locs ls hP hD hS hl => lv_sipush C.1 C.2.1 hd hv (kk H locs ls hP hD hS hl)
theorem ii_dup {q : Nat} (C : IX l E0 sh0 own cc nL A p s m args c) (hd : decode cc pc = .ok (.dup, 1)) (kk : IW l E0 A p e R s m args below meth c nL Q k n (pc + 1) lo (.ref q :: .ref q :: st) ws) : IW l E0 A p e R s m args below meth c nL Q k n pc lo (.ref q :: st) ws :=
  fun H locs ls hP hD hS hl => lv_dup C.1 C.2.1 hd rfl (kk H locs ls hP hD hS hl)
theorem ii_aload_n {f : Fin 4} {x i : Nat} (C : IX l E0 sh0 own cc nL A p s m args c) (j : Nat) (hd : decode cc pc = .ok (.aload_n f, 1)) (hi : (f : Nat) = i) (hl : lo[j]? = some (i, .ref x)) (kk : IW l E0 A p e R s m args below meth c nL Q k n (pc + 1) lo (.ref x :: st) ws) : IW l E0 A p e R s m args below meth c nL Q k n pc lo st ws :=
  fun H locs ls hP hD hS hL => lv_aload_n C.1 C.2.1 hd hi (lv_at hL j hl) (kk H locs ls hP hD hS hL)
theorem ii_iload_n {f : Fin 4} {x : Int32} {i : Nat} (C : IX l E0 sh0 own cc nL A p s m args c) (j : Nat) (hd : decode cc pc = .ok (.iload_n f, 1)) (hi : (f : Nat) = i) (hl : lo[j]? = some (i, .int x)) (kk : IW l E0 A p e R s m args below meth c nL Q k n (pc + 1) lo (.int x :: st) ws) : IW l E0 A p e R s m args below meth c nL Q k n pc lo st ws :=
  fun H locs ls hP hD hS hL => lv_iload_n C.1 C.2.1 hd hi (lv_at hL j hl) (kk H locs ls hP hD hS hL)
theorem ii_goto {off : Int} {tgt : Nat} (C : IX l E0 sh0 own cc nL A p s m args c) (hd : decode cc pc = .ok (.goto off, 3)) (ht : (pc : Int) + off = (tgt : Int)) (kk : IW l E0 A p e R s m args below meth c nL Q k n tgt lo st ws) : IW l E0 A p e R s m args below meth c nL Q k n pc lo st ws :=
  fun H locs ls hP hD hS hl => lv_goto C.1 C.2.1 hd ht (kk H locs ls hP hD hS hl)
theorem ii_icmp_ge {x y : Int32} {off : Int} {tgt : Nat} (C : IX l E0 sh0 own cc nL A p s m args c) (hd : decode cc pc = .ok (.if_icmp .ge off, 3)) (ht : (pc : Int) + off = (tgt : Int)) (kt : y ≤ x → IW l E0 A p e R s m args below meth c nL Q k n tgt lo st ws) (kf : ¬ y ≤ x → IW l E0 A p e R s m args below meth c nL Q k n (pc + 3) lo st ws) : IW l E0 A p e R s m args below meth c nL Q k n pc lo (.int y :: .int x :: st) ws :=
  fun H locs ls hP hD hS hl => lv_icmp_ge C.1 C.2.1 hd ht (fun h => kt h H locs ls hP hD hS hl) (fun h => kf h H locs ls hP hD hS hl)
theorem ii_istore_n {f : Fin 4} {x : Int32} {i : Nat} (C : IX l E0 sh0 own cc nL A p s m args c) (lo' : List (Nat × Value)) (hd : decode cc pc = .ok (.istore_n f, 1)) (hi : (f : Nat) = i) (hn : i < nL) (hl : (i, Value.int x) :: lo.filter (fun q => !(q.1 == i) && !(q.1 + 1 == i && q.2.category == 2)) = lo') (kk : IW l E0 A p e R s m args below meth c nL Q k n (pc + 1) lo' st ws) : IW l E0 A p e R s m args below meth c nL Q k n pc lo (.int x :: st) ws :=
  fun H locs ls hP hD hS hL => lv_istore_n C.1 C.2.1 hd hi hL hn hl (fun ls' hL' => kk H locs ls' hP hD hS hL')
theorem ii_astore_n {f : Fin 4} {x i : Nat} (C : IX l E0 sh0 own cc nL A p s m args c) (lo' : List (Nat × Value)) (hd : decode cc pc = .ok (.astore_n f, 1)) (hi : (f : Nat) = i) (hn : i < nL) (hl : (i, Value.ref x) :: lo.filter (fun q => !(q.1 == i) && !(q.1 + 1 == i && q.2.category == 2)) = lo') (kk : IW l E0 A p e R s m args below meth c nL Q k n (pc + 1) lo' st ws) : IW l E0 A p e R s m args below meth c nL Q k n pc lo (.ref x :: st) ws :=
  fun H locs ls hP hD hS hL => lv_astore_n C.1 C.2.1 hd hi hL hn hl (fun ls' hL' => kk H locs ls' hP hD hS hL')
theorem ii_iinc {a : Int} {x v : Int32} {i : Nat} (C : IX l E0 sh0 own cc nL A p s m args c) (j : Nat) (lo' : List (Nat × Value)) (hd : decode cc pc = .ok (.iinc i a, 3)) (hj : lo[j]? = some (i, .int x)) (hv : x + Int32.ofInt a = v) (hn : i < nL) (hl : (i, Value.int v) :: lo.filter (fun q => !(q.1 == i) && !(q.1 + 1 == i && q.2.category == 2)) = lo') (kk : IW l E0 A p e R s m args below meth c nL Q k n (pc + 3) lo' st ws) : IW l E0 A p e R s m args below meth c nL Q k n pc lo st ws :=
  fun H locs ls hP hD hS hL => lv_iinc (k := j) C.1 C.2.1 hd hL hj hv hn hl (fun ls' hL' => kk H locs ls' hP hD hS hL')
theorem ii_objInit {ix q : Nat} (C : IX l E0 sh0 own cc nL A p s m args c) (hd : decode cc pc = .ok (.invokespecial ix, 3)) (hlk : Cond.methodLink own ix Lib.objectInit ∈ kg) (hi : Cond.instanceMethod Lib.objectInit ∈ kg) (hc : Cond.code Lib.objectInit ⟨#[0xb1]⟩ 1 none ∈ kg) (h1 : 1 ≤ R.frames) (h2 : (st.map fun v => v.category).sum + 12 ≤ R.locals) (kk : IW l E0 A p e R s m args below meth c nL Q k n (pc + 3) lo st ws) : IW l E0 A p e R s m args below meth c nL Q k n pc lo (.ref q :: st) ws := by
  intro H locs ls hP hD hS hl
  refine W.objInit C.1 C.2.1 C.2.2.2.1 (C.2.2.2.2.1 _ hlk) (C.2.2.2.2.1 _ hi) (C.2.2.2.2.1 _ hc) rfl (by rw [C.2.2.1]; exact hl.1) rfl hd h1 (by show 2 * 0 + _ + 12 ≤ _; omega) ?_
  exact W.eq (g2 := F0 m (pc + 3) ls st) rfl (kk H locs ls hP hD hS hl)
theorem ii_newI {v : Int32} {N : Nat} (C : IX l E0 sh0 own cc nL A p s m args c) (hd : decode cc pc = .ok (.newarray .int, 2)) (harr : Cond.arrayClass .int ∈ kg) (hv : kin v 100000 = true) (hN : v.toNatClampNeg = N) (hb : N * 4 ≤ 536870912) (hf : k + 1 ≤ R.cells ∧ n + N ≤ R.slots) (kk : ∀ q, IW l E0 A p e R s m args below meth c nL Q (k + 1) (n + N) (pc + 2) lo (.ref q :: st) (ws ++ [(q, .inl (E0.2.2 0, N, .inl (fun _ => 0)))])) : IW l E0 A p e R s m args below meth c nL Q k n pc lo (.int v :: st) ws := by
  intro H locs ls hP hD hS hl
  refine va_newaK (atype := .int) (N := N) C.1 C.2.1 (C.2.2.2.2.1 _ harr) rfl hd rfl (fun h => kin_in hv (.inl h)) hN hb hf.1 hf.2 rfl fun H1 cA e1 z1 o1 hAr hNm => ?_
  have hcA : cA = E0.2.2 0 := by
    have h := (C.2.2.2.2.2.2.1.2 0 (E0.2.2 0, .int) rfl).2
    exact Option.some.inj (hNm.symm.trans h)
  subst hcA
  refine kk H.size H1 locs ls ?_ (hD.push hP rfl (C.2.2.2.2.2.1 _ hS.1)) ⟨Nat.le_trans hS.1 (by omega), fun x h1 h2 => (o1 x (Nat.lt_of_lt_of_le h1 hS.1)).trans (hS.2.1 x h1 h2), hS.2.2⟩ hl
  refine (hP.kept (fun k x hx => o1 x.1 ((hP k x hx).lt))).app (fun k x hx => ?_)
  have hz : k < 1 := (List.getElem?_eq_some_iff.mp hx).1
  rw [show k = 0 by omega] at hx
  cases hx
  exact e1
theorem ii_newZ {v : Int32} {N : Nat} (C : IX l E0 sh0 own cc nL A p s m args c) (hd : decode cc pc = .ok (.newarray .boolean, 2)) (harr : Cond.arrayClass .boolean ∈ kg) (hv : kin v 100000 = true) (hN : v.toNatClampNeg = N) (hb : N * 4 ≤ 536870912) (hf : k + 1 ≤ R.cells ∧ n + N ≤ R.slots) (kk : ∀ q, IW l E0 A p e R s m args below meth c nL Q (k + 1) (n + N) (pc + 2) lo (.ref q :: st) (ws ++ [(q, .inl (E0.2.2 1, N, .inl (fun _ => 0)))])) : IW l E0 A p e R s m args below meth c nL Q k n pc lo (.int v :: st) ws := by
  intro H locs ls hP hD hS hl
  refine va_newaK (atype := .boolean) (N := N) C.1 C.2.1 (C.2.2.2.2.1 _ harr) rfl hd rfl (fun h => kin_in hv (.inl h)) hN (Nat.le_trans (Nat.mul_le_mul_left N (by decide)) hb) hf.1 hf.2 rfl fun H1 cA e1 z1 o1 hAr hNm => ?_
  have hcA : cA = E0.2.2 1 := by
    have h := (C.2.2.2.2.2.2.1.2 1 (E0.2.2 1, .boolean) rfl).2
    exact Option.some.inj (hNm.symm.trans h)
  subst hcA
  refine kk H.size H1 locs ls ?_ (hD.push hP rfl (C.2.2.2.2.2.1 _ hS.1)) ⟨Nat.le_trans hS.1 (by omega), fun x h1 h2 => (o1 x (Nat.lt_of_lt_of_le h1 hS.1)).trans (hS.2.1 x h1 h2), hS.2.2⟩ hl
  refine (hP.kept (fun k x hx => o1 x.1 ((hP k x hx).lt))).app (fun k x hx => ?_)
  have hz : k < 1 := (List.getElem?_eq_some_iff.mp hx).1
  rw [show k = 0 by omega] at hx
  cases hx
  exact e1
theorem ii_new {ci ix N : Nat} {C0 : String} {T0 : u_T} (ty0 : Nat → FieldType) (hty : ∀ k, k < N → parseFieldDescriptor (T0 k).2.2.1 = some (ty0 k)) (C : IX l E0 sh0 own cc nL A p s m args c) (hd : decode cc pc = .ok (.new ix, 3)) (hc : vwCl[ci]? = some (C0, T0, N)) (hcl : Cond.classLink own ix C0 ∈ kg) (hin : Cond.instantiable C0 N ∈ kg) (hini : Cond.initialized C0 ∈ kg) (hf : k + 1 ≤ R.cells ∧ n + N ≤ R.slots) (kk : ∀ q, IW l E0 A p e R s m args below meth c nL Q (k + 1) (n + N) (pc + 3) lo (.ref q :: st) (ws ++ [(q, .inr (ci, ifs ty0 N))])) : IW l E0 A p e R s m args below meth c nL Q k n pc lo st ws := by
  intro H locs ls hP hD hS hl
  exact va_new (D := E0.1) (ci := ci) (C := C0) (T := T0) (N := N) (fs := ifs ty0 N) C.1 C.2.1 C.2.2.2.2.1 (kcl_ws ci _ hc) ty0 hty C.2.2.2.1 (C.2.2.2.2.1 _ hcl) (C.2.2.2.2.1 _ hin) (C.2.2.2.2.1 _ hini) C.2.2.2.2.2.2.1 hP hD hS C.2.2.2.2.2.1 hc (fun j hj => ifs_ok hj) hf.1 hf.2 hd (fun q H1 hP1 hD1 hS1 => kk q H1 locs ls hP1 hD1 hS1 hl)
theorem ii_put {a ci i ix : Nat} {C0 : String} {T0 : u_T} {N0 : Nat} {v : Value} {ty : FieldType} (q0 : Nat) {fs : List Value} (ty0 : Nat → FieldType) (hty : ∀ k, k < N0 → parseFieldDescriptor (T0 k).2.2.1 = some (ty0 k)) (hnm : ∀ a, a < N0 → ∀ b, b < N0 → a ≠ b → (T0 a).2.1 ≠ (T0 b).2.1) (C : IX l E0 sh0 own cc nL A p s m args c) (hd : decode cc pc = .ok (.putfield ix, 3)) (he : ws[q0]? = some (a, .inr (ci, fs))) (hc : vwCl[ci]? = some (C0, T0, N0)) (hi : i < N0) (hlen : fs.length = N0) (hlk : Cond.fieldLink own ix (T0 i).1 (T0 i).2.1 (T0 i).2.2.1 ∈ kg) (hfin : (T0 i).2.2.2 = false) (hpd : parseFieldDescriptor (T0 i).2.2.1 = some ty) (hn : narrow ty v = v) (hf : fits ty v = true)
    (kk : IW l E0 A p e R s m args below meth c nL Q k n (pc + 3) lo st (ws.set q0 (a, .inr (ci, fs.set i v)))) : IW l E0 A p e R s m args below meth c nL Q k n pc lo (v :: .ref a :: st) ws := by
  intro H locs ls hP hD hS hl
  exact va_put (D := E0.1) (ci := ci) (v := v) (ty := ty) (C := C0) (T := T0) (N := N0) C.1 C.2.1 C.2.2.2.2.1 (kcl_ws ci _ hc) ty0 hty hnm C.2.2.2.1 C.2.2.2.2.2.2.1 hP hD hS q0 he hc i hi (C.2.2.2.2.1 _ hlk) (fun _ h9 => h9) hfin hpd hn hf (by omega) hd (fun H1 locs1 hP1 hD1 hS1 => kk H1 locs1 ls hP1 hD1 hS1 hl)
theorem ii_putF {a ci i ix : Nat} {C0 : String} {T0 : u_T} {N0 : Nat} {v : Value} {ty : FieldType} (q0 : Nat) {fs : List Value} (ty0 : Nat → FieldType) (hty : ∀ k, k < N0 → parseFieldDescriptor (T0 k).2.2.1 = some (ty0 k)) (hnm : ∀ a, a < N0 → ∀ b, b < N0 → a ≠ b → (T0 a).2.1 ≠ (T0 b).2.1) (C : IX l E0 sh0 own cc nL A p s m args c) (hin : meth.name = "<init>") (hd : decode cc pc = .ok (.putfield ix, 3)) (he : ws[q0]? = some (a, .inr (ci, fs))) (hc : vwCl[ci]? = some (C0, T0, N0)) (hi : i < N0) (hlen : fs.length = N0) (hlk : Cond.fieldLink own ix (T0 i).1 (T0 i).2.1 (T0 i).2.2.1 ∈ kg) (hfin : (T0 i).2.2.2 = true) (hdc : (T0 i).1 = own) (hpd : parseFieldDescriptor (T0 i).2.2.1 = some ty) (hn : narrow ty v = v) (hf : fits ty v = true)
    (kk : IW l E0 A p e R s m args below meth c nL Q k n (pc + 3) lo st (ws.set q0 (a, .inr (ci, fs.set i v)))) : IW l E0 A p e R s m args below meth c nL Q k n pc lo (v :: .ref a :: st) ws := by
  intro H locs ls hP hD hS hl
  exact va_putF (D := E0.1) (ci := ci) (v := v) (ty := ty) (C := C0) (T := T0) (N := N0) C.1 C.2.1 C.2.2.2.2.1 (kcl_ws ci _ hc) ty0 hty hnm C.2.2.2.1 C.2.2.2.2.2.2.1 hP hD hS q0 he hc i hi (C.2.2.2.2.1 _ hlk) (fun _ h9 => h9) hfin hin hdc hpd hn hf (by omega) hd (fun H1 locs1 hP1 hD1 hS1 => kk H1 locs1 ls hP1 hD1 hS1 hl)
theorem ii_get {a ci i ix : Nat} {C0 : String} {T0 : u_T} {N0 : Nat} {v : Value} (q0 : Nat) {fs : List Value} (C : IX l E0 sh0 own cc nL A p s m args c) (hd : decode cc pc = .ok (.getfield ix, 3)) (he : ws[q0]? = some (a, .inr (ci, fs))) (hc : vwCl[ci]? = some (C0, T0, N0)) (hi : i < N0) (hlk : Cond.fieldLink own ix (T0 i).1 (T0 i).2.1 (T0 i).2.2.1 ∈ kg) (hv : fs[i]? = some v)
    (kk : IW l E0 A p e R s m args below meth c nL Q k n (pc + 3) lo (v :: st) ws) : IW l E0 A p e R s m args below meth c nL Q k n pc lo (.ref a :: st) ws := by
  intro H locs ls hP hD hS hl
  exact va_get (D := E0.1) (ci := ci) (v := v) (C := C0) (T := T0) (N := N0) C.1 C.2.1 C.2.2.2.2.1 (kcl_ws ci _ hc) C.2.2.2.1 C.2.2.2.2.2.2.1 hP q0 he hc i hi (C.2.2.2.2.1 _ hlk) (fun _ h9 => h9) hv hd (kk H locs ls hP hD hS hl)
theorem ii_iast {a N : Nat} {f : Nat → Int32} {i x : Int32} (q0 : Nat) (C : IX l E0 sh0 own cc nL A p s m args c) (hd : decode cc pc = .ok (.iastore, 1)) (he : ws[q0]? = some (a, .inl (E0.2.2 0, N, .inl f))) (hin : kin i N = true)
    (kk : IW l E0 A p e R s m args below meth c nL Q k n (pc + 1) lo st (ws.set q0 (a, .inl (E0.2.2 0, N, .inl (upd f i.toNatClampNeg x))))) : IW l E0 A p e R s m args below meth c nL Q k n pc lo (.int x :: .int i :: .ref a :: st) ws := by
  intro H locs ls hP hD hS hl
  exact va_iast (D := E0.1) C.1 C.2.1 C.2.2.2.2.2.2.1 hP hD hS q0 0 he rfl (kin_in hin) hd (fun H1 locs1 hP1 hD1 hS1 => kk H1 locs1 ls hP1 hD1 hS1 hl)
theorem ic_pre {q : Nat} {ci : Nat} {fs0 : List Value} {H : Heap} {locs : List Loc} (C : IX l E0 sh0 own cc nL A p s m args c) (hP : va_P E0.1 vwCl (ws ++ [(q, .inr (ci, fs0))]) H) (hD : va_D A (ws ++ [(q, .inr (ci, fs0))])) (hS : va_S A s.heap H locs) :
    PreS s H (va_Pc [.ref q] (fun U => U.heap.size = H.size ∧ va_P E0.1 vwCl [(q, .inr (ci, fs0))] U.heap ∧ va_K E0.1 vwCl (kty E0) U ∧ KST E0 sh0 (icA q H.size) U U.heap ∧ KNX U)) [.ref q] ∧ ∀ a, icA q H.size a → A a := by
  have hq : (ws ++ [(q, (.inr (ci, fs0) : va_E))])[ws.length]? = some (q, .inr (ci, fs0)) := by simp
  have hA : ∀ a, icA q H.size a → A a := by
    intro a h
    rcases h with rfl | h
    · exact hD.2 _ _ hq
    · exact C.2.2.2.2.2.1 _ (Nat.le_trans hS.1 h)
  refine ⟨⟨fun a U g mk h => ⟨h.1, h.2.1, h.2.2.1, va_K.moved (u := U) (U := U.calling g mk a) (Vm.Alike.refl U.vm) h.2.2.2.1, KST.moved (u := U) (U := U.calling g mk a) (State.WarmedH.refl U) h.2.2.2.2.1, KNX.moved (u := U) (U := U.calling g mk a) (State.WarmedH.refl U) h.2.2.2.2.2⟩, fun U hU hW => ⟨rfl, by rw [hU], ?_, va_K.moved hW.alike C.2.2.2.2.2.2.1, by rw [hU]; exact (((C.2.2.2.2.2.2.2.1).kept hS.2.1).moved hW).narrow hA, KNX.moved hW C.2.2.2.2.2.2.2.2.2⟩⟩, hA⟩
  rw [hU]
  intro k x hx
  have hz : k < 1 := (List.getElem?_eq_some_iff.mp hx).1
  rw [show k = 0 by omega] at hx
  cases hx
  exact hP _ _ hq
theorem ii_init {y : MethodName} {M : KM} {ci ix q : Nat} {fs0 : List Value} {shX : KSh} {z : Nat} {F : Sto → Prop} (C : IX l E0 sh0 own cc nL A p s m args c) (hI : IC l sh0 y M ci fs0 shX z F) (hd : decode cc pc = .ok (.invokespecial ix, 3)) (hy : KMI y M) (hlk : Cond.methodLink own ix y ∈ kg) (hR : M.2.2.2.2.1.frames + 1 ≤ R.frames ∧ 8 + (M.2.2.1 + 11) + M.2.2.2.2.1.locals ≤ R.locals) (hcat : (st.map fun v => v.category).sum ≤ 8) (hf : k + M.2.2.2.2.2.1 ≤ R.cells ∧ n + M.2.2.2.2.2.2 ≤ R.slots)
    (kk : ∀ (E1 : KE) (σ1 : Sto), EQ E0 E1 → E1.2.1 z = q → F σ1 → IW l E0 A p e R s m args below meth c nL Q (k + M.2.2.2.2.2.1) (n + M.2.2.2.2.2.2) (pc + 3) lo st (ws ++ kwl E1 shX σ1)) : IW l E0 A p e R s m args below meth c nL Q k n pc lo (.ref q :: st) (ws ++ [(q, .inr (ci, fs0))]) := by
  intro H locs ls hP hD hS hl
  obtain ⟨hpre, hA⟩ := ic_pre C hP hD hS
  obtain ⟨y1, y2, y3, y4, y5, y6⟩ := hy
  have hG : GoodIn kg (Cond.code y M.2.1 M.2.2.1 none :: kg) := fun w hw => by
    rcases List.mem_cons.mp hw with rfl | hw
    · exact kgood y6
    · exact kgood hw
  have hts := C.2.2.2.2.1
  refine va_callv (va_runI (As := []) (rest := st) (n := 0) (nL := nL) (bytes := M.2.1) (maxL := M.2.2.1) ⟨C.1, C.2.1, C.2.2.1, C.2.2.2.1, hts⟩ (hI E0 q H.size) (cwI 0 hts hG rfl y3.1 y3.2 (hts _ y5) (hts _ hlk) (hts _ y4) y1 y2 hR) hpre rfl rfl hl.1 rfl (lv_room hcat) hd hf) hS (fun a _ h => hA a h) hA (fun x t H1 locs1 ht hvm hx hB hz1 hk1 hS1 => ?_)
  obtain ⟨b1, b2⟩ := hB
  rw [ht] at b1
  obtain ⟨j1, j2⟩ := ic_join hP hD hk1 hA b1 b2
  exact kk x.1 x.2 hx.1 hx.2.1 hx.2.2 H1 locs1 ls j1 j2 hS1 hl
theorem ii_initN {y : MethodName} {host : String} {M : KM} {ci ix q : Nat} {fs0 : List Value} {shX : KSh} {z : Nat} {F : Sto → Prop} (C : IX l E0 sh0 own cc nL A p s m args c) (hI : IC l sh0 y M ci fs0 shX z F) (hd : decode cc pc = .ok (.invokespecial ix, 3)) (hy : KMI y M) (hlk : Cond.methodLinkNest own ix y host ∈ knw) (hR : M.2.2.2.2.1.frames + 1 ≤ R.frames ∧ 8 + (M.2.2.1 + 11) + M.2.2.2.2.1.locals ≤ R.locals) (hcat : (st.map fun v => v.category).sum ≤ 8) (hf : k + M.2.2.2.2.2.1 ≤ R.cells ∧ n + M.2.2.2.2.2.2 ≤ R.slots)
    (kk : ∀ (E1 : KE) (σ1 : Sto), EQ E0 E1 → E1.2.1 z = q → F σ1 → IW l E0 A p e R s m args below meth c nL Q (k + M.2.2.2.2.2.1) (n + M.2.2.2.2.2.2) (pc + 3) lo st (ws ++ kwl E1 shX σ1)) : IW l E0 A p e R s m args below meth c nL Q k n pc lo (.ref q :: st) (ws ++ [(q, .inr (ci, fs0))]) := by
  intro H locs ls hP hD hS hl
  obtain ⟨hpre, hA⟩ := ic_pre C hP hD hS
  obtain ⟨y1, y2, y3, y4, y5, y6⟩ := hy
  have hG : GoodIn kg (Cond.code y M.2.1 M.2.2.1 none :: kg) := fun w hw => by
    rcases List.mem_cons.mp hw with rfl | hw
    · exact kgood y6
    · exact kgood hw
  have hts := C.2.2.2.2.1
  refine va_callv (va_runIN (As := []) (rest := st) (n := 0) (nL := nL) (host := host) (bytes := M.2.1) (maxL := M.2.2.1) ⟨C.1, C.2.1, C.2.2.1, C.2.2.2.1, hts⟩ (hI E0 q H.size) ⟨va_cnB 0 hts hG rfl y3.1 y3.2 (C.2.2.2.2.2.2.2.2.2.2 _ hlk) (hts _ y5) y2 hR, y1, hts _ y4⟩ hpre rfl rfl hl.1 rfl (lv_room hcat) hd hf) hS (fun a _ h => hA a h) hA (fun x t H1 locs1 ht hvm hx hB hz1 hk1 hS1 => ?_)
  obtain ⟨b1, b2⟩ := hB
  rw [ht] at b1
  obtain ⟨j1, j2⟩ := ic_join hP hD hk1 hA b1 b2
  exact kk x.1 x.2 hx.1 hx.2.1 hx.2.2 H1 locs1 ls j1 j2 hS1 hl
/-- the whole made: a world of a shape -/
theorem ii_wd {E : KE} {sh : KSh} {σ : Sto} {H : Heap} (C : IX l E0 sh0 own cc nL A p s m args c) (hE : EQ E0 E) (hz : ∀ q, kNP ≤ q → ∃ n, sh q = .inr (2, n)) (hP : va_P E0.1 vwCl (kwl E sh σ) H) (hD : va_D A (kwl E sh σ)) : WD E sh A σ s H := ⟨by rw [hE.1]; exact hP, by rw [hE.1, kty_eq hE]; exact C.2.2.2.2.2.2.1, hD, hz⟩
theorem ii_callV {E : KE} {sh : KSh} {σ : Sto} {M' : KM} {y : MethodName} {q ci ix : Nat} (As : List Value) {stk : List Value} {o1 : KO} {C0 : String} {T0 : u_T} {N0 : Nat} (C : IX l E0 sh0 own cc nL A p s m args c) (hE : EQ E0 E) (hz0 : ∀ q, 1000 ≤ q → ∃ n, sh0 q = .inr (2, n)) (hz : ∀ q, kNP ≤ q → sh q = .inr (2, 0)) (hc : CT (kxt sh0 sh) l M' y (.ref q :: As) σ o1) (h0 : o1.1 = 0) (hd : decode cc pc = .ok (.invokevirtual ix, 3)) (hst : stk = (As.map (kmv E)).reverse ++ .ref (E.2.1 q) :: st)
    (hs : sh q = .inl ci) (hcl : vwCl[ci]? = some (C0, T0, N0)) (hy : KMV y M' C0 As.length) (hlk : Cond.methodLink own ix y ∈ kg)
    (hR : M'.2.2.2.2.1.frames + 1 ≤ R.frames ∧ 8 + (M'.2.2.1 + 11) + M'.2.2.2.2.1.locals ≤ R.locals) (hcat : (st.map fun v => v.category).sum ≤ 8) (hf : k + M'.2.2.2.2.2.1 ≤ R.cells ∧ n + M'.2.2.2.2.2.2 ≤ R.slots)
    (kk : IW l E0 A p e R s m args below meth c nL Q (k + M'.2.2.2.2.2.1) (n + M'.2.2.2.2.2.2) (pc + 3) lo ((krv M'.2.2.2.1 (kmv E o1.2.1)).toList ++ st) (kwl E sh o1.2.2)) : IW l E0 A p e R s m args below meth c nL Q k n pc lo stk (kwl E sh σ) := by
  intro H locs ls hP hD hS hl
  subst hst
  rw [← kwl_xt sh0] at hP hD
  have hW := ii_wd C hE (kxt_z hz0 hz) hP hD
  obtain ⟨hy0, hyr, hy1, hy2, hy3, hy4⟩ := hy
  have hts := C.2.2.2.2.1
  obtain ⟨j0, hj0, -⟩ := kwl_at (E := E) σ (hW.at (kxt_o (sh0 := sh0) hz hs) (fun n h => by cases h))
  have hsub := kwa_sub hW C.2.2.2.2.2.1 hS.1
  have hK := KST.eqs hE (fun q hq => kxt_hi (sh := sh) hq) C.2.2.2.2.2.2.2.1
  have hrun := vx_runV (p := p) (l := l) (e := e) (R := R) (s := s) (m := m) (args := args) (below := below) (meth := meth) (c := c) (H := H) (locs := locs) (cells := k) (slots := n) (g := F0 m pc ls ((As.map (kmv E)).reverse ++ .ref (E.2.1 q) :: st)) (As := As.map (kmv E)) (rest := st) (b := E.2.1 q) (C := C0) (y := y) (bytes := M'.2.1) (maxL := M'.2.2.1) (ret := M'.2.2.2.1) (own := own) (index := ix) (nL := nL) ⟨C.1, C.2.1, C.2.2.1, C.2.2.2.1, hts⟩ (hc E H.size) (cwV As.length hts (kgV hlk hy1 hy2 hy3 hy4) rfl hyr.1 hyr.2 hy0 hR)
    ⟨kblind E (kxt sh0 sh) (.ref q :: As) _ _, va_recv (q0 := j0) hW.2.1 hW.1 hcl (hj0.trans (by rw [kce_o (kxt_o (sh0 := sh0) hz hs)])), fun U hU hWU => ⟨rfl, by rw [hU], by rw [hU]; exact hW.call hWU, by rw [hU]; exact ((hK.kept hS.2.1).moved hWU).narrow hsub⟩⟩
    rfl (List.length_map _) hl.1 rfl (lv_room hcat) hd hf
  refine kx_call (ret := M'.2.2.2.1) (o1 := o1) hrun hS (fun q _ h => hsub q h) hsub (fun h9 => absurd h0 h9) (fun _ t H1 locs1 hvm hw hS1 => ?_)
  have hw2 := WD.back hw hvm hsub
  exact kk H1 locs1 ls (by rw [← hE.1, ← kwl_xt sh0]; exact hw2.1) (by rw [← kwl_xt sh0]; exact hw2.2.2.1) hS1 hl
theorem ii_callS {E : KE} {sh : KSh} {σ : Sto} {M' : KM} {y : MethodName} {ix : Nat} (As : List Value) {stk : List Value} {o1 : KO} (C : IX l E0 sh0 own cc nL A p s m args c) (hE : EQ E0 E) (hz0 : ∀ q, 1000 ≤ q → ∃ n, sh0 q = .inr (2, n)) (hz : ∀ q, kNP ≤ q → sh q = .inr (2, 0)) (hc : CT (kxt sh0 sh) l M' y As σ o1) (h0 : o1.1 = 0) (hd : decode cc pc = .ok (.invokestatic ix, 3)) (hst : stk = (As.map (kmv E)).reverse ++ st)
    (hy : KMS y M' As.length) (hlk : Cond.methodLink own ix y ∈ kg)
    (hR : M'.2.2.2.2.1.frames + 1 ≤ R.frames ∧ 8 + (M'.2.2.1 + 11) + M'.2.2.2.2.1.locals ≤ R.locals) (hcat : (st.map fun v => v.category).sum ≤ 8) (hf : k + M'.2.2.2.2.2.1 ≤ R.cells ∧ n + M'.2.2.2.2.2.2 ≤ R.slots)
    (kk : IW l E0 A p e R s m args below meth c nL Q (k + M'.2.2.2.2.2.1) (n + M'.2.2.2.2.2.2) (pc + 3) lo ((krv M'.2.2.2.1 (kmv E o1.2.1)).toList ++ st) (kwl E sh o1.2.2)) : IW l E0 A p e R s m args below meth c nL Q k n pc lo stk (kwl E sh σ) := by
  intro H locs ls hP hD hS hl
  subst hst
  rw [← kwl_xt sh0] at hP hD
  have hW := ii_wd C hE (kxt_z hz0 hz) hP hD
  obtain ⟨hy0, hyr, hy1, hy3, hy4⟩ := hy
  have hts := C.2.2.2.2.1
  have hsub := kwa_sub hW C.2.2.2.2.2.1 hS.1
  have hK := KST.eqs hE (fun q hq => kxt_hi (sh := sh) hq) C.2.2.2.2.2.2.2.1
  have hrun := vx_runS (p := p) (l := l) (e := e) (R := R) (s := s) (m := m) (args := args) (below := below) (meth := meth) (c := c) (H := H) (locs := locs) (cells := k) (slots := n) (g := F0 m pc ls ((As.map (kmv E)).reverse ++ st)) (As := As.map (kmv E)) (rest := st) (y := y) (bytes := M'.2.1) (maxL := M'.2.2.1) (ret := M'.2.2.2.1) (own := own) (index := ix) (nL := nL) ⟨C.1, C.2.1, C.2.2.1, C.2.2.2.1, hts⟩ (hc E H.size) (va_cwS As.length hts (kgS hlk hy1 hy3 hy4) rfl hyr.1 hyr.2 hy0 hR)
    ⟨kblind E (kxt sh0 sh) As _ _, fun U hU hWU => ⟨rfl, by rw [hU], by rw [hU]; exact hW.call hWU, by rw [hU]; exact ((hK.kept hS.2.1).moved hWU).narrow hsub⟩⟩
    rfl (List.length_map _) hl.1 rfl (lv_room hcat) hd hf
  refine kx_call (ret := M'.2.2.2.1) (o1 := o1) hrun hS (fun q _ h => hsub q h) hsub (fun h9 => absurd h0 h9) (fun _ t H1 locs1 hvm hw hS1 => ?_)
  have hw2 := WD.back hw hvm hsub
  exact kk H1 locs1 ls (by rw [← hE.1, ← kwl_xt sh0]; exact hw2.1) (by rw [← kwl_xt sh0]; exact hw2.2.2.1) hS1 hl
end IROWS
/-- a constructor's body, walked from its first row -/
theorem ic_of {l : Launch} {sh0 : KSh} {y : MethodName} {M : KM} {ci : Nat} {fs0 : List Value} {shX : KSh} {z : Nat} {F : Sto → Prop} (hst : l.stackTraces = false) (hy : plainName y.cls = true) (hyc : y.cls = M.1) (hn : y.name = "<init>") (hL : 1 ≤ M.2.2.1)
    (body : ∀ (E0 : KE) (h0 : Nat) (A : Nat → Prop) (p : Program) (e : Env) (s : State) (m : MethodId) (below : List Frame) (meth : Method) (c : Code) (Q : State → Prop), IX l E0 sh0 M.1 M.2.1 M.2.2.1 A p s m #[.ref h0] c → meth.name = "<init>" →
      (∀ (E1 : KE) (σ1 : Sto) (pc : Nat) (lo : List (Nat × Value)), EQ E0 E1 → E1.2.1 z = h0 → F σ1 → decode M.2.1 pc = .ok (.return_, 1) → IW l E0 A p e M.2.2.2.2.1 s m #[.ref h0] below meth c M.2.2.1 Q M.2.2.2.2.2.1 M.2.2.2.2.2.2 pc lo [] (kwl E1 shX σ1)) →
      IW l E0 A p e M.2.2.2.2.1 s m #[.ref h0] below meth c M.2.2.1 Q 0 0 0 [(0, .ref h0)] [] [(h0, .inr (ci, fs0))]) : IC l sh0 y M ci fs0 shX z F := by
  intro E0 h0 sz
  refine Met.ofW (cc := M.2.1) (maxL := M.2.2.1) (ret := none) hy rfl ?_
  intro p e s m args below meth c s₁ B hml hv
  obtain ⟨rfl, hsz, hP, hK, hKS, hAO⟩ := hv
  subst hsz
  have hts0 := atoms_spec (ws := Cond.code y M.2.1 M.2.2.1 none :: kg) B.pre
  have hts : ∀ w ∈ kg, w.before #[Value.ref h0] s = true := fun w h => hts0 w (List.mem_cons_of_mem _ h)
  have hown : s.vm.findClass M.1 = some m.cls := hyc ▸ findClass_of_methodNamed B.named
  have hin : meth.name = "<init>" := (name_of_methodNamed B.named B.method).1.trans hn
  have hC : IX l E0 sh0 M.1 M.2.1 M.2.2.1 (icA h0 s.heap.size) p s m #[.ref h0] c := ⟨B.exec, B.bytes, hml, hown, hts, fun q h => .inr h, hK, hKS, hst, hAO⟩
  have hl := lv_entry ([.ref h0]) (n := M.2.2.1) hL
  rw [lg_entry_eq]
  have hD : va_D (icA h0 s.heap.size) [(h0, (.inr (ci, fs0) : va_E))] := by
    refine ⟨fun i j x y hx hy _ => ?_, fun k x hx => ?_⟩
    · have := (List.getElem?_eq_some_iff.mp hx).1
      have := (List.getElem?_eq_some_iff.mp hy).1
      simp only [List.length_cons, List.length_nil] at *
      omega
    · have hz : k < 1 := (List.getElem?_eq_some_iff.mp hx).1
      rw [show k = 0 by omega] at hx
      cases hx
      exact .inl rfl
  refine body E0 h0 (icA h0 s.heap.size) p e s m below meth c _ hC hin (fun E1 σ1 pc lo hE h1 hF hdr => ?_) s.heap [] _ hP hD va_S.rf hl
  intro H locs ls hP1 hD1 hS1 hl1
  exact W.vret B.exec B.bytes B.returns (fun t ht hW => ⟨⟨(E1, σ1), rfl, ⟨hE, h1, hF⟩, by rw [ht]; exact hP1, hD1⟩, hS1.F ht⟩) hS1.2.2 hdr B.notSynchronized
