/-! the law's own body: rows over one fixed start -/
def LCX (l : Launch) (E : KE) (p : Program) (s : State) (m : MethodId) (c : Code) (b L : Nat) (xs : Nat → Int32) : Prop :=
  p.tables.exec = Jvm.exec ∧ c.code = code ∧ c.maxLocals = 9 ∧ s.vm.findClass RL = some m.cls ∧ (∀ w ∈ kg, w.before #[Value.ref b] s = true) ∧ (va_X b L xs s s.heap ∧ b < s.heap.size) ∧ KST E (fun q : Nat => s.heap.size ≤ q) s s.heap ∧ XNC s ∧ l.stackTraces = false
def LW (l : Launch) (E : KE) (p : Program) (e : Env) (s : State) (m : MethodId) (below : List Frame) (meth : Method) (c : Code) (b : Nat) (Q : State → Prop) (k n pc : Nat) (lo : List (Nat × Value)) (st : List Value) (σ : Sto) : Prop :=
  ∀ (H : Heap) (locs : List Loc) (ls : Array Slot), WD E ksh (fun q : Nat => s.heap.size ≤ q) σ s H → va_S (fun q : Nat => s.heap.size ≤ q) s.heap H locs → lv_has ls 9 ((0, .ref b) :: kml E lo) → W p l e room_1 s m #[Value.ref b] below meth c H locs k n Q (F0 m pc ls (st.map (kmv E)))
section LROWS
variable {l : Launch} {E : KE} {p : Program} {e : Env} {s : State} {m : MethodId} {below : List Frame} {meth : Method} {c : Code} {b L : Nat} {xs : Nat → Int32} {Q : State → Prop} {k n pc : Nat} {lo : List (Nat × Value)} {st : List Value} {σ : Sto}
theorem lr_iconst {a : Int} {v : Int32} (C : LCX l E p s m c b L xs) (hd : decode code pc = .ok (.iconst a, 1)) (hv : Int32.ofInt a = v) (kk : LW l E p e s m below meth c b Q k n (pc + 1) lo (.int v :: st) σ) : LW l E p e s m below meth c b Q k n pc lo st σ :=
  fun H locs ls hW hS hl => lv_iconst C.1 C.2.1 hd hv (kk H locs ls hW hS hl)
theorem lr_bipush {a : Int} {v : Int32} (C : LCX l E p s m c b L xs) (hd : decode code pc = .ok (.bipush a, 2)) (hv : (Int8.ofInt a).toInt32 = v) (kk : LW l E p e s m below meth c b Q k n (pc + 2) lo (.int v :: st) σ) : LW l E p e s m below meth c b Q k n pc lo st σ :=
  fun H locs ls hW hS hl => lv_bipush C.1 C.2.1 hd hv (kk H locs ls hW hS hl)
theorem lr_iand {x y : Int32} (C : LCX l E p s m c b L xs) (hd : decode code pc = .ok (.iand, 1)) (kk : LW l E p e s m below meth c b Q k n (pc + 1) lo (.int (x &&& y) :: st) σ) : LW l E p e s m below meth c b Q k n pc lo (.int y :: .int x :: st) σ :=
  fun H locs ls hW hS hl => lv_iand C.1 C.2.1 hd (kk H locs ls hW hS hl)
theorem lr_isub {x y : Int32} (C : LCX l E p s m c b L xs) (hd : decode code pc = .ok (.isub, 1)) (kk : LW l E p e s m below meth c b Q k n (pc + 1) lo (.int (x - y) :: st) σ) : LW l E p e s m below meth c b Q k n pc lo (.int y :: .int x :: st) σ :=
  fun H locs ls hW hS hl => lv_isub C.1 C.2.1 hd (kk H locs ls hW hS hl)
theorem lr_i2l {x : Int32} (C : LCX l E p s m c b L xs) (hd : decode code pc = .ok (.i2l, 1)) (kk : LW l E p e s m below meth c b Q k n (pc + 1) lo (.long x.toInt64 :: st) σ) : LW l E p e s m below meth c b Q k n pc lo (.int x :: st) σ :=
  fun H locs ls hW hS hl => lv_i2l C.1 C.2.1 hd rfl (kk H locs ls hW hS hl)
theorem lr_f2d {x : UInt32} (C : LCX l E p s m c b L xs) (hd : decode code pc = .ok (.f2d, 1)) (hne : vf_n64 (FP.f2d x)) (kk : LW l E p e s m below meth c b Q k n (pc + 1) lo (.double (FP.f2d x) :: st) σ) : LW l E p e s m below meth c b Q k n pc lo (.float x :: st) σ :=
  fun H locs ls hW hS hl => lv_f2d C.1 C.2.1 hd hne (kk H locs ls hW hS hl)
theorem lr_dcmp {x y : UInt64} {op : CmpOp} (C : LCX l E p s m c b L xs) (hd : decode code pc = .ok (.dcmp op, 1)) (kk : LW l E p e s m below meth c b Q k n (pc + 1) lo (.int (Op.cmpValue (FP.dcmp x y) op) :: st) σ) : LW l E p e s m below meth c b Q k n pc lo (.double y :: .double x :: st) σ :=
  fun H locs ls hW hS hl => lv_dcmp C.1 C.2.1 hd (kk H locs ls hW hS hl)
theorem lr_lcmp {x y : Int64} (C : LCX l E p s m c b L xs) (hxy : x = y) (hd : decode code pc = .ok (.lcmp, 1)) (kk : LW l E p e s m below meth c b Q k n (pc + 1) lo (.int 0 :: st) σ) : LW l E p e s m below meth c b Q k n pc lo (.long y :: .long x :: st) σ := by
  subst hxy
  intro H locs ls hW hS hl
  refine W.lcmp C.1 C.2.1 hd ?_
  have : lg_cmp x x = 0 := by simp [lg_cmp]
  rw [this]
  exact kk H locs ls hW hS hl
theorem lr_goto {off : Int} {tgt : Nat} (C : LCX l E p s m c b L xs) (hd : decode code pc = .ok (.goto off, 3)) (ht : (pc : Int) + off = (tgt : Int)) (kk : LW l E p e s m below meth c b Q k n tgt lo st σ) : LW l E p e s m below meth c b Q k n pc lo st σ :=
  fun H locs ls hW hS hl => lv_goto C.1 C.2.1 hd ht (kk H locs ls hW hS hl)
theorem lr_if_eq {x : Int32} {off : Int} {tgt : Nat} (C : LCX l E p s m c b L xs) (hd : decode code pc = .ok (.ifCond .eq off, 3)) (ht : (pc : Int) + off = (tgt : Int)) (kt : x = 0 → LW l E p e s m below meth c b Q k n tgt lo st σ) (kf : ¬ x = 0 → LW l E p e s m below meth c b Q k n (pc + 3) lo st σ) : LW l E p e s m below meth c b Q k n pc lo (.int x :: st) σ :=
  fun H locs ls hW hS hl => lv_if_eq C.1 C.2.1 hd ht (fun h => kt h H locs ls hW hS hl) (fun h => kf h H locs ls hW hS hl)
theorem lr_if_ne {x : Int32} {off : Int} {tgt : Nat} (C : LCX l E p s m c b L xs) (hd : decode code pc = .ok (.ifCond .ne off, 3)) (ht : (pc : Int) + off = (tgt : Int)) (kt : ¬ x = 0 → LW l E p e s m below meth c b Q k n tgt lo st σ) (kf : x = 0 → LW l E p e s m below meth c b Q k n (pc + 3) lo st σ) : LW l E p e s m below meth c b Q k n pc lo (.int x :: st) σ :=
  fun H locs ls hW hS hl => lv_if_ne C.1 C.2.1 hd ht (fun h => kt h H locs ls hW hS hl) (fun h => kf h H locs ls hW hS hl)
theorem lr_icmp_eq {x y : Int32} {off : Int} {tgt : Nat} (C : LCX l E p s m c b L xs) (hxy : x = y) (hd : decode code pc = .ok (.if_icmp .eq off, 3)) (ht : (pc : Int) + off = (tgt : Int)) (kt : LW l E p e s m below meth c b Q k n tgt lo st σ) : LW l E p e s m below meth c b Q k n pc lo (.int y :: .int x :: st) σ :=
  fun H locs ls hW hS hl => lv_icmp_eq C.1 C.2.1 hd ht (fun _ => kt H locs ls hW hS hl) (fun h => absurd hxy h)
theorem lr_icmp_gt {x y : Int32} {off : Int} {tgt : Nat} (C : LCX l E p s m c b L xs) (hd : decode code pc = .ok (.if_icmp .gt off, 3)) (ht : (pc : Int) + off = (tgt : Int)) (kt : y < x → LW l E p e s m below meth c b Q k n tgt lo st σ) (kf : ¬ y < x → LW l E p e s m below meth c b Q k n (pc + 3) lo st σ) : LW l E p e s m below meth c b Q k n pc lo (.int y :: .int x :: st) σ :=
  fun H locs ls hW hS hl => lv_icmp_gt C.1 C.2.1 hd ht (fun h => kt h H locs ls hW hS hl) (fun h => kf h H locs ls hW hS hl)
theorem lr_widen (k' n' : Nat) (h1 : k ≤ k') (h2 : n ≤ n') (kk : LW l E p e s m below meth c b Q k' n' pc lo st σ) : LW l E p e s m below meth c b Q k n pc lo st σ :=
  fun H locs ls hW hS hl => W.widen h1 h2 (kk H locs ls hW hS hl)
theorem lr_sub (lo' : List (Nat × Value)) (js : List Nat) (h : js.filterMap (fun j => lo[j]?) = lo') (kk : LW l E p e s m below meth c b Q k n pc lo' st σ) : LW l E p e s m below meth c b Q k n pc lo st σ := by
  intro H locs ls hW hS hL
  refine kk H locs ls hW hS ⟨hL.1, hL.2.1, fun q hq => hL.2.2 q ?_⟩
  rcases List.mem_cons.mp hq with hq | hq
  · exact List.mem_cons.mpr (.inl hq)
  · refine List.mem_cons.mpr (.inr ?_)
    obtain ⟨q0, h0, rfl⟩ := List.mem_map.mp hq
    subst h
    obtain ⟨j, -, hj⟩ := List.mem_filterMap.mp h0
    exact List.mem_map.mpr ⟨q0, List.mem_of_getElem? hj, rfl⟩
theorem lr_aload_n {f : Fin 4} {x i : Nat} (C : LCX l E p s m c b L xs) (j : Nat) (hd : decode code pc = .ok (.aload_n f, 1)) (hi : (f : Nat) = i) (hl : lo[j]? = some (i, .ref x)) (kk : LW l E p e s m below meth c b Q k n (pc + 1) lo (.ref x :: st) σ) : LW l E p e s m below meth c b Q k n pc lo st σ :=
  fun H locs ls hW hS hL => lv_aload_n C.1 C.2.1 hd hi (lv_at hL (j + 1) (show (kml E lo)[j]? = _ from kml_at hl)) (kk H locs ls hW hS hL)
theorem lr_iload {x : Int32} {i : Nat} (C : LCX l E p s m c b L xs) (j : Nat) (hd : decode code pc = .ok (.iload i, 2)) (hl : lo[j]? = some (i, .int x)) (kk : LW l E p e s m below meth c b Q k n (pc + 2) lo (.int x :: st) σ) : LW l E p e s m below meth c b Q k n pc lo st σ :=
  fun H locs ls hW hS hL => lv_iload C.1 C.2.1 hd (lv_at hL (j + 1) (show (kml E lo)[j]? = _ from kml_at hl)) (kk H locs ls hW hS hL)
theorem lr_dload {x : UInt64} {i : Nat} (C : LCX l E p s m c b L xs) (j : Nat) (hd : decode code pc = .ok (.dload i, 2)) (hl : lo[j]? = some (i, .double x)) (kk : LW l E p e s m below meth c b Q k n (pc + 2) lo (.double x :: st) σ) : LW l E p e s m below meth c b Q k n pc lo st σ :=
  fun H locs ls hW hS hL => lv_dload C.1 C.2.1 hd (lv_at hL (j + 1) (show (kml E lo)[j]? = _ from kml_at hl)) (kk H locs ls hW hS hL)
theorem lvh_swap {ls : Array Slot} {n : Nat} {a b : Nat × Value} {t : List (Nat × Value)} (h : lv_has ls n (a :: b :: t)) : lv_has ls n (b :: a :: t) := ⟨h.1, h.2.1, fun q hq => h.2.2 q (by
  rcases List.mem_cons.mp hq with h1 | h1
  · exact List.mem_cons.mpr (.inr (List.mem_cons.mpr (.inl h1)))
  · rcases List.mem_cons.mp h1 with h2 | h2
    · exact List.mem_cons.mpr (.inl h2)
    · exact List.mem_cons.mpr (.inr (List.mem_cons.mpr (.inr h2))))⟩
theorem kml_set0 {lo' : List (Nat × Value)} {i : Nat} {v : Value} (h0 : ¬ 0 = i) (h : (i, v) :: lo.filter (fun q => !(q.1 == i) && !(q.1 + 1 == i && q.2.category == 2)) = lo') : (i, kmv E v) :: (((0, Value.ref b) :: kml E lo).filter (fun q => !(q.1 == i) && !(q.1 + 1 == i && q.2.category == 2))) = (i, kmv E v) :: (0, .ref b) :: (kml E lo').tail := by
  have hc : (!((0 : Nat) == i) && !((0 : Nat) + 1 == i && (Value.ref b).category == 2)) = true := by
    have e1 : ((0 : Nat) == i) = false := by rw [beq_eq_false_iff_ne]; exact h0
    have e2 : ((Value.ref b).category == 2) = false := rfl
    rw [e1, e2, Bool.and_false]; rfl
  rw [List.filter_cons, if_pos hc]
  have := kml_set (E := E) h
  rw [← this]
  rfl
theorem kml_tl {lo' : List (Nat × Value)} {i : Nat} {v : Value} {P : Nat × Value → Bool} (h : (i, v) :: lo.filter P = lo') : kml E lo' = (i, kmv E v) :: (kml E lo').tail := by
  rw [← h]; rfl
theorem lr_istore {x : Int32} {i : Nat} (C : LCX l E p s m c b L xs) (lo' : List (Nat × Value)) (hd : decode code pc = .ok (.istore i, 2)) (hn : i < 9) (h0 : ¬ 0 = i) (hl : (i, Value.int x) :: lo.filter (fun q => !(q.1 == i) && !(q.1 + 1 == i && q.2.category == 2)) = lo') (kk : LW l E p e s m below meth c b Q k n (pc + 2) lo' st σ) : LW l E p e s m below meth c b Q k n pc lo (.int x :: st) σ := by
  intro H locs ls hW hS hL
  refine lv_istore C.1 C.2.1 hd hL hn (kml_set0 (E := E) (b := b) h0 hl) (fun ls' hL' => kk H locs ls' hW hS ?_)
  rw [kml_tl (E := E) hl]
  exact lvh_swap hL'
theorem lr_iinc {a : Int} {x v : Int32} {i : Nat} (C : LCX l E p s m c b L xs) (j : Nat) (lo' : List (Nat × Value)) (hd : decode code pc = .ok (.iinc i a, 3)) (hj : lo[j]? = some (i, .int x)) (hv : x + Int32.ofInt a = v) (hn : i < 9) (h0 : ¬ 0 = i) (hl : (i, Value.int v) :: lo.filter (fun q => !(q.1 == i) && !(q.1 + 1 == i && q.2.category == 2)) = lo') (kk : LW l E p e s m below meth c b Q k n (pc + 3) lo' st σ) : LW l E p e s m below meth c b Q k n pc lo st σ := by
  intro H locs ls hW hS hL
  refine lv_iinc (k := j + 1) C.1 C.2.1 hd hL (show (kml E lo)[j]? = _ from kml_at hj) hv hn (kml_set0 (E := E) (b := b) (v := .int v) h0 hl) (fun ls' hL' => kk H locs ls' hW hS ?_)
  rw [kml_tl (E := E) hl]
  exact lvh_swap hL'
theorem lr_dstore {x : UInt64} {i : Nat} (C : LCX l E p s m c b L xs) (lo' : List (Nat × Value)) (hd : decode code pc = .ok (.dstore i, 2)) (hn : i + 1 < 9) (h0 : 2 ≤ i) (hl : (i, Value.double x) :: lo.filter (fun q => !(q.1 == i) && (!(q.1 == i + 1) && !(q.1 + 1 == i && q.2.category == 2))) = lo') (kk : LW l E p e s m below meth c b Q k n (pc + 2) lo' st σ) : LW l E p e s m below meth c b Q k n pc lo (.double x :: st) σ := by
  intro H locs ls hW hS hL
  have e : (i, Value.double x) :: (((0, Value.ref b) :: kml E lo).filter (fun q => !(q.1 == i) && (!(q.1 == i + 1) && !(q.1 + 1 == i && q.2.category == 2)))) = (i, Value.double x) :: (0, .ref b) :: (kml E lo').tail := by
    have hc : (!((0 : Nat) == i) && (!((0 : Nat) == i + 1) && !((0 : Nat) + 1 == i && (Value.ref b).category == 2))) = true := by
      have e1 : ((0 : Nat) == i) = false := by rw [beq_eq_false_iff_ne]; omega
      have e3 : ((0 : Nat) == i + 1) = false := by rw [beq_eq_false_iff_ne]; omega
      have e2 : ((Value.ref b).category == 2) = false := rfl
      rw [e1, e2, e3, Bool.and_false]; rfl
    rw [List.filter_cons, if_pos hc, ← hl]
    unfold kml
    rw [List.map_cons, List.tail_cons, List.filter_map]
    refine congrArg (fun l => (i, Value.double x) :: (0, Value.ref b) :: List.map _ l) ?_
    refine List.filter_congr fun q _ => ?_
    show (!(q.1 == i) && (!(q.1 == i + 1) && !(q.1 + 1 == i && (kmv E q.2).category == 2))) = _
    rw [kmv_cat]
  refine lv_dstore C.1 C.2.1 hd hL hn e (fun ls' hL' => kk H locs ls' hW hS ?_)
  rw [kml_tl (E := E) hl]
  exact lvh_swap hL'
theorem lr_arg {i j : Nat} (C : LCX l E p s m c b L xs) (j4 : Nat) (hj4 : lo[j4]? = some (4, .int (nI i))) (hi : i + j < L) (hL : L ≤ 3072) (d0 : decode code pc = .ok (.aload_n 0, 1)) (d1 : decode code (pc + 1) = .ok (.iload 4, 2)) (a : Int) (ha : Int32.ofInt a = nI j) (d3 : decode code (pc + 3) = .ok (.iconst a, 1)) (d4 : decode code (pc + 4) = .ok (.iadd, 1)) (d5 : decode code (pc + 5) = .ok (.iaload, 1)) (kk : LW l E p e s m below meth c b Q k n (pc + 6) lo (.int (xs (i + j)) :: st) σ) : LW l E p e s m below meth c b Q k n pc lo st σ := by
  intro H locs ls hW hS hl
  refine lv_aload_n C.1 C.2.1 d0 rfl (lv_at hl 0 rfl) ?_
  refine lv_iload C.1 C.2.1 d1 (lv_at hl (j4 + 1) (show (kml E lo)[j4]? = _ from kml_at hj4)) ?_
  refine lv_iconst C.1 C.2.1 d3 ha ?_
  refine lv_iadd C.1 C.2.1 d4 ?_
  rw [nI_addn]
  refine va_sld C.1 C.2.1 C.2.2.2.2.2.1.1 C.2.2.2.2.2.1.2 (Nat.not_le.mpr C.2.2.2.2.2.1.2) hS (kin_in (kin_nI hi (by omega))) d5 ?_
  rw [nI_n (by omega)]
  exact kk H locs ls hW hS hl
theorem lr_arg0 {i : Nat} (C : LCX l E p s m c b L xs) (j4 : Nat) (hj4 : lo[j4]? = some (4, .int (nI i))) (hi : i < L) (hL : L ≤ 3072) (d0 : decode code pc = .ok (.aload_n 0, 1)) (d1 : decode code (pc + 1) = .ok (.iload 4, 2)) (d5 : decode code (pc + 3) = .ok (.iaload, 1)) (kk : LW l E p e s m below meth c b Q k n (pc + 4) lo (.int (xs i) :: st) σ) : LW l E p e s m below meth c b Q k n pc lo st σ := by
  intro H locs ls hW hS hl
  refine lv_aload_n C.1 C.2.1 d0 rfl (lv_at hl 0 rfl) ?_
  refine lv_iload C.1 C.2.1 d1 (lv_at hl (j4 + 1) (show (kml E lo)[j4]? = _ from kml_at hj4)) ?_
  refine va_sld C.1 C.2.1 C.2.2.2.2.2.1.1 C.2.2.2.2.2.1.2 (Nat.not_le.mpr C.2.2.2.2.2.1.2) hS (kin_in (kin_nI hi (by omega))) d5 ?_
  rw [nI_n (by omega)]
  exact kk H locs ls hW hS hl
theorem lr_len (C : LCX l E p s m c b L xs) (d0 : decode code pc = .ok (.aload_n 0, 1)) (d1 : decode code (pc + 1) = .ok (.arraylength, 1)) (kk : LW l E p e s m below meth c b Q k n (pc + 2) lo (.int (nI L) :: st) σ) : LW l E p e s m below meth c b Q k n pc lo st σ := by
  intro H locs ls hW hS hl
  refine lv_aload_n C.1 C.2.1 d0 rfl (lv_at hl 0 rfl) ?_
  exact va_slen C.1 C.2.1 C.2.2.2.2.2.1.1 C.2.2.2.2.2.1.2 (Nat.not_le.mpr C.2.2.2.2.2.1.2) hS d1 (kk H locs ls hW hS hl)
theorem lr_bool {x : Int32} (C : LCX l E p s m c b L xs) (d0 : decode code pc = .ok (.ifCond .eq 7, 3)) (d3 : decode code (pc + 3) = .ok (.iconst 1, 1)) (d4 : decode code (pc + 4) = .ok (.goto 4, 3)) (d7 : decode code (pc + 7) = .ok (.iconst 0, 1)) (kk : LW l E p e s m below meth c b Q k n (pc + 8) lo (.int (kb (decide (x ≠ 0))) :: st) σ) : LW l E p e s m below meth c b Q k n pc lo (.int x :: st) σ := by
  refine lr_if_eq (tgt := pc + 7) C d0 (by omega) (fun h => ?_) (fun h => ?_)
  · refine lr_iconst (v := 0) C d7 (by decide) ?_
    rw [decide_eq_false (fun c => c h)] at kk
    exact kk
  · refine lr_iconst (v := 1) C d3 (by decide) ?_
    refine lr_goto (tgt := pc + 8) C d4 (by omega) ?_
    rw [decide_eq_true h] at kk
    exact kk
theorem lr_laload (C : LCX l E p s m c b L xs) (hd : decode code pc = .ok (.laload, 1)) (kk : LW l E p e s m below meth c b Q k n (pc + 1) lo (.long (σ 154 0).toInt64 :: st) σ) : LW l E p e s m below meth c b Q k n pc lo (.int 0 :: .ref 154 :: st) σ := by
  intro H locs ls hW hS hl
  obtain ⟨j0, hj0, -⟩ := kwl_at (E := E) σ (hW.at ks_154 (fun h => by cases h))
  exact va_lald (D := E.1) (f := fun j => (σ 154 j).toInt64) C.1 C.2.1 hW.2.1 hW.1 j0 2 (hj0.trans (by rw [kce_l ks_154])) rfl (i := 0) (kin_in (by decide)) hd (kk H locs ls hW hS hl)
theorem lr_table {x : Int32} {off : Int} {tgt : Nat} {dflt lo9 hi9 : Int} {offs : Array Int} {len : Nat} (C : LCX l E p s m c b L xs) (hd : decode code pc = .ok (.tableswitch dflt lo9 hi9 offs, len)) (h1 : ¬ x.toInt < lo9) (h2 : ¬ hi9 < x.toInt) (ho : offs[(x.toInt - lo9).toNat]? = some off) (ht : (pc : Int) + off = (tgt : Int)) (kk : LW l E p e s m below meth c b Q k n tgt lo st σ) : LW l E p e s m below meth c b Q k n pc lo (.int x :: st) σ :=
  fun H locs ls hW hS hl => lv_tableIn C.1 C.2.1 hd h1 h2 ho ht (kk H locs ls hW hS hl)
theorem lr_tableO {x : Int32} {tgt : Nat} {dflt lo9 hi9 : Int} {offs : Array Int} {len : Nat} (C : LCX l E p s m c b L xs) (hd : decode code pc = .ok (.tableswitch dflt lo9 hi9 offs, len)) (h : x.toInt < lo9 ∨ hi9 < x.toInt) (ht : (pc : Int) + dflt = (tgt : Int)) (kk : LW l E p e s m below meth c b Q k n tgt lo st σ) : LW l E p e s m below meth c b Q k n pc lo (.int x :: st) σ :=
  fun H locs ls hW hS hl => lv_tableOut C.1 C.2.1 hd h ht (kk H locs ls hW hS hl)
theorem lr_callV {M' : KM} {y : MethodName} {q ci ix : Nat} (As : List Value) {stk : List Value} {o1 : KO} {C0 : String} {T0 : u_T} {N0 : Nat} (C : LCX l E p s m c b L xs) (hc : CT ksh l M' y (.ref q :: As) σ o1) (h0 : o1.1 = 0) (hd : decode code pc = .ok (.invokevirtual ix, 3)) (hst : stk = As.reverse ++ .ref q :: st)
    (hs : ksh q = .inl ci) (hcl : vwCl[ci]? = some (C0, T0, N0)) (hy : KMV y M' C0 As.length) (hlk : Cond.methodLink RL ix y ∈ kg)
    (hR : M'.2.2.2.2.1.frames + 1 ≤ room_1.frames ∧ 8 + (M'.2.2.1 + 11) + M'.2.2.2.2.1.locals ≤ room_1.locals) (hcat : (st.map fun v => v.category).sum ≤ 8) (hf : k + M'.2.2.2.2.2.1 ≤ room_1.cells ∧ n + M'.2.2.2.2.2.2 ≤ room_1.slots)
    (kk : LW l E p e s m below meth c b Q (k + M'.2.2.2.2.2.1) (n + M'.2.2.2.2.2.2) (pc + 3) lo ((krv M'.2.2.2.1 o1.2.1).toList ++ st) o1.2.2) : LW l E p e s m below meth c b Q k n pc lo stk σ := by
  intro H locs ls hW hS hl
  subst hst
  obtain ⟨hy0, hyr, hy1, hy2, hy3, hy4⟩ := hy
  have hC := C
  obtain ⟨hx0, hb, hml, hown, hts, -, hK, hN, hst0⟩ := hC
  obtain ⟨j0, hj0, -⟩ := kwl_at (E := E) σ (hW.at hs (fun h => by cases h))
  have hsub := kwa_sub hW (fun q h => h) hS.1
  have hrun := vx_runV (p := p) (l := l) (e := e) (R := room_1) (s := s) (m := m) (args := #[Value.ref b]) (below := below) (meth := meth) (c := c) (H := H) (locs := locs) (cells := k) (slots := n) (g := F0 m pc ls ((As.reverse ++ .ref q :: st).map (kmv E))) (As := As.map (kmv E)) (rest := st.map (kmv E)) (b := E.2.1 q) (C := C0) (y := y) (bytes := M'.2.1) (maxL := M'.2.2.1) (ret := M'.2.2.2.1) (own := RL) (index := ix) ⟨hx0, hb, hml, hown, hts⟩ (hc E H.size) (cwV As.length hts (kgV hlk hy1 hy2 hy3 hy4) rfl hyr.1 hyr.2 hy0 hR)
    ⟨kblind E ksh (.ref q :: As) _ _, va_recv (q0 := j0) hW.2.1 hW.1 hcl (hj0.trans (by rw [kce_o hs])), fun U hU hWU => ⟨rfl, by rw [hU], by rw [hU]; exact hW.call hWU, by rw [hU]; exact ((hK.kept hS.2.1).moved hWU).narrow hsub⟩⟩
    rfl (List.length_map _) hl.1 (by
      show List.map (kmv E) (As.reverse ++ .ref q :: st) = _
      rw [List.map_append, List.map_reverse]
      rfl) (lv_room (by rw [kcats]; exact hcat)) hd hf
  refine kx_call (ret := M'.2.2.2.1) (o1 := o1) hrun hS (fun q _ h => hsub q h) hsub (fun h9 => absurd h0 h9) (fun _ t H1 locs1 hvm hw hS1 => ?_)
  have h9 := kk H1 locs1 ls (WD.back hw hvm hsub) hS1 hl
  rw [krv_map] at h9
  exact h9
/-- a helper's own words -/
def KMW (hh : List (Nat × Nat × Nat × Nat)) (y : MethodName) (M : KM) (na : Nat) : Prop :=
  (y.cls ≠ "java/lang/invoke/MethodHandle" ∧ y.cls ≠ "java/lang/invoke/VarHandle" ∧ (parseMethodDescriptor y.desc).map (fun d => d.parameters.length) = some na) ∧ (M.2.2.2.2.1.cells = M.2.2.2.2.2.1 ∧ M.2.2.2.2.1.slots = M.2.2.2.2.2.2) ∧
  Cond.static y ∈ kg ∧ Cond.initialized y.cls ∈ kg ∧ Cond.codeWith y M.2.1 M.2.2.1 M.2.2.2.1 hh ∈ kg
theorem kblindW (E : KE) (As : List Value) (sz : Nat) (σ : Sto) : FrameBlind (va_Pc (As.map (kmv E)) (fun U => U.heap.size = sz ∧ WD E ksh (kwa E ksh sz) σ U U.heap ∧ KST E (kwa E ksh sz) U U.heap ∧ XNC U)) :=
  fun a U g mk q => ⟨q.1, q.2.1, WD.moved (u := U) (U := U.calling g mk a) (Vm.Alike.refl U.vm) q.2.2.1, KST.moved (u := U) (U := U.calling g mk a) (State.WarmedH.refl U) q.2.2.2.1, XNC.moved (u := U) (U := U.calling g mk a) (State.WarmedH.refl U) q.2.2.2.2⟩
theorem lr_callW {hh : List (Nat × Nat × Nat × Nat)} {M' : KM} {y : MethodName} {ix : Nat} (As : List Value) {stk : List Value} {t : Int32} {σ2 : Sto} (C : LCX l E p s m c b L xs) (hc : CTW hh l M' y As σ (0, .int t, σ2)) (hd : decode code pc = .ok (.invokestatic ix, 3)) (hst : stk = As.reverse ++ st) (hr : M'.2.2.2.1 = some .int)
    (hy : KMW hh y M' As.length) (hlk : Cond.methodLink RL ix y ∈ kg)
    (hR : M'.2.2.2.2.1.frames + 1 ≤ room_1.frames ∧ 8 + (M'.2.2.1 + 11) + M'.2.2.2.2.1.locals ≤ room_1.locals) (hcat : (st.map fun v => v.category).sum ≤ 8) (hf : k + M'.2.2.2.2.2.1 ≤ room_1.cells ∧ n + M'.2.2.2.2.2.2 ≤ room_1.slots)
    (kk : LW l E p e s m below meth c b Q (k + M'.2.2.2.2.2.1) (n + M'.2.2.2.2.2.2) (pc + 3) lo (.int t :: st) σ2) : LW l E p e s m below meth c b Q k n pc lo stk σ := by
  intro H locs ls hW hS hl
  subst hst
  obtain ⟨hy0, hyr, hy1, hy3, hy4⟩ := hy
  have hC := C
  obtain ⟨hx0, hb, hml, hown, hts, -, hK, hN, hst0⟩ := hC
  have hsub := kwa_sub hW (fun q h => h) hS.1
  have hG : GoodIn kg (va_wsS RL ix y (Cond.codeWith y M'.2.1 M'.2.2.1 M'.2.2.2.1 hh :: kg)) := kgS hlk hy1 hy3 hy4
  have hrun := vx_runSX (hh := hh) (p := p) (l := l) (e := e) (R := room_1) (s := s) (m := m) (args := #[Value.ref b]) (below := below) (meth := meth) (c := c) (H := H) (locs := locs) (cells := k) (slots := n) (g := F0 m pc ls ((As.reverse ++ st).map (kmv E))) (As := As.map (kmv E)) (rest := st.map (kmv E)) (y := y) (bytes := M'.2.1) (maxL := M'.2.2.1) (ret := M'.2.2.2.1) (own := RL) (index := ix) ⟨hx0, hb, hml, hown, hts⟩ (hc E H.size) (vx_cwSW As.length hts hG rfl hyr.1 hyr.2 hy0 hR)
    ⟨kblindW E As _ _, fun U hU hWU => ⟨rfl, by rw [hU], by rw [hU]; exact hW.call hWU, by rw [hU]; exact ((hK.kept hS.2.1).moved hWU).narrow hsub, hN.moved hWU⟩⟩
    rfl (List.length_map _) hl.1 (by
      show List.map (kmv E) (As.reverse ++ st) = _
      rw [List.map_append, List.map_reverse]) (lv_room (by rw [kcats]; exact hcat)) hd hf
  refine kx_call (ret := M'.2.2.2.1) (o1 := (0, .int t, σ2)) hrun hS (fun q _ h => hsub q h) hsub (fun h9 => absurd rfl h9) (fun _ t H1 locs1 hvm hw hS1 => ?_)
  have h9 := kk H1 locs1 ls (WD.back hw hvm hsub) hS1 hl
  rw [hr]
  exact h9
end LROWS
theorem kti_0 {xs : List Nat} {tag : Nat} (h : kti xs tag = 0) : tag = 0 := by
  unfold kti at h
  by_cases c : tag = 0
  · exact c
  · rw [if_neg c] at h
    split at h <;> exact absurd h (by decide)
theorem e54_w {σ1 : Sto} {tag : Nat} {v : Int32} : E54 σ1 (if tag = 0 then su σ1 154 0 v else σ1) := by
  intro p hp
  split
  · exact su_k hp
  · rfl

def lo4 (i : Nat) : List (Nat × Value) := [(1, .ref 0), (2, .ref 133), (3, .ref 154), (4, .int (nI i))]
section LTAIL
variable {l : Launch} {E : KE} {p : Program} {e : Env} {s : State} {m : MethodId} {below : List Frame} {meth : Method} {c : Code} {b L : Nat} {xs : Nat → Int32} {Q : State → Prop} {k n i pc : Nat} {σ : Sto}
theorem lk_L_125 : Cond.methodLink RL 125 yX7_thrown ∈ kg := kg_in 1468 (by decide +kernel) (by decide +kernel)
theorem yw_X7_thrown : KMV yX7_thrown mX7_thrown RX7 0 := ⟨⟨rfl, by decide +kernel, by decide +kernel, by decide +kernel⟩, ⟨rfl, rfl⟩, kg_in 1469 (by decide +kernel) (by decide +kernel), kg_in 1470 (by decide +kernel) (by decide +kernel), kg_in 130 (by decide +kernel) (by decide +kernel), kg_in 1471 (by decide +kernel) (by decide +kernel)⟩
theorem lr_tail {ys : List Nat} {tag : Nat} {w : Int32} {off : Int} (hst : l.stackTraces = false) (C : LCX l E p s m c b L xs) (hth : σ 133 7 = kti ys tag) (hw : tag = 0 → σ 154 0 = w) (hk : k ≤ 601024 ∧ n ≤ 7293034)
    (d0 : decode code pc = .ok (.aload_n 2, 1)) (d1 : decode code (pc + 1) = .ok (.invokevirtual 125, 3)) (d4 : decode code (pc + 4) = .ok (.iload 5, 2)) (d6 : decode code (pc + 6) = .ok (.if_icmp .eq 5, 3)) (d11 : decode code (pc + 11) = .ok (.iload 5, 2)) (d13 : decode code (pc + 13) = .ok (.ifCond .ne 15, 3))
    (d16 : decode code (pc + 16) = .ok (.aload_n 3, 1)) (d17 : decode code (pc + 17) = .ok (.iconst 0, 1)) (d18 : decode code (pc + 18) = .ok (.laload, 1)) (d19 : decode code (pc + 19) = .ok (.iload 6, 2)) (d21 : decode code (pc + 21) = .ok (.i2l, 1)) (d22 : decode code (pc + 22) = .ok (.lcmp, 1)) (d23 : decode code (pc + 23) = .ok (.ifCond .eq 5, 3)) (d28 : decode code (pc + 28) = .ok (.goto off, 3)) (ht : ((pc + 28 : Nat) : Int) + off = (2529 : Nat))
    (kk : LW l E p e s m below meth c b Q k n 2529 (lo4 i) [] σ) : LW l E p e s m below meth c b Q k n pc ((6, .int w) :: (5, .int (kti ys tag)) :: lo4 i) [] σ := by
  have hend : LW l E p e s m below meth c b Q k n (pc + 28) ((6, .int w) :: (5, .int (kti ys tag)) :: lo4 i) [] σ := lr_goto (tgt := 2529) C d28 ht (lr_sub (lo4 i) [2, 3, 4, 5] rfl kk)
  refine lr_aload_n C 3 d0 rfl rfl ?_
  refine lr_callV (q := 133) (ci := 7) (o1 := (0, .int (fX7_thrown σ), σ)) (M' := mX7_thrown) (y := yX7_thrown) (ix := 125) (st := []) [] C (tX7_thrown l hst σ) rfl d1 rfl ks_133 (show vwCl[7]? = some _ from rfl) yw_X7_thrown lk_L_125 (by decide) (Nat.zero_le _) hk ?_
  refine lr_iload (pc := pc + 1 + 3) C 1 d4 rfl ?_
  refine lr_icmp_eq (pc := pc + 6) (tgt := pc + 11) C hth d6 (by omega) ?_
  refine lr_iload (pc := pc + 11) C 1 d11 rfl ?_
  refine lr_if_ne (pc := pc + 13) (tgt := pc + 28) C d13 (by omega) (fun _ => hend) (fun h => ?_)
  refine lr_aload_n (pc := pc + 16) C 4 d16 rfl rfl ?_
  refine lr_iconst (pc := pc + 17) (v := 0) C d17 (by decide) ?_
  refine lr_laload (pc := pc + 18) C d18 ?_
  refine lr_iload (pc := pc + 19) C 0 d19 rfl ?_
  refine lr_i2l (pc := pc + 21) C d21 ?_
  refine lr_lcmp (pc := pc + 22) C (show (σ 154 0).toInt64 = w.toInt64 by rw [hw (kti_0 h)]) d22 ?_
  exact lr_if_eq (pc := pc + 23) (tgt := pc + 28) C d23 (by omega) (fun _ => hend) (fun h => absurd rfl h)
end LTAIL
