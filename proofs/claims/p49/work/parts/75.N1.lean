/-! the law's own body: more rows; the box and what draws, set together; the text that was made -/
section NROWS
variable {l : Launch} {E0 : KE} {sh0 : KSh} {own : String} {cc : ByteArray} {nL : Nat} {A : Nat → Prop} {p : Program} {e : Env} {R : Room} {s : State} {m : MethodId} {args : Array Value} {below : List Frame} {meth : Method} {c : Code} {Q : State → Prop} {k n pc : Nat} {lo : List (Nat × Value)} {st : List Value} {ws : va_W}
theorem ii_i {x x' : Int32} (h : x = x') (kk : IW l E0 A p e R s m args below meth c nL Q k n pc lo (.int x' :: st) ws) : IW l E0 A p e R s m args below meth c nL Q k n pc lo (.int x :: st) ws := h ▸ kk
theorem ii_nef {x y : Int32} {off : Int} {tgt : Nat} (C : IX l E0 sh0 own cc nL A p s m args c) (hd : decode cc pc = .ok (.if_icmp .ne off, 3)) (ht : (pc : Int) + off = (tgt : Int)) (hxy : x = y) (kk : IW l E0 A p e R s m args below meth c nL Q k n (pc + 3) lo st ws) : IW l E0 A p e R s m args below meth c nL Q k n pc lo (.int y :: .int x :: st) ws :=
  fun H locs ls hP hD hS hl => lv_icmp_ne C.1 C.2.1 hd ht (fun h => absurd hxy h) (fun _ => kk H locs ls hP hD hS hl)
theorem ii_net {x : Int32} {off : Int} {tgt : Nat} (C : IX l E0 sh0 own cc nL A p s m args c) (hd : decode cc pc = .ok (.ifCond .ne off, 3)) (ht : (pc : Int) + off = (tgt : Int)) (hx : ¬ x = 0) (kk : IW l E0 A p e R s m args below meth c nL Q k n tgt lo st ws) : IW l E0 A p e R s m args below meth c nL Q k n pc lo (.int x :: st) ws :=
  fun H locs ls hP hD hS hl => lv_if_ne C.1 C.2.1 hd ht (fun _ => kk H locs ls hP hD hS hl) (fun h => absurd h hx)
theorem ii_ne0 {x : Int32} {off : Int} {tgt : Nat} (C : IX l E0 sh0 own cc nL A p s m args c) (hd : decode cc pc = .ok (.ifCond .ne off, 3)) (ht : (pc : Int) + off = (tgt : Int)) (hx : x = 0) (kk : IW l E0 A p e R s m args below meth c nL Q k n (pc + 3) lo st ws) : IW l E0 A p e R s m args below meth c nL Q k n pc lo (.int x :: st) ws :=
  fun H locs ls hP hD hS hl => lv_if_ne C.1 C.2.1 hd ht (fun h => absurd hx h) (fun _ => kk H locs ls hP hD hS hl)
theorem ii_eqt {x : Int32} {off : Int} {tgt : Nat} (C : IX l E0 sh0 own cc nL A p s m args c) (hd : decode cc pc = .ok (.ifCond .eq off, 3)) (ht : (pc : Int) + off = (tgt : Int)) (hx : x = 0) (kk : IW l E0 A p e R s m args below meth c nL Q k n tgt lo st ws) : IW l E0 A p e R s m args below meth c nL Q k n pc lo (.int x :: st) ws :=
  fun H locs ls hP hD hS hl => lv_if_eq C.1 C.2.1 hd ht (fun _ => kk H locs ls hP hD hS hl) (fun h => absurd hx h)
theorem ii_eqf {x : Int32} {off : Int} {tgt : Nat} (C : IX l E0 sh0 own cc nL A p s m args c) (hd : decode cc pc = .ok (.ifCond .eq off, 3)) (ht : (pc : Int) + off = (tgt : Int)) (hx : ¬ x = 0) (kk : IW l E0 A p e R s m args below meth c nL Q k n (pc + 3) lo st ws) : IW l E0 A p e R s m args below meth c nL Q k n pc lo (.int x :: st) ws :=
  fun H locs ls hP hD hS hl => lv_if_eq C.1 C.2.1 hd ht (fun h => absurd h hx) (fun _ => kk H locs ls hP hD hS hl)
theorem ii_iadd {x y : Int32} (C : IX l E0 sh0 own cc nL A p s m args c) (hd : decode cc pc = .ok (.iadd, 1)) (kk : IW l E0 A p e R s m args below meth c nL Q k n (pc + 1) lo (.int (x + y) :: st) ws) : IW l E0 A p e R s m args below meth c nL Q k n pc lo (.int y :: .int x :: st) ws :=
  fun H locs ls hP hD hS hl => lv_iadd C.1 C.2.1 hd (kk H locs ls hP hD hS hl)
theorem ii_irem {x y : Int32} (C : IX l E0 sh0 own cc nL A p s m args c) (hd : decode cc pc = .ok (.irem, 1)) (hy : ¬ y = 0) (kk : IW l E0 A p e R s m args below meth c nL Q k n (pc + 1) lo (.int (krem x y) :: st) ws) : IW l E0 A p e R s m args below meth c nL Q k n pc lo (.int y :: .int x :: st) ws :=
  fun H locs ls hP hD hS hl => lv_irem C.1 C.2.1 hd hy (kk H locs ls hP hD hS hl)
theorem ii_ldcS (j : Nat) (hj : j < 4) (C : LWX l E0 sh0 A p s m args c) (hd : decode code pc = .ok (.ldc (jsx j), 2)) (kk : IW l E0 A p e R s m args below meth c 4 Q k n (pc + 2) lo (.ref (E0.2.1 (2020 + j)) :: st) ws) : IW l E0 A p e R s m args below meth c 4 Q k n pc lo st ws :=
  fun H locs ls hP hD hS hl => va_ldcS C.1.1 C.1.2.1 C.1.2.2.2.1 (C.2.2.2.1 j hj).2.2.2.2 hd (kk H locs ls hP hD hS hl)
theorem ii_same {ws' : va_W} (h1 : ws'.map Prod.fst = ws.map Prod.fst) (h2 : ∀ H, va_P E0.1 vwCl ws H → va_P E0.1 vwCl ws' H) (kk : IW l E0 A p e R s m args below meth c nL Q k n pc lo st ws') : IW l E0 A p e R s m args below meth c nL Q k n pc lo st ws := by
  intro H locs ls hP hD hS hl
  refine kk H locs ls (h2 H hP) ?_ hS hl
  obtain ⟨d1, d2⟩ := va_D_iff.mp hD
  refine va_D_iff.mpr ⟨by rw [h1]; exact d1, fun x hx => ?_⟩
  have hx1 : x.1 ∈ ws.map Prod.fst := by rw [← h1]; exact List.mem_map.mpr ⟨x, hx, rfl⟩
  obtain ⟨y, hy, hxy⟩ := List.mem_map.mp hx1
  rw [← hxy]
  exact d2 y hy
end NROWS
theorem ko_all : ∀ q, kNP ≤ q → ksh q = .inr (2, 0) := fun q hq => by
  show kshl.getD q _ = _
  rw [List.getD_eq_getElem?_getD, List.getElem?_eq_none (Nat.le_trans (show kshl.length ≤ 135 by decide +kernel) hq)]
  rfl
theorem ksh_134 : ksh 134 = .inr (2, 0) := by decide +kernel
theorem ksh_133 : ksh 133 = .inl 7 := by decide +kernel
theorem ksh_0 : ksh 0 = .inl 6 := by decide +kernel
theorem kag_xt {sh0 : KSh} (hz0 : ∀ q, 1000 ≤ q → ∃ n, sh0 q = .inr (2, n)) : KAG (kxt sh0 ksh) := by
  refine ⟨fun q hq => kxt_lo (by omega), fun q hq ci h => ?_⟩
  by_cases h1 : q = 134
  · subst h1
    rw [kxt_lo (by omega), ksh_134] at h
    cases h
  · have h2 : kNP = 135 := rfl
    obtain ⟨n, hn⟩ := kxt_z (sh0 := sh0) hz0 ko_all q (by omega)
    rw [hn] at h
    cases h
theorem kxt_134 {sh0 : KSh} : kxt sh0 ksh 134 = .inr (2, 0) := (kxt_lo (by omega)).trans ksh_134
def blkO2 (sh : KSh) (w : Nat) : Bool := (List.range w).all fun j => match sh j with
  | .inl ci => (List.range (knf ci)).all fun i => match kpo ci i with
    | some d => decide (j + d < w)
    | none => true
  | .inr (t, n) => decide (t < 3) || (List.range n).all fun i => decide (t + 9 * i < w)
theorem blk_at {E Eb : KE} {shX shB : KSh} {σ σb : Sto} {w : Nat} (hE : E.2.2 = Eb.2.2) (had : ∀ j, j < w → Eb.2.1 j = E.2.1 j) (hσ : ∀ j, j < w → σb j = σ j) (hsh : ∀ j, j < w → shB j = shX j) (hok : blkO2 shX w = true) {j : Nat} (hj : j < w) {D : va_G} {H : Heap} (h : va_at D vwCl (ent E shX σ j) H) : va_at D vwCl (ent Eb shB σb j) H := by
  unfold ent at h ⊢
  rw [had j hj]
  have h1 := List.all_eq_true.mp hok j (List.mem_range.mpr hj)
  cases hs : shX j with
  | inl ci =>
    rw [hs] at h1
    rw [kce_o hs] at h
    rw [kce_o ((hsh j hj).trans hs)]
    rw [show (List.range (knf ci)).map (kfv Eb σb j ci) = (List.range (knf ci)).map (kfv E σ j ci) from List.map_congr_left fun i hi => ?_]
    · exact h
    · have h2 := List.all_eq_true.mp h1 i hi
      unfold kfv
      cases hd : kpo ci i with
      | none => show Value.int (σb j i) = Value.int (σ j i); rw [hσ j hj]
      | some d =>
        rw [hd] at h2
        have h3 : j + d < w := of_decide_eq_true h2
        show Value.ref (Eb.2.1 (j + d)) = Value.ref (E.2.1 (j + d))
        rw [had _ h3]
  | inr x =>
    obtain ⟨t, n⟩ := x
    rw [hs] at h1
    match t, h1, hs with
    | 0, _, hs => rw [kce_i hs] at h; rw [kce_i ((hsh j hj).trans hs), ← hE, hσ j hj]; exact h
    | 1, _, hs => rw [kce_z hs] at h; rw [kce_z ((hsh j hj).trans hs), ← hE, hσ j hj]; exact h
    | 2, _, hs => rw [kce_l hs] at h; rw [kce_l ((hsh j hj).trans hs), ← hE, hσ j hj]; exact h
    | t + 3, h1, hs =>
      rw [kce_s hs] at h
      rw [kce_s ((hsh j hj).trans hs), ← hE]
      have h2 : (List.range n).all (fun i => decide (t + 3 + 9 * i < w)) = true := by
        rcases Bool.or_eq_true _ _ ▸ h1 with h9 | h9
        · have := of_decide_eq_true h9; omega
        · exact h9
      have h3 : H[E.2.1 j]? = some (vp_cell (E.2.2 3) (n, .inr (.inr (.inr (.inr (fun i => some (E.2.1 (t + 3 + 9 * i)))))))) := h
      show H[E.2.1 j]? = some (vp_cell (E.2.2 3) (n, .inr (.inr (.inr (.inr (fun i => some (Eb.2.1 (t + 3 + 9 * i))))))))
      rw [h3, vp_cell_q, vp_cell_q]
      unfold arrV
      refine congrArg (fun g => some ({ cls := E.2.2 3, slots := Array.ofFn (n := n) g, vm := .none } : Cell)) (funext fun i => ?_)
      show va_rf (some (E.2.1 (t + 3 + 9 * i.val))) = va_rf (some (Eb.2.1 (t + 3 + 9 * i.val)))
      rw [had _ (of_decide_eq_true (List.all_eq_true.mp h2 i.val (List.mem_range.mpr i.isLt)))]
def iE_W (E0 E1 : KE) (a : Nat) : KE := (E0.1, pick [(0, 133, E1.2.1), (133, 1, fun _ => a)] E0.2.1, E0.2.2)
def iS_W (σ1 : Sto) : Sto := pick [(0, 133, σ1), (133, 1, fun _ _ => 0)] (fun _ _ => 0)
theorem pw_W : List.Pairwise (fun (x y : Nat × Nat) => x.1 + x.2 ≤ y.1 ∨ y.1 + y.2 ≤ x.1) [(0, 133), (133, 1)] := by decide +kernel
theorem mx_W : ∀ x ∈ ([(0, 133), (133, 1)] : List (Nat × Nat)), x.1 + x.2 ≤ 1000 := by decide +kernel
theorem iQ_W (E0 E1 : KE) (a : Nat) : EQ E0 (iE_W E0 E1 a) := ⟨rfl, rfl, fun k hk => pick_no _ (fun x hx => Nat.le_trans (mx_W x hx) hk)⟩
theorem iE_W1 {E0 E1 : KE} {a j : Nat} (h : j < 133) : (iE_W E0 E1 a).2.1 j = E1.2.1 j := by
  have := pick_at (d := E0.2.1) [(0, 133, E1.2.1), (133, 1, fun _ => a)] 0 0 133 _ rfl pw_W h
  rw [Nat.zero_add] at this
  exact this
theorem iE_W2 {E0 E1 : KE} {a : Nat} : (iE_W E0 E1 a).2.1 133 = a := pick_at (d := E0.2.1) (j := 0) [(0, 133, E1.2.1), (133, 1, fun _ => a)] 1 133 1 _ rfl pw_W (by omega)
theorem iS_W1 {σ1 : Sto} {j : Nat} (h : j < 133) : iS_W σ1 j = σ1 j := by
  have := pick_at (d := (fun _ _ => 0 : Sto)) [(0, 133, σ1), (133, 1, fun _ _ => 0)] 0 0 133 _ rfl pw_W h
  rw [Nat.zero_add] at this
  exact this
theorem iS_W2 {σ1 : Sto} : iS_W σ1 133 = fun _ => 0 := pick_at (d := (fun _ _ => 0 : Sto)) (j := 0) [(0, 133, σ1), (133, 1, fun _ _ => 0)] 1 133 1 _ rfl pw_W (by omega)
theorem kp_all : kpl ksh = kpl shBo ++ [133] := by decide +kernel
theorem kp_Bo : kpl shBo = List.range 133 := by decide +kernel
theorem sh_Bo : ∀ j, j < 133 → ksh j = shBo j := fun j h => (if_pos h).symm
theorem ok_Bo : blkO2 shBo 133 = true := by decide +kernel
theorem law_ws {E0 E1 : KE} {σ1 : Sto} {a b : Nat} (h1 : EQ E0 E1) (hb : E0.2.1 3100 = b) :
    (kwl (iE_W E0 E1 a) ksh (iS_W σ1)).map Prod.fst = (kwl E1 shBo σ1 ++ [(a, (.inr (7, [.ref b, .int 0]) : va_E))]).map Prod.fst ∧
    ∀ H, va_P E0.1 vwCl (kwl E1 shBo σ1 ++ [(a, (.inr (7, [.ref b, .int 0]) : va_E))]) H → va_P E0.1 vwCl (kwl (iE_W E0 E1 a) ksh (iS_W σ1)) H := by
  have e4 : ent (iE_W E0 E1 a) ksh (iS_W σ1) 133 = (a, (.inr (7, [.ref b, .int 0]) : va_E)) := by
    unfold ent
    rw [kce_o ksh_133, iE_W2]
    refine congrArg (Prod.mk a) (congrArg (fun x => Sum.inr (7, x)) ?_)
    show [kfv (iE_W E0 E1 a) (iS_W σ1) 133 7 0, kfv (iE_W E0 E1 a) (iS_W σ1) 133 7 1] = _
    have e0 : kfv (iE_W E0 E1 a) (iS_W σ1) 133 7 0 = .ref b := by
      show Value.ref ((iE_W E0 E1 a).2.1 (133 + 2967)) = _
      rw [(iQ_W E0 E1 a).2.2 (133 + 2967) (by omega)]
      exact congrArg Value.ref hb
    have e1 : kfv (iE_W E0 E1 a) (iS_W σ1) 133 7 1 = .int 0 := by
      show Value.int (iS_W σ1 133 1) = _
      rw [iS_W2]
    rw [e0, e1]
  have eK : kwl (iE_W E0 E1 a) ksh (iS_W σ1) = (kpl shBo).map (ent (iE_W E0 E1 a) ksh (iS_W σ1)) ++ [(a, (.inr (7, [.ref b, .int 0]) : va_E))] := by
    show (kpl ksh).map (ent (iE_W E0 E1 a) ksh (iS_W σ1)) = _
    rw [kp_all, List.map_append]
    show _ ++ [ent _ _ _ 133] = _
    rw [e4]
  rw [eK]
  refine ⟨?_, fun H hP => ?_⟩
  · rw [List.map_append, List.map_append]
    refine congrArg (fun x => x ++ _) ?_
    unfold kwl
    rw [List.map_map, List.map_map, kp_Bo]
    exact List.map_congr_left fun j hj => iE_W1 (List.mem_range.mp hj)
  · rw [va_P_iff] at hP ⊢
    intro x hx
    rcases List.mem_append.mp hx with hx | hx
    · obtain ⟨k, hk, rfl⟩ := List.mem_map.mp hx
      have hk1 : k < 133 := by rw [kp_Bo] at hk; exact List.mem_range.mp hk
      refine blk_at (E := E1) (Eb := iE_W E0 E1 a) (shX := shBo) (shB := ksh) (σ := σ1) (σb := iS_W σ1) (w := 133) h1.2.1 (fun j hj => iE_W1 hj) (fun j hj => iS_W1 hj) sh_Bo ok_Bo hk1 (hP _ ?_)
      exact List.mem_append.mpr (.inl (List.mem_map.mpr ⟨k, hk, rfl⟩))
    · exact hP x (List.mem_append.mpr (.inr hx))
theorem law_world {E0 E1 : KE} {σ1 : Sto} {a b : Nat} (h1 : EQ E0 E1) (hb : E0.2.1 3100 = b) (F1 : BX σ1 25 (mNew 60 3) ∧ (σ1 0 3 = 0 ∧ σ1 0 4 = 0) ∧ (∀ i, σ1 3 i = 0) ∧ (∀ i, σ1 4 i = 0) ∧ (σ1 5 1 = 0 ∧ σ1 5 2 = 0 ∧ σ1 5 3 = -1) ∧ σ1 23 1 = 0) :
    ∃ (E : KE) (σ : Sto), EQ E0 E ∧ E.2.1 0 = E1.2.1 0 ∧ E.2.1 133 = a ∧ INV (mNew 60 3) [] σ ∧ TD 0 σ ∧ σ 5 1 = 0 ∧ (kwl E ksh σ).map Prod.fst = (kwl E1 shBo σ1 ++ [(a, (.inr (7, [.ref b, .int 0]) : va_E))]).map Prod.fst ∧
      ∀ H, va_P E0.1 vwCl (kwl E1 shBo σ1 ++ [(a, (.inr (7, [.ref b, .int 0]) : va_E))]) H → va_P E0.1 vwCl (kwl E ksh σ) H := by
  obtain ⟨f1, f2, f3, f4, f5, f6⟩ := F1
  obtain ⟨w1, w2⟩ := @law_ws E0 E1 σ1 a b h1 hb
  refine ⟨iE_W E0 E1 a, iS_W σ1, iQ_W E0 E1 a, iE_W1 (by omega), iE_W2, new_inv (bx_frame f1 (fun p h1 h2 => iS_W1 (by omega))) ?_ ?_, ?_, ?_, w1, w2⟩
  · rw [iS_W1 (by omega)]; exact f2.1
  · rw [iS_W1 (by omega)]; exact f2.2
  · unfold TD; rw [iS_W2]; rfl
  · rw [iS_W1 (by omega)]; exact f5.1
/-- the shape with a text that was made -/
def shT (sh0 : KSh) (T : List Nat) : KSh := fun q => if q = 4000 then .inr (2, T.length + 1) else if 4001 ≤ q ∧ q < 4101 then .inr (2, T.getD (q - 4001) 0) else sh0 q
theorem shT_z {sh0 : KSh} (hz0 : ∀ q, 1000 ≤ q → ∃ n, sh0 q = .inr (2, n)) (T : List Nat) : ∀ q, 1000 ≤ q → ∃ n, shT sh0 T q = .inr (2, n) := by
  intro q hq
  unfold shT
  split
  · exact ⟨_, rfl⟩
  · split
    · exact ⟨_, rfl⟩
    · exact hz0 q hq
theorem shT_4000 {sh0 : KSh} {T : List Nat} : nsh (kxt (shT sh0 T) ksh) 4000 = T.length + 1 := by
  unfold nsh
  rw [kxt_hi (by omega), show shT sh0 T 4000 = .inr (2, T.length + 1) from if_pos rfl]; rfl
theorem shT_txt {sh0 : KSh} {T : List Nat} (hT : T.length ≤ 99) : TXT (kxt (shT sh0 T) ksh) T := by
  unfold TXT dyb
  rw [shT_4000, Nat.add_sub_cancel]
  refine List.ext_getElem (by simp) fun i h1 h2 => ?_
  rw [List.length_map, List.length_range] at h1
  rw [List.getElem_map, List.getElem_map, List.getElem_range]
  refine congrArg Int32.ofNat ?_
  unfold nsh
  rw [kxt_hi (by omega), show shT sh0 T (4001 + i) = .inr (2, T.getD (4001 + i - 4001) 0) by unfold shT; rw [if_neg (by omega), if_pos ⟨by omega, by omega⟩], Nat.add_sub_cancel_left]
  show T.getD i 0 = _
  rw [List.getD_eq_getElem?_getD, List.getElem?_eq_getElem h1]
  rfl
theorem shT_ktx {sh0 : KSh} {T : List Nat} (hT : T.length ≤ 99) : ktx (kxt (shT sh0 T) ksh) 9 = true := by
  unfold ktx
  rw [shT_4000, decide_eq_true (show 0 < T.length + 1 by omega), decide_eq_true (show T.length + 1 ≤ 100 by omega)]
  rfl
theorem shT_n {sh0 : KSh} {T : List Nat} {q : Nat} (h : 5000 ≤ q) : nsh (kxt (shT sh0 T) ksh) q = nsh (kxt sh0 ksh) q := by
  unfold nsh
  rw [kxt_hi (by omega), kxt_hi (by omega), show shT sh0 T q = sh0 q by unfold shT; rw [if_neg (by omega), if_neg (by omega)]]
def tE (E : KE) (q b : Nat) : KE := (E.1, fun k => if k = 2009 then q else if k = 2109 then b else E.2.1 k, E.2.2)
theorem tE_ne {E : KE} {q b k : Nat} (h1 : k ≠ 2009) (h2 : k ≠ 2109) : (tE E q b).2.1 k = E.2.1 k := by
  show (if k = 2009 then q else if k = 2109 then b else E.2.1 k) = _
  rw [if_neg h1, if_neg h2]
theorem tE_9 {E : KE} {q b : Nat} : (tE E q b).2.1 2009 = q := rfl
theorem tE_109 {E : KE} {q b : Nat} : (tE E q b).2.1 2109 = b := rfl
theorem tE_kwl {E : KE} {q b : Nat} (τ : Sto) : kwl (tE E q b) ksh τ = kwl E ksh τ := by
  unfold kwl
  refine List.map_congr_left fun j hj => ?_
  have hj1 : j < 135 := List.mem_range.mp (List.mem_filter.mp hj).1
  rw [tE_ne (by omega) (by omega)]
  refine congrArg (Prod.mk _) ?_
  have key : ∀ j, j < 135 → (match ksh j with | .inl ci => (List.range (knf ci)).all (fun i => match kpo ci i with | some d => decide (j + d < 2000) || decide (j + d = 3100) | none => true) | .inr (t, _) => decide (t < 3) || (decide (t = 43) || decide (t = 115))) = true := by decide +kernel
  have h9 := key j hj1
  cases hs : ksh j with
  | inl ci =>
    rw [hs] at h9
    rw [kce_o hs, kce_o hs]
    refine congrArg (fun x => Sum.inr (ci, x)) (List.map_congr_left fun i hi => ?_)
    have h8 := List.all_eq_true.mp h9 i hi
    unfold kfv
    cases hd : kpo ci i with
    | none => rfl
    | some d =>
      rw [hd] at h8
      have h7 : j + d < 2000 ∨ j + d = 3100 := by simpa using h8
      exact congrArg Value.ref (tE_ne (by omega) (by omega))
  | inr x =>
    obtain ⟨t, N⟩ := x
    rw [hs] at h9
    match t, h9, hs with
    | 0, _, hs => rw [kce_i hs, kce_i hs]; rfl
    | 1, _, hs => rw [kce_z hs, kce_z hs]; rfl
    | 2, _, hs => rw [kce_l hs, kce_l hs]; rfl
    | t + 3, h9, hs =>
      rw [kce_s hs, kce_s hs]
      have h7 : t + 3 = 43 ∨ t + 3 = 115 := by
        have h9' : (decide (t + 3 < 3) || (decide (t + 3 = 43) || decide (t + 3 = 115))) = true := h9
        rw [decide_eq_false (by omega), Bool.false_or] at h9'
        rcases Bool.or_eq_true _ _ ▸ h9' with h | h
        · exact .inl (of_decide_eq_true h)
        · exact .inr (of_decide_eq_true h)
      refine congrArg (fun f => (Sum.inl (E.2.2 3, N, Sum.inr (Sum.inr (Sum.inr (Sum.inr f)))) : va_E)) (funext fun i => ?_)
      exact congrArg some (tE_ne (by omega) (by omega))
/-- a text of the world, and what lies still of it -/
theorem kss_9 {E : KE} {sh : KSh} {A : Nat → Prop} {U : State} {H : Heap} {D : va_G} {tys : List (ClassId × FieldType)} {ws : va_W} {q b N : Nat} {T : List Nat} {f : Nat → Int32} {cA : ClassId} (hK : va_K D vwCl tys U) (ht : tys[0]? = some (cA, .byte)) (hP : va_P D vwCl ws H) (h1 : (q, (.inr (9, [.ref b, .int 0, .int 0, .int 0]) : va_E)) ∈ ws) (h2 : (b, (.inl (cA, N, .inl f) : va_E)) ∈ ws) (hN : N = T.length) (hT : T.length ≤ 99) (hf : ∀ i, i < T.length → f i = nI (T.getD i 0)) (hq : ¬ A q) (hb : ¬ A b) (e1 : E.2.1 2009 = q) (e2 : E.2.1 2109 = b) (hx : TXT sh T)
    (hts : ∀ w ∈ u_ws RJ0 TJ0 4, w.before #[] U = true) : KSS E sh A U H 9 := by
  obtain ⟨k1, g1⟩ := List.getElem?_of_mem h1
  obtain ⟨k2, g2⟩ := List.getElem?_of_mem h2
  have hb9 : ksbz sh 9 = T.map Int32.ofNat := hx
  have hob := hP k1 _ g1
  obtain ⟨r, r1, cell, q1, q2, q3, q4⟩ := hob
  have hr : r = (RJ0, TJ0, 4) := Option.some.inj (r1.symm.trans rfl)
  subst hr
  have hkn := hK.1 9 (RJ0, TJ0, 4) rfl
  obtain ⟨hS, hfc, kC, hkC, hkind⟩ := hkn
  have hfld : ∀ i v, i < 4 → vp_V [.ref b, .int 0, .int 0, .int 0] i = v → va_OF "java/lang/String" (TJ0 i).2.1 (TJ0 i).2.2.1 v q A U H := by
    intro i v hi hv
    obtain ⟨cf, kf, fi, fd, hfi, hsl⟩ := hS i hi
    have hfs : U.fieldFound? "java/lang/String" (TJ0 i).2.1 (TJ0 i).2.2.1 = some (cf, kf, fi, fd) := by
      rw [← hfi]
      have : (TJ0 i).1 = "java/lang/String" := by
        match i, hi with
        | 0, _ => rfl
        | 1, _ => rfl
        | 2, _ => rfl
        | 3, _ => rfl
      rw [this]
    refine ⟨cf, kf, fi, fd, cell, hfs, (u_facts hfc hkC (u_lays (ws := u_ws RJ0 TJ0 4) (args := #[]) hts (fun _ h => h) hi) hfi).1, q1, by rw [q3]; exact fun h => by (cases h), ?_, hq⟩
    rw [hsl, q4 i hi, hv]
  refine ⟨?_, ?_, ?_, ?_, fun r hr => by (cases hr)⟩
  · rw [show E.2.1 (2000 + 9) = q from e1]
    exact ⟨cell, q1, by rw [q3]; rfl, by rw [q2]; exact hfc, hq⟩
  · rw [show E.2.1 (2000 + 9) = q from e1]
    exact hfld 1 _ (by decide) rfl
  · rw [show E.2.1 (2000 + 9) = q from e1, show E.2.1 (2100 + 9) = b from e2]
    exact hfld 0 _ (by decide) rfl
  · rw [show E.2.1 (2100 + 9) = b from e2, hb9]
    have hc : H[b]? = some (vp_cell cA (N, .inl f)) := hP k2 _ g2
    refine ⟨_, hc, (hK.2 0 _ ht).1 N (fun j => .int (f j)), fun h => by (cases h), ?_, ?_, fun j hj => ?_, hb⟩
    · rw [List.length_map, ← hN, vp_cell_i, arrV_size]; exact Nat.le_refl _
    · rw [List.length_map, ← hN, vp_cell_i, arrV_size]
    · rw [List.length_map] at hj
      rw [vp_cell_i, arrV_read _ _ (by omega), hf j hj]
      show some (Value.int (nI (T.getD j 0))) = some (Value.int ((List.map Int32.ofNat T).getD j 0))
      rw [List.getD_eq_getElem?_getD, List.getElem?_eq_getElem hj, List.getD_eq_getElem?_getD, List.getElem?_map, List.getElem?_eq_getElem hj]
      rfl
theorem kst_text {E0 E : KE} {sh0 : KSh} {A B : Nat → Prop} {s U : State} {H : Heap} {locs : List Loc} {T : List Nat} {q b : Nat} (hE : EQ E0 E) (hK : KST E0 sh0 A s s.heap) (hS : va_S A s.heap H locs) (hW : s.WarmedH U.vm) (hBA : ∀ q, B q → A q) (h9 : KSS (tE E q b) (kxt (shT sh0 T) ksh) B U H 9) : KST (tE E q b) (kxt (shT sh0 T) ksh) B U H := by
  obtain ⟨h1, h2, h3, h4, h5, h6, h7, h8, h10⟩ := ((((KST.eqs hE (fun q hq => kxt_hi (sh := ksh) hq) hK : KST E (kxt sh0 ksh) A s s.heap).kept hS.2.1).moved hW).narrow hBA)
  refine ⟨fun j hj => by rw [tE_ne (by omega) (by omega)]; exact h1 j hj, h2, h3, h4, ?_, fun j hj => ?_, h7, ?_, h10⟩
  · rw [show ksf (tE E q b) = ksf E by unfold ksf; rw [tE_ne (by omega) (by omega), tE_ne (by omega) (by omega)]]
    exact h5
  · by_cases hj9 : j < 9
    · have g := h6 j (ktx_lt hj9)
      unfold KSS at g ⊢
      rw [tE_ne (by omega) (by omega), tE_ne (by omega) (by omega)]
      rw [ksbz_lt hj9] at g ⊢
      exact g
    · have : j = 9 := by
        unfold ktx at hj
        rw [decide_eq_false hj9, Bool.false_or] at hj
        have h0 := Bool.and_eq_true _ _ ▸ hj
        exact of_decide_eq_true h0.1
      subst this
      exact h9
  · rw [tE_ne (by omega) (by omega), show scl (kxt (shT sh0 T) ksh) = scl (kxt sh0 ksh) from shT_n (by omega), show scx (kxt (shT sh0 T) ksh) = scx (kxt sh0 ksh) from funext fun i => by unfold scx; rw [shT_n (by omega)]]
    exact h8
