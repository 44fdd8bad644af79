/-! from the law's entry to its loop -/
theorem ii_istore {l : Launch} {E0 : KE} {own : String} {cc : ByteArray} {nL : Nat} {A : Nat → Prop} {p : Program} {e : Env} {R : Room} {s : State} {m : MethodId} {args : Array Value} {below : List Frame} {meth : Method} {c : Code} {Q : State → Prop} {k n pc : Nat} {lo : List (Nat × Value)} {st : List Value} {ws : va_W} {x : Int32} {i : Nat} (C : IX l E0 own cc nL A p s m args c) (lo' : List (Nat × Value)) (hd : decode cc pc = .ok (.istore i, 2)) (hn : i < nL) (hl : (i, Value.int x) :: lo.filter (fun q => !(q.1 == i) && !(q.1 + 1 == i && q.2.category == 2)) = lo') (kk : IW l E0 A p e R s m args below meth c nL Q k n (pc + 2) lo' st ws) : IW l E0 A p e R s m args below meth c nL Q k n pc lo (.int x :: st) ws :=
  fun H locs ls hP hD hS hL => lv_istore C.1 C.2.1 hd hL hn hl (fun ls' hL' => kk H locs ls' hP hD hS hL')
theorem ii_newL {l : Launch} {E0 : KE} {own : String} {cc : ByteArray} {nL : Nat} {A : Nat → Prop} {p : Program} {e : Env} {R : Room} {s : State} {m : MethodId} {args : Array Value} {below : List Frame} {meth : Method} {c : Code} {Q : State → Prop} {k n pc : Nat} {lo : List (Nat × Value)} {st : List Value} {ws : va_W} {v : Int32} {N : Nat} (C : IX l E0 own cc nL A p s m args c) (hd : decode cc pc = .ok (.newarray .long, 2)) (harr : Cond.arrayClass .long ∈ kg) (hv : kin v 100000 = true) (hN : v.toNatClampNeg = N) (hb : N * 8 ≤ 536870912) (hf : k + 1 ≤ R.cells ∧ n + N ≤ R.slots) (kk : ∀ q, IW l E0 A p e R s m args below meth c nL Q (k + 1) (n + N) (pc + 2) lo (.ref q :: st) (ws ++ [(q, .inl (E0.2.2 2, N, .inr (.inl (fun _ => 0))))])) : IW l E0 A p e R s m args below meth c nL Q k n pc lo (.int v :: st) ws := by
  intro H locs ls hP hD hS hl
  refine va_newaK (atype := .long) (N := N) C.1 C.2.1 (C.2.2.2.2.1 _ harr) rfl hd rfl (fun h => kin_in hv (.inl h)) hN hb hf.1 hf.2 rfl fun H1 cA e1 z1 o1 hAr hNm => ?_
  have hcA : cA = E0.2.2 2 := by
    have h := (C.2.2.2.2.2.2.1.2 2 (E0.2.2 2, .long) rfl).2
    exact Option.some.inj (hNm.symm.trans h)
  subst hcA
  refine kk H.size H1 locs ls ?_ (hD.push hP rfl (C.2.2.2.2.2.1 _ hS.1)) ⟨Nat.le_trans hS.1 (by omega), fun x h1 h2 => (o1 x (Nat.lt_of_lt_of_le h1 hS.1)).trans (hS.2.1 x h1 h2), hS.2.2⟩ hl
  refine (hP.kept (fun k x hx => o1 x.1 ((hP k x hx).lt))).app (fun k x hx => ?_)
  have hz : k < 1 := (List.getElem?_eq_some_iff.mp hx).1
  rw [show k = 0 by omega] at hx
  cases hx
  exact e1
theorem ii_same {l : Launch} {E0 : KE} {nL : Nat} {A : Nat → Prop} {p : Program} {e : Env} {R : Room} {s : State} {m : MethodId} {args : Array Value} {below : List Frame} {meth : Method} {c : Code} {Q : State → Prop} {k n pc : Nat} {lo : List (Nat × Value)} {st : List Value} {ws : va_W} (ws' : va_W) (h1 : ws'.map Prod.fst = ws.map Prod.fst) (h2 : ∀ H, va_P E0.1 vwCl ws H → va_P E0.1 vwCl ws' H) (kk : IW l E0 A p e R s m args below meth c nL Q k n pc lo st ws') : IW l E0 A p e R s m args below meth c nL Q k n pc lo st ws := by
  intro H locs ls hP hD hS hl
  refine kk H locs ls (h2 H hP) ?_ hS hl
  obtain ⟨d1, d2⟩ := va_D_iff.mp hD
  refine va_D_iff.mpr ⟨by rw [h1]; exact d1, fun x hx => ?_⟩
  have hx1 : x.1 ∈ ws.map Prod.fst := by rw [← h1]; exact List.mem_map.mpr ⟨x, hx, rfl⟩
  obtain ⟨y, hy, hxy⟩ := List.mem_map.mp hx1
  rw [← hxy]
  exact d2 y hy
def blkO2 (sh : KSh) (w : Nat) : Bool := (List.range w).all fun j => match sh j with
  | .inl ci => (List.range (knf ci)).all fun i => match kpo ci i with
    | some d => decide (j + d < w)
    | none => true
  | .inr (t, n) => decide (t < 3) || (List.range n).all fun i => decide (t + 9 * i < w)
theorem blk_at {E Eb : KE} {shX shB : KSh} {σ σb : Sto} {w : Nat} (hE : E.2.2 = Eb.2.2) (had : ∀ j, j < w → Eb.2.1 j = E.2.1 j) (hσ : ∀ j, j < w → σb j = σ j) (hsh : ∀ j, j < w → shB j = shX j) (hok : blkO2 shX w = true) {j : Nat} (hj : j < w) {D : va_G} {H : Heap} (h : va_at D vwCl (ent E shX σ j) H) : va_at D vwCl (ent Eb shB σb j) H := by
  unfold ent at h ⊢
  rw [had j hj]
  have h1 := List.all_eq_true.mp hok j (List.mem_range.mpr hj)
  cases hs : shX j with
  | inl ci =>
    rw [hs] at h1
    rw [kce_o hs] at h
    rw [kce_o ((hsh j hj).trans hs)]
    rw [show (List.range (knf ci)).map (kfv Eb σb j ci) = (List.range (knf ci)).map (kfv E σ j ci) from List.map_congr_left fun i hi => ?_]
    · exact h
    · have h2 := List.all_eq_true.mp h1 i hi
      unfold kfv
      cases hd : kpo ci i with
      | none => show Value.int (σb j i) = Value.int (σ j i); rw [hσ j hj]
      | some d =>
        rw [hd] at h2
        have h3 : j + d < w := of_decide_eq_true h2
        show Value.ref (Eb.2.1 (j + d)) = Value.ref (E.2.1 (j + d))
        rw [had _ h3]
  | inr x =>
    obtain ⟨t, n⟩ := x
    rw [hs] at h1
    match t, h1, hs with
    | 0, _, hs => rw [kce_i hs] at h; rw [kce_i ((hsh j hj).trans hs), ← hE, hσ j hj]; exact h
    | 1, _, hs => rw [kce_z hs] at h; rw [kce_z ((hsh j hj).trans hs), ← hE, hσ j hj]; exact h
    | 2, _, hs => rw [kce_l hs] at h; rw [kce_l ((hsh j hj).trans hs), ← hE, hσ j hj]; exact h
    | t + 3, h1, hs =>
      rw [kce_s hs] at h
      rw [kce_s ((hsh j hj).trans hs), ← hE]
      have h2 : (List.range n).all (fun i => decide (t + 3 + 9 * i < w)) = true := by
        rcases Bool.or_eq_true _ _ ▸ h1 with h9 | h9
        · have := of_decide_eq_true h9; omega
        · exact h9
      have h3 : H[E.2.1 j]? = some (vp_cell (E.2.2 3) (n, .inr (.inr (.inr (.inr (fun i => some (E.2.1 (t + 3 + 9 * i)))))))) := h
      show H[E.2.1 j]? = some (vp_cell (E.2.2 3) (n, .inr (.inr (.inr (.inr (fun i => some (Eb.2.1 (t + 3 + 9 * i))))))))
      rw [h3, vp_cell_q, vp_cell_q]
      unfold arrV
      refine congrArg (fun g => some ({ cls := E.2.2 3, slots := Array.ofFn (n := n) g, vm := .none } : Cell)) (funext fun i => ?_)
      show va_rf (some (E.2.1 (t + 3 + 9 * i.val))) = va_rf (some (Eb.2.1 (t + 3 + 9 * i.val)))
      rw [had _ (of_decide_eq_true (List.all_eq_true.mp h2 i.val (List.mem_range.mpr i.isLt)))]
def iE_L (E0 E1 E2 : KE) (a : Nat) : KE := (E0.1, pick [(0, 133, E1.2.1), (133, 21, fun j => E2.2.1 (133 + j)), (154, 1, fun _ => a)] E0.2.1, E0.2.2)
def iS_L (σ1 σ2 : Sto) : Sto := pick [(0, 133, σ1), (133, 21, fun j => σ2 (133 + j)), (154, 1, fun _ _ => 0)] (fun _ _ => 0)
theorem pw_L : List.Pairwise (fun (x y : Nat × Nat) => x.1 + x.2 ≤ y.1 ∨ y.1 + y.2 ≤ x.1) [(0, 133), (133, 21), (154, 1)] := by decide +kernel
theorem mx_L : ∀ x ∈ ([(0, 133), (133, 21), (154, 1)] : List (Nat × Nat)), x.1 + x.2 ≤ 1000 := by decide +kernel
theorem iQ_L (E0 E1 E2 : KE) (a : Nat) : EQ E0 (iE_L E0 E1 E2 a) := ⟨rfl, rfl, fun k hk => pick_no _ (fun x hx => Nat.le_trans (mx_L x hx) hk)⟩
theorem iE_L1 {E0 E1 E2 : KE} {a j : Nat} (h : j < 133) : (iE_L E0 E1 E2 a).2.1 j = E1.2.1 j := by
  have := pick_at (d := E0.2.1) [(0, 133, E1.2.1), (133, 21, fun j => E2.2.1 (133 + j)), (154, 1, fun _ => a)] 0 0 133 _ rfl pw_L h
  rw [Nat.zero_add] at this
  exact this
theorem iE_L2 {E0 E1 E2 : KE} {a j : Nat} (h : j < 21) : (iE_L E0 E1 E2 a).2.1 (133 + j) = E2.2.1 (133 + j) := pick_at (d := E0.2.1) [(0, 133, E1.2.1), (133, 21, fun j => E2.2.1 (133 + j)), (154, 1, fun _ => a)] 1 133 21 _ rfl pw_L h
theorem iS_L1 {σ1 σ2 : Sto} {j : Nat} (h : j < 133) : iS_L σ1 σ2 j = σ1 j := by
  have := pick_at (d := (fun _ _ => 0 : Sto)) [(0, 133, σ1), (133, 21, fun j => σ2 (133 + j)), (154, 1, fun _ _ => 0)] 0 0 133 _ rfl pw_L h
  rw [Nat.zero_add] at this
  exact this
theorem iS_L2 {σ1 σ2 : Sto} {j : Nat} (h : j < 21) : iS_L σ1 σ2 (133 + j) = σ2 (133 + j) := pick_at (d := (fun _ _ => 0 : Sto)) [(0, 133, σ1), (133, 21, fun j => σ2 (133 + j)), (154, 1, fun _ _ => 0)] 1 133 21 _ rfl pw_L h
theorem kp_all : kpl ksh = kpl shBo ++ (kpl shMo ++ [154]) := by decide +kernel
theorem kp_Bo : kpl shBo = List.range 133 := by decide +kernel
theorem sh_Bo : ∀ j, j < 133 → ksh j = shBo j := fun j h => (if_pos h).symm
theorem sh_Mo : ∀ j, j < 21 → ksh (133 + j) = shMo (133 + j) := fun j h => (if_pos ⟨by omega, by omega⟩).symm
theorem ok_Bo : blkO2 shBo 133 = true := by decide +kernel
theorem ok_Mo : ((List.range 21).all fun j => match shMo (133 + j) with
  | .inl ci => (List.range (knf ci)).all fun i => match kpo ci i with
    | some d => decide (j + d < 21)
    | none => true
  | .inr (t, _) => decide (t < 3)) = true := by decide +kernel
theorem law_ws {E0 E1 E2 : KE} {σ1 σ2 : Sto} {a : Nat} (h1 : EQ E0 E1) (h2 : EQ E0 E2) :
    (kwl (iE_L E0 E1 E2 a) ksh (iS_L σ1 σ2)).map Prod.fst = ((kwl E1 shBo σ1 ++ kwl E2 shMo σ2) ++ [(a, (.inl (E0.2.2 2, 1, .inr (.inl (fun _ => 0))) : va_E))]).map Prod.fst ∧
    ∀ H, va_P E0.1 vwCl ((kwl E1 shBo σ1 ++ kwl E2 shMo σ2) ++ [(a, (.inl (E0.2.2 2, 1, .inr (.inl (fun _ => 0))) : va_E))]) H → va_P E0.1 vwCl (kwl (iE_L E0 E1 E2 a) ksh (iS_L σ1 σ2)) H := by
  have eM : ∀ j, j < 21 → ent (iE_L E0 E1 E2 a) ksh (iS_L σ1 σ2) (133 + j) = ent E2 shMo σ2 (133 + j) := by
    intro j hj
    have h9 := List.all_eq_true.mp ok_Mo j (List.mem_range.mpr hj)
    unfold ent
    rw [iE_L2 hj]
    refine congrArg (Prod.mk _) ?_
    cases hs : shMo (133 + j) with
    | inl ci =>
      rw [hs] at h9
      rw [kce_o hs, kce_o ((sh_Mo j hj).trans hs)]
      refine congrArg (fun l => Sum.inr (ci, l)) (List.map_congr_left fun i hi => ?_)
      have h8 := List.all_eq_true.mp h9 i hi
      unfold kfv
      cases hd : kpo ci i with
      | none => show Value.int (iS_L σ1 σ2 (133 + j) i) = Value.int (σ2 (133 + j) i); rw [iS_L2 hj]
      | some d =>
        rw [hd] at h8
        have h3 : j + d < 21 := of_decide_eq_true h8
        show Value.ref ((iE_L E0 E1 E2 a).2.1 (133 + j + d)) = Value.ref (E2.2.1 (133 + j + d))
        rw [Nat.add_assoc, iE_L2 h3]
    | inr x =>
      obtain ⟨t, n⟩ := x
      rw [hs] at h9
      have h3 : t < 3 := of_decide_eq_true h9
      have hc : (iE_L E0 E1 E2 a).2.2 = E2.2.2 := h2.2.1.symm
      match t, h3, hs with
      | 0, _, hs => rw [kce_i hs, kce_i ((sh_Mo j hj).trans hs), hc, iS_L2 hj]
      | 1, _, hs => rw [kce_z hs, kce_z ((sh_Mo j hj).trans hs), hc, iS_L2 hj]
      | 2, _, hs => rw [kce_l hs, kce_l ((sh_Mo j hj).trans hs), hc, iS_L2 hj]
  have e4 : ent (iE_L E0 E1 E2 a) ksh (iS_L σ1 σ2) 154 = (a, (.inl (E0.2.2 2, 1, .inr (.inl (fun _ => 0))) : va_E)) := by
    unfold ent
    rw [kce_l ks_154]
    rfl
  have eK : kwl (iE_L E0 E1 E2 a) ksh (iS_L σ1 σ2) = ((kpl shBo).map (ent (iE_L E0 E1 E2 a) ksh (iS_L σ1 σ2)) ++ kwl E2 shMo σ2) ++ [(a, (.inl (E0.2.2 2, 1, .inr (.inl (fun _ => 0))) : va_E))] := by
    show (kpl ksh).map (ent (iE_L E0 E1 E2 a) ksh (iS_L σ1 σ2)) = _
    rw [kp_all, List.map_append, List.map_append, ← List.append_assoc]
    refine congr (congrArg _ (congrArg _ ?_)) ?_
    · show _ = (kpl shMo).map (ent E2 shMo σ2)
      rw [kp_Mo, List.map_map, List.map_map]
      exact List.map_congr_left fun j hj => eM j (List.mem_range.mp hj)
    · show [ent _ _ _ 154] = _
      rw [e4]
  rw [eK]
  refine ⟨?_, fun H hP => ?_⟩
  · rw [List.map_append, List.map_append, List.map_append, List.map_append]
    refine congrArg (fun x => x ++ _ ++ _) ?_
    unfold kwl
    rw [List.map_map, List.map_map, kp_Bo]
    exact List.map_congr_left fun j hj => iE_L1 (List.mem_range.mp hj)
  · rw [va_P_iff] at hP ⊢
    intro x hx
    rcases List.mem_append.mp hx with hx | hx
    · rcases List.mem_append.mp hx with hx | hx
      · obtain ⟨k, hk, rfl⟩ := List.mem_map.mp hx
        have hk1 : k < 133 := by rw [kp_Bo] at hk; exact List.mem_range.mp hk
        refine blk_at (E := E1) (Eb := iE_L E0 E1 E2 a) (shX := shBo) (shB := ksh) (σ := σ1) (σb := iS_L σ1 σ2) (w := 133) h1.2.1 (fun j hj => iE_L1 hj) (fun j hj => iS_L1 hj) sh_Bo ok_Bo hk1 (hP _ ?_)
        exact List.mem_append.mpr (.inl (List.mem_append.mpr (.inl (List.mem_map.mpr ⟨k, hk, rfl⟩))))
      · exact hP x (List.mem_append.mpr (.inl (List.mem_append.mpr (.inr hx))))
    · exact hP x (List.mem_append.mpr (.inr hx))
theorem rel_init {σ1 σ2 : Sto} (F1 : BX σ1 25 (mNew 60 3) ∧ (σ1 0 3 = 0 ∧ σ1 0 4 = 0) ∧ (∀ i, σ1 3 i = 0) ∧ (∀ i, σ1 4 i = 0) ∧ (σ1 5 1 = 0 ∧ σ1 5 2 = 0 ∧ σ1 5 3 = -1) ∧ σ1 23 1 = 0) (F2 : σ2 134 = mNew 60 3 ∧ (σ2 133 6 = 0 ∧ σ2 133 21 = 0 ∧ σ2 133 28 = 0 ∧ σ2 133 29 = -1 ∧ σ2 133 34 = 0) ∧ (∀ i, σ2 138 i = 0) ∧ (∀ i, σ2 139 i = 0) ∧ MK σ2) : REL (iS_L σ1 σ2) := by
  obtain ⟨f1, f2, f3, f4, f5, f6⟩ := F1
  obtain ⟨g1, g2, g3, g4, g5⟩ := F2
  have a := fun j (h : j < 133) => @iS_L1 σ1 σ2 j h
  have b := fun j (h : j < 21) => @iS_L2 σ1 σ2 j h
  have b0 : iS_L σ1 σ2 133 = σ2 133 := b 0 (by decide)
  have b1 : iS_L σ1 σ2 134 = mNew 60 3 := (b 1 (by decide)).trans g1
  have b5 : iS_L σ1 σ2 138 = σ2 138 := b 5 (by decide)
  have b6 : iS_L σ1 σ2 139 = σ2 139 := b 6 (by decide)
  have b7 : iS_L σ1 σ2 140 = σ2 140 := b 7 (by decide)
  have b8 : iS_L σ1 σ2 141 = σ2 141 := b 8 (by decide)
  refine ⟨⟨?_, ?_, ?_, ?_⟩, ⟨0, 0, ⟨by omega, by omega⟩, ⟨?_, ?_, ?_⟩, fun j hj => absurd hj (by omega)⟩, fun s hs => ⟨.inl ?_, ?_, fun h => ?_⟩, fun i hi => ?_, ⟨0, by omega, ?_, ?_, fun i hi => absurd hi (by omega), ?_, ?_⟩, ⟨0, by omega, ?_, ?_, fun i hi => absurd hi (by omega)⟩⟩
  · rw [b1]; exact ok_new (.inr (.inr (.inr (.inl rfl)))) ⟨by decide, by decide⟩
  · rw [b1]; exact zr_new
  · rw [b1]; exact bx_frame f1 (fun p h1 h2 => a p (by omega))
  · unfold MK; rw [b7, b8]; exact g5
  · rw [b0]; exact g2.1
  · rw [a 0 (by decide)]; exact f2.2
  · rw [a 0 (by decide)]; exact f2.1
  · rw [a 3 (by decide)]; exact f3 s
  · rw [a 3 (by decide), b6, f3 s]; exact g4 s
  · rw [a 3 (by decide), f3 s] at h; exact absurd h (by decide)
  · rw [a 4 (by decide), b5, f4 i, g3 i]
  · rw [a 5 (by decide)]; exact f5.1
  · rw [b0]; exact g2.2.1
  · rw [a 5 (by decide), b0, f5.2.1, g2.2.2.1]
  · rw [a 5 (by decide), b0, f5.2.2, g2.2.2.2.1]
  · rw [a 23 (by decide)]; exact f6
  · rw [b0]; exact g2.2.2.2.2
theorem ko_all : ∀ q, kNP ≤ q → ksh q = .inr (2, 0) := fun q hq => by
  show kshl.getD q _ = _
  rw [List.getD_eq_getElem?_getD, List.getElem?_eq_none (show kshl.length ≤ q from hq)]
  rfl
theorem dl_0 : decode code 0 = .ok (.new 8, 3) := by decide +kernel
theorem dl_3 : decode code 3 = .ok (.dup, 1) := by decide +kernel
theorem dl_4 : decode code 4 = .ok (.invokespecial 115, 3) := by decide +kernel
theorem dl_7 : decode code 7 = .ok (.astore_n 1, 1) := by decide +kernel
theorem dl_8 : decode code 8 = .ok (.new 116, 3) := by decide +kernel
theorem dl_11 : decode code 11 = .ok (.dup, 1) := by decide +kernel
theorem dl_12 : decode code 12 = .ok (.invokespecial 118, 3) := by decide +kernel
theorem dl_15 : decode code 15 = .ok (.astore_n 2, 1) := by decide +kernel
theorem dl_16 : decode code 16 = .ok (.iconst 1, 1) := by decide +kernel
theorem dl_17 : decode code 17 = .ok (.newarray .long, 2) := by decide +kernel
theorem dl_19 : decode code 19 = .ok (.astore_n 3, 1) := by decide +kernel
theorem dl_20 : decode code 20 = .ok (.iconst 0, 1) := by decide +kernel
theorem dl_21 : decode code 21 = .ok (.istore 4, 2) := by decide +kernel
theorem cI_L_8 : Cond.classLink RL 8 RX6 ∈ kg := kg_in 142 (by decide +kernel) (by decide +kernel)
theorem cI_L_116 : Cond.classLink RL 116 RX7 ∈ kg := kg_in 1352 (by decide +kernel) (by decide +kernel)
theorem nI_X6 : Cond.instantiable RX6 13 ∈ kg := kg_in 143 (by decide +kernel) (by decide +kernel)
theorem nI_X7 : Cond.instantiable RX7 35 ∈ kg := kg_in 1353 (by decide +kernel) (by decide +kernel)
theorem tI_X6 : Cond.initialized RX6 ∈ kg := kg_in 121 (by decide +kernel) (by decide +kernel)
theorem tI_X7 : Cond.initialized RX7 ∈ kg := kg_in 130 (by decide +kernel) (by decide +kernel)
theorem io_l : Cond.arrayClass .long ∈ kg := kg_in 1991 (by decide +kernel) (by decide +kernel)
theorem lI_L_115 : Cond.methodLink RL 115 yX6_init ∈ kg := kg_in 144 (by decide +kernel) (by decide +kernel)
theorem lI_L_118 : Cond.methodLink RL 118 yX7_init ∈ kg := kg_in 1354 (by decide +kernel) (by decide +kernel)
set_option maxHeartbeats 4000000 in
set_option maxRecDepth 100000 in
theorem law_walk {l : Launch} {E0 : KE} {p : Program} {e : Env} {s : State} {m : MethodId} {below : List Frame} {meth : Method} {c : Code} {b L : Nat} {xs : Nat → Int32} {Q : State → Prop} (hst : l.stackTraces = false) (hL : L ≤ 3072) (C : IX l E0 RL code 9 (fun q : Nat => s.heap.size ≤ q) p s m #[Value.ref b] c) (hX : va_X b L xs s s.heap ∧ b < s.heap.size) (hN : XNC s)
    (hend : ∀ (E : KE) k n i σ, k ≤ 601024 → n ≤ 7293034 → LW l E p e s m below meth c b Q k n 2535 (lo4 i) [] σ) :
    IW l E0 (fun q : Nat => s.heap.size ≤ q) p e room_1 s m #[Value.ref b] below meth c 9 Q 0 0 0 [(0, .ref b)] [] [] := by
  refine ii_new (pc := 0) (ci := 6) tyX6 tyX6_ok C dl_0 rfl cI_L_8 nI_X6 tI_X6 (show _ ∧ _ from ⟨Nat.le_of_ble_eq_true rfl, Nat.le_of_ble_eq_true rfl⟩) (fun a1 => ?_)
  refine ii_dup (pc := 3) C dl_3 ?_
  refine ii_init (pc := 4) (M := mI_X6) C (iC_X6 l hst) dl_4 kI_X6 lI_L_115 (by decide) (show _ ≤ 8 from Nat.le_of_ble_eq_true rfl) (show _ ∧ _ from ⟨Nat.le_of_ble_eq_true rfl, Nat.le_of_ble_eq_true rfl⟩) (fun E1 σ1 hE1 hz1 hF1 => ?_)
  subst hz1
  refine ii_astore_n (pc := 7) C [(1, .ref (E1.2.1 0)), (0, .ref b)] dl_7 rfl (by decide) rfl ?_
  refine ii_new (pc := 8) (ci := 7) tyX7 tyX7_ok C dl_8 rfl cI_L_116 nI_X7 tI_X7 (show _ ∧ _ from ⟨Nat.le_of_ble_eq_true rfl, Nat.le_of_ble_eq_true rfl⟩) (fun a2 => ?_)
  refine ii_dup (pc := 11) C dl_11 ?_
  refine ii_init (pc := 12) (M := mI_X7) C (iC_X7 l hst) dl_12 kI_X7 lI_L_118 (by decide) (show _ ≤ 8 from Nat.le_of_ble_eq_true rfl) (show _ ∧ _ from ⟨Nat.le_of_ble_eq_true rfl, Nat.le_of_ble_eq_true rfl⟩) (fun E2 σ2 hE2 hz2 hF2 => ?_)
  subst hz2
  refine ii_astore_n (pc := 15) C [(2, .ref (E2.2.1 133)), (1, .ref (E1.2.1 0)), (0, .ref b)] dl_15 rfl (by decide) rfl ?_
  refine ii_iconst (pc := 16) (v := 1) C dl_16 (by decide) ?_
  refine ii_newL (pc := 17) (N := 1) C dl_17 io_l (by decide) (by decide) (Nat.le_of_ble_eq_true rfl) (show _ ∧ _ from ⟨Nat.le_of_ble_eq_true rfl, Nat.le_of_ble_eq_true rfl⟩) (fun a3 => ?_)
  refine ii_astore_n (pc := 19) C [(3, .ref a3), (2, .ref (E2.2.1 133)), (1, .ref (E1.2.1 0)), (0, .ref b)] dl_19 rfl (by decide) rfl ?_
  refine ii_iconst (pc := 20) (v := 0) C dl_20 (by decide) ?_
  refine ii_istore (pc := 21) C [(4, .int 0), (3, .ref a3), (2, .ref (E2.2.1 133)), (1, .ref (E1.2.1 0)), (0, .ref b)] dl_21 (by decide) rfl ?_
  refine ii_lo [(0, .ref b), (1, .ref (E1.2.1 0)), (2, .ref (E2.2.1 133)), (3, .ref a3), (4, .int 0)] [4, 3, 2, 1, 0] rfl ?_
  refine ii_re (ws' := (kwl E1 shBo σ1 ++ kwl E2 shMo σ2) ++ [(a3, (.inl (E0.2.2 2, 1, .inr (.inl (fun _ => 0))) : va_E))]) rfl ?_
  obtain ⟨w1, w2⟩ := @law_ws E0 E1 E2 σ1 σ2 a3 hE1 hE2
  refine ii_same (kwl (iE_L E0 E1 E2 a3) ksh (iS_L σ1 σ2)) w1 w2 ?_
  intro H locs ls hP hD hS hl
  have hEf := iQ_L E0 E1 E2 a3
  have hW : WD (iE_L E0 E1 E2 a3) ksh (fun q : Nat => s.heap.size ≤ q) (iS_L σ1 σ2) s H := ii_wd C hEf ko_all hP hD
  have CL : LCX l (iE_L E0 E1 E2 a3) p s m c b L xs := ⟨C.1, C.2.1, C.2.2.1, C.2.2.2.1, C.2.2.2.2.1, hX, KST.eq hEf C.2.2.2.2.2.2.2.1, hN, hst⟩
  refine lr_loop (E := iE_L E0 E1 E2 a3) hst CL hL (hend _) 512 _ _ 0 _ (by omega) (by omega) ?_ ?_ (rel_init hF1 hF2) H locs ls hW hS ?_
  · exact Nat.le_of_ble_eq_true rfl
  · exact Nat.le_of_ble_eq_true rfl
  · exact hl
