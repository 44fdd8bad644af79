/-! making objects: worlds re-ordered, blocks set into a larger world -/
def shl (L : List (Nat ⊕ (Nat × Nat))) : KSh := fun k => L.getD k (.inr (2, 0))
theorem shl_out {L : List (Nat ⊕ (Nat × Nat))} (hL : L.length ≤ kNP) : ∀ q, kNP ≤ q → shl L q = .inr (2, 0) := fun q hq => by
  unfold shl
  rw [List.getD_eq_getElem?_getD, List.getElem?_eq_none (by omega)]
  rfl
theorem kwf_shl {L : List (Nat ⊕ (Nat × Nat))} (h : ∀ y ∈ ([(0, 1, .inr (0, 30)), (1, 1, .inr (0, 225)), (2, 1, .inr (0, 225)), (3, 1, .inr (0, 225)), (3, 2, .inr (0, 225)), (3, 3, .inr (0, 225)), (3, 4, .inr (0, 10)), (3, 5, .inr (1, 225)), (3, 6, .inr (0, 225)), (4, 1, .inr (0, 600)), (5, 1, .inl 1), (5, 3, .inr (0, 30)), (5, 4, .inr (0, 30)), (5, 5, .inr (0, 30)), (5, 6, .inr (0, 30)), (5, 7, .inr (0, 30)), (5, 8, .inr (0, 225))] : List (Nat × Nat × (Nat ⊕ (Nat × Nat)))), ∀ q, q < L.length → shl L q = .inl y.1 → shl L (q + y.2.1) = y.2.2) : KWf (shl L) := by
  have key : ∀ (ci d : Nat) (x : Nat ⊕ (Nat × Nat)), (∀ q, q < L.length → shl L q = .inl ci → shl L (q + d) = x) → ∀ q, shl L q = .inl ci → shl L (q + d) = x := by
    intro ci d x h q hq
    refine h q ?_ hq
    rcases Nat.lt_or_ge q L.length with h1 | h1
    · exact h1
    · exfalso
      have : shl L q = .inr (2, 0) := by
        unfold shl
        rw [List.getD_eq_getElem?_getD, List.getElem?_eq_none h1]
        rfl
      rw [this] at hq
      cases hq
  refine ⟨?_, ?_, ?_, ?_, ?_, ?_, ?_, ?_, ?_, ?_, ?_, ?_, ?_, ?_, ?_, ?_, ?_⟩ <;> exact key _ _ _ (h (_, _, _) (by simp))
def shX0 : KSh := shl [.inl 0, .inr (0, 30)]
def shX1 : KSh := shl [.inl 1, .inr (0, 225)]
def shX2 : KSh := shl [.inl 2, .inr (0, 225)]
def shX3 : KSh := shl [.inl 3, .inr (0, 225), .inr (0, 225), .inr (0, 225), .inr (0, 10), .inr (1, 225), .inr (0, 225)]
def shX4 : KSh := shl [.inl 4, .inr (0, 600)]
def shX5 : KSh := shl [.inl 5, .inl 1, .inr (0, 225), .inr (0, 30), .inr (0, 30), .inr (0, 30), .inr (0, 30), .inr (0, 30), .inr (0, 225)]
theorem kp_X0 : kpl shX0 = List.range 2 := by decide +kernel
theorem kp_X1 : kpl shX1 = List.range 2 := by decide +kernel
theorem kp_X2 : kpl shX2 = List.range 2 := by decide +kernel
theorem kp_X3 : kpl shX3 = List.range 7 := by decide +kernel
theorem kp_X4 : kpl shX4 = List.range 2 := by decide +kernel
theorem kp_X5 : kpl shX5 = List.range 9 := by decide +kernel
theorem ko_X0 : ∀ q, kNP ≤ q → shX0 q = .inr (2, 0) := shl_out (by decide)
theorem ko_X1 : ∀ q, kNP ≤ q → shX1 q = .inr (2, 0) := shl_out (by decide)
theorem ko_X5 : ∀ q, kNP ≤ q → shX5 q = .inr (2, 0) := shl_out (by decide)
theorem kwf_xt {sh0 sh : KSh} (hz0 : ∀ q, 1000 ≤ q → ∃ n, sh0 q = .inr (2, n)) (hz : ∀ q, kNP ≤ q → sh q = .inr (2, 0)) (h : KWf sh) : KWf (kxt sh0 sh) := by
  have key : ∀ (ci d : Nat) (x : Nat ⊕ (Nat × Nat)), d < 100 → (∀ q, sh q = .inl ci → sh (q + d) = x) → ∀ q, kxt sh0 sh q = .inl ci → kxt sh0 sh (q + d) = x := by
    intro ci d x hd h q hq
    have h2 : kNP = 135 := rfl
    rcases Nat.lt_or_ge q kNP with h1 | h1
    · rw [kxt_lo (by omega)] at hq ⊢
      exact h q hq
    · obtain ⟨n, hn⟩ := kxt_z hz0 hz q h1
      rw [hn] at hq
      cases hq
  obtain ⟨h1, h2, h3, h4, h5, h6, h7, h8, h9, h10, h11, h12, h13, h14, h15, h16, h17⟩ := h
  exact ⟨key _ _ _ (by decide) h1, key _ _ _ (by decide) h2, key _ _ _ (by decide) h3, key _ _ _ (by decide) h4, key _ _ _ (by decide) h5, key _ _ _ (by decide) h6, key _ _ _ (by decide) h7, key _ _ _ (by decide) h8, key _ _ _ (by decide) h9, key _ _ _ (by decide) h10, key _ _ _ (by decide) h11, key _ _ _ (by decide) h12, key _ _ _ (by decide) h13, key _ _ _ (by decide) h14, key _ _ _ (by decide) h15, key _ _ _ (by decide) h16, key _ _ _ (by decide) h17⟩
theorem kwf_X1 : KWf shX1 := kwf_shl (by decide +kernel)
theorem kwf_X5 : KWf shX5 := kwf_shl (by decide +kernel)
def shBo : KSh := fun k => if k < 133 then ksh k else .inr (2, 0)
def ent (E : KE) (sh : KSh) (σ : Sto) (k : Nat) : Nat × va_E := (E.2.1 k, kce E sh σ k)
theorem va_P_iff {D : va_G} {cl : List vw_C} {ws : va_W} {H : Heap} : va_P D cl ws H ↔ ∀ x ∈ ws, va_at D cl x H :=
  ⟨fun h x hx => by obtain ⟨i, hi⟩ := List.getElem?_of_mem hx; exact h i x hi, fun h k x hx => h x (List.mem_of_getElem? hx)⟩
theorem va_D_iff {A : Nat → Prop} {ws : va_W} : va_D A ws ↔ (ws.map Prod.fst).Nodup ∧ ∀ x ∈ ws, A x.1 := by
  refine ⟨fun h => ⟨?_, fun x hx => by obtain ⟨i, hi⟩ := List.getElem?_of_mem hx; exact h.2 i x hi⟩, fun h => ⟨fun i j x y hx hy hxy => ?_, fun k x hx => h.2 x (List.mem_of_getElem? hx)⟩⟩
  · rw [List.Nodup, List.pairwise_iff_getElem]
    intro i j hi hj hij he
    rw [List.length_map] at hi hj
    rw [List.getElem_map, List.getElem_map] at he
    have := h.1 i j ws[i] ws[j] (List.getElem?_eq_getElem hi) (List.getElem?_eq_getElem hj) he
    omega
  · have hn := h.1
    rw [List.Nodup, List.pairwise_iff_getElem] at hn
    obtain ⟨hi, hx1⟩ := List.getElem?_eq_some_iff.mp hx
    obtain ⟨hj, hy1⟩ := List.getElem?_eq_some_iff.mp hy
    rcases Nat.lt_trichotomy i j with h1 | h1 | h1
    · exact absurd (show (ws.map Prod.fst)[i]'(by rw [List.length_map]; exact hi) = (ws.map Prod.fst)[j]'(by rw [List.length_map]; exact hj) by rw [List.getElem_map, List.getElem_map, hx1, hy1]; exact hxy) (hn i j _ _ h1)
    · exact h1
    · exact absurd (show (ws.map Prod.fst)[j]'(by rw [List.length_map]; exact hj) = (ws.map Prod.fst)[i]'(by rw [List.length_map]; exact hi) by rw [List.getElem_map, List.getElem_map, hx1, hy1]; exact hxy.symm) (hn j i _ _ h1)
theorem va_P_perm {D : va_G} {cl : List vw_C} {w1 w2 : va_W} {H : Heap} (hp : w1.Perm w2) (h : va_P D cl w1 H) : va_P D cl w2 H := va_P_iff.mpr fun x hx => va_P_iff.mp h x (hp.mem_iff.mpr hx)
theorem va_D_perm {A : Nat → Prop} {w1 w2 : va_W} (hp : w1.Perm w2) (h : va_D A w1) : va_D A w2 := by
  obtain ⟨h1, h2⟩ := va_D_iff.mp h
  exact va_D_iff.mpr ⟨(hp.map Prod.fst).nodup_iff.mp h1, fun x hx => h2 x (hp.mem_iff.mpr hx)⟩
section IROWS2
variable {l : Launch} {E0 : KE} {sh0 : KSh} {own : String} {cc : ByteArray} {nL : Nat} {A : Nat → Prop} {p : Program} {e : Env} {R : Room} {s : State} {m : MethodId} {args : Array Value} {below : List Frame} {meth : Method} {c : Code} {Q : State → Prop} {k n pc : Nat} {lo : List (Nat × Value)} {st : List Value} {ws : va_W}
theorem ii_re {ws' : va_W} (h : ws = ws') (kk : IW l E0 A p e R s m args below meth c nL Q k n pc lo st ws') : IW l E0 A p e R s m args below meth c nL Q k n pc lo st ws := h ▸ kk
theorem ii_perm {ws' : va_W} (h : ws.Perm ws') (kk : IW l E0 A p e R s m args below meth c nL Q k n pc lo st ws') : IW l E0 A p e R s m args below meth c nL Q k n pc lo st ws :=
  fun H locs ls hP hD hS hl => kk H locs ls (va_P_perm h hP) (va_D_perm h hD) hS hl
theorem ii_pull {R1 B : va_W} {x : Nat × va_E} (kk : IW l E0 A p e R s m args below meth c nL Q k n pc lo st ((R1 ++ [x]) ++ B)) : IW l E0 A p e R s m args below meth c nL Q k n pc lo st ((R1 ++ B) ++ [x]) :=
  ii_perm (by rw [List.append_assoc, List.append_assoc]; exact List.Perm.append_left R1 List.perm_append_comm) kk
theorem ii_lo (lo' : List (Nat × Value)) (js : List Nat) (h : js.filterMap (fun j => lo[j]?) = lo') (kk : IW l E0 A p e R s m args below meth c nL Q k n pc lo' st ws) : IW l E0 A p e R s m args below meth c nL Q k n pc lo st ws := by
  intro H locs ls hP hD hS hL
  refine kk H locs ls hP hD hS ⟨hL.1, hL.2.1, fun q hq => hL.2.2 q ?_⟩
  subst h
  obtain ⟨j, -, hj⟩ := List.mem_filterMap.mp hq
  exact List.mem_of_getElem? hj
theorem ii_newQ {v : Int32} {ix N : Nat} (C : IX l E0 sh0 own cc nL A p s m args c) (hd : decode cc pc = .ok (.anewarray ix, 3)) (hcl : Cond.classLink own ix "KaleidoscopeBox$State" ∈ kg) (hv : kin v 100000 = true) (hN : v.toNatClampNeg = N) (hb : N * 4 ≤ 536870912) (hf : k + 1 ≤ R.cells ∧ n + N ≤ R.slots) (kk : ∀ q, IW l E0 A p e R s m args below meth c nL Q (k + 1) (n + N) (pc + 3) lo (.ref q :: st) (ws ++ [(q, .inl (E0.2.2 3, N, .inr (.inr (.inr (.inr (fun _ => none))))))])) : IW l E0 A p e R s m args below meth c nL Q k n pc lo (.int v :: st) ws := by
  intro H locs ls hP hD hS hl
  refine va_newq C.1 C.2.1 C.2.2.2.1 (C.2.2.2.2.1 _ hcl) C.2.2.2.2.2.2.2.2.2.1 C.2.2.2.2.2.2.1 hP hD hS C.2.2.2.2.2.1 (fun h => kin_in hv (.inl h)) hN hb hf.1 hf.2 hd fun q cA H1 hK1 hP1 hD1 hS1 => ?_
  have hcA : cA = E0.2.2 3 := by
    obtain ⟨_, _, _, _, _, h⟩ := (C.2.2.2.2.2.2.1.2 3 (E0.2.2 3, .object "KaleidoscopeBox$State") rfl).2
    obtain ⟨_, _, _, _, _, h'⟩ := (hK1.2 4 (cA, .object "KaleidoscopeBox$State") rfl).2
    exact Option.some.inj (h'.symm.trans h)
  subst hcA
  exact kk q H1 locs ls hP1 hD1 hS1 hl
theorem ii_astq {a v N ci : Nat} {r : vw_C} {vs : List Value} {f : Nat → Option Nat} {i : Int32} (q0 : Nat) (C : IX l E0 sh0 own cc nL A p s m args c) (hd : decode cc pc = .ok (.aastore, 1)) (he : ws[q0]? = some (a, .inl (E0.2.2 3, N, .inr (.inr (.inr (.inr f)))))) (hr : r.1 = "KaleidoscopeBox$State") (hv : (v, (.inr (ci, vs) : va_E)) ∈ ws) (hc : vwCl[ci]? = some r) (hin : kin i N = true)
    (kk : IW l E0 A p e R s m args below meth c nL Q k n (pc + 1) lo st (ws.set q0 (a, .inl (E0.2.2 3, N, .inr (.inr (.inr (.inr (va_up f i.toNatClampNeg (some v))))))))) : IW l E0 A p e R s m args below meth c nL Q k n pc lo (.ref v :: .int i :: .ref a :: st) ws := by
  intro H locs ls hP hD hS hl
  obtain ⟨qk, hqk⟩ := List.getElem?_of_mem hv
  exact va_astq (D := E0.1) (r := r) C.1 C.2.1 C.2.2.2.2.2.2.1 hP hD hS q0 3 qk ci he (by rw [hr]; rfl) hqk hc (kin_in hin) hd (fun H1 locs1 hP1 hD1 hS1 => kk H1 locs1 ls hP1 hD1 hS1 hl)
theorem ii_alenQ {a N : Nat} {f : Nat → Option Nat} {v : Int32} (q0 : Nat) (C : IX l E0 sh0 own cc nL A p s m args c) (hd : decode cc pc = .ok (.arraylength, 1)) (he : ws[q0]? = some (a, .inl (E0.2.2 3, N, .inr (.inr (.inr (.inr f)))))) (hv : Int32.ofNat N = v)
    (kk : IW l E0 A p e R s m args below meth c nL Q k n (pc + 1) lo (.int v :: st) ws) : IW l E0 A p e R s m args below meth c nL Q k n pc lo (.ref a :: st) ws :=
  fun H locs ls hP hD hS hl => va_alen (D := E0.1) C.1 C.2.1 C.2.2.2.2.2.2.1 hP q0 3 he rfl hv hd (kk H locs ls hP hD hS hl)
theorem ii_qcong {a N : Nat} {cA : ClassId} {f : Nat → Option Nat} (f' : Nat → Option Nat) (q0 : Nat) (he : ws[q0]? = some (a, .inl (cA, N, .inr (.inr (.inr (.inr f)))))) (hf : ∀ j, j < N → f j = f' j) (kk : IW l E0 A p e R s m args below meth c nL Q k n pc lo st (ws.set q0 (a, .inl (cA, N, .inr (.inr (.inr (.inr f'))))))) : IW l E0 A p e R s m args below meth c nL Q k n pc lo st ws := by
  intro H locs ls hP hD hS hl
  have hlen := (List.getElem?_eq_some_iff.mp he).1
  refine kk H locs ls (fun k x hx => ?_) (hD.set he) hS hl
  by_cases hk : k = q0
  · subst hk
    rw [List.getElem?_set_self hlen] at hx
    cases hx
    have h1 : H[a]? = some (vp_cell cA (N, .inr (.inr (.inr (.inr f))))) := hP _ _ he
    show H[a]? = some (vp_cell cA (N, .inr (.inr (.inr (.inr f')))))
    rw [h1, vp_cell_q, vp_cell_q]
    unfold arrV
    refine congrArg (fun g => some ({ cls := cA, slots := Array.ofFn (n := N) g, vm := .none } : Cell)) (funext fun j => ?_)
    show va_rf (f j.val) = va_rf (f' j.val)
    rw [hf j.val j.isLt]
  · rw [List.getElem?_set_ne (Ne.symm hk)] at hx
    exact hP k x hx
end IROWS2
theorem kfirst (E : KE) (σ : Sto) : (E.2.1 0, (.inr (5, (List.range (knf 5)).map (kfv E σ 0 5)) : va_E)) ∈ kwl E shX5 σ := by
  unfold kwl
  rw [kp_X5]
  exact List.mem_map.mpr ⟨0, List.mem_range.mpr (by decide), by rw [kce_o (show shX5 0 = .inl 5 from rfl)]⟩
theorem bx_move {σ1 σ : Sto} {b : Nat} {v : Vc} (h : BX σ1 0 v) (hf : ∀ j, j < 9 → σ (b + j) = σ1 j) : BX σ b v := by
  obtain ⟨⟨h1, h2⟩, h3, h4, h5⟩ := h
  have e := fun j hj => hf j hj
  refine ⟨⟨?_, fun c hc => ?_⟩, ?_, fun k hk => ?_, fun c hc => ?_⟩
  · rw [hf 1 (by omega)]; exact h1
  · rw [Nat.add_assoc, hf 2 (by omega)]; exact h2 c hc
  · rw [show σ b = σ1 0 from hf 0 (by omega)]; exact h3
  · rw [hf 3 (by omega), hf 4 (by omega), hf 5 (by omega), hf 6 (by omega), hf 7 (by omega)]; exact h4 k hk
  · rw [hf 8 (by omega)]; exact h5 c hc
def pick {α : Type} : List (Nat × Nat × (Nat → α)) → (Nat → α) → Nat → α
  | [], d, k => d k
  | x :: L, d, k => if x.1 ≤ k ∧ k < x.1 + x.2.1 then x.2.2 (k - x.1) else pick L d k
theorem pick_at {α : Type} {d : Nat → α} {j : Nat} : ∀ (L : List (Nat × Nat × (Nat → α))) (i b w : Nat) (f : Nat → α), L[i]? = some (b, w, f) → (L.map fun x => (x.1, x.2.1)).Pairwise (fun x y => x.1 + x.2 ≤ y.1 ∨ y.1 + y.2 ≤ x.1) → j < w → pick L d (b + j) = f j
  | [], i, b, w, f, h, _, _ => by cases h
  | x :: L, 0, b, w, f, h, _, hj => by
    cases h
    show (if b ≤ b + j ∧ b + j < b + w then f (b + j - b) else _) = _
    rw [if_pos ⟨by omega, by omega⟩, Nat.add_sub_cancel_left]
  | x :: L, i + 1, b, w, f, h, hp, hj => by
    rw [List.map_cons, List.pairwise_cons] at hp
    have h1 := hp.1 (b, w) (List.mem_map.mpr ⟨(b, w, f), List.mem_of_getElem? (show L[i]? = _ from h), rfl⟩)
    show (if x.1 ≤ b + j ∧ b + j < x.1 + x.2.1 then x.2.2 (b + j - x.1) else pick L d (b + j)) = _
    dsimp only at h1
    rw [if_neg (by omega)]
    exact pick_at L i b w f h hp.2 hj
theorem pick_no {α : Type} {d : Nat → α} {k : Nat} : ∀ (L : List (Nat × Nat × (Nat → α))), (∀ x ∈ L.map (fun x => (x.1, x.2.1)), x.1 + x.2 ≤ k) → pick L d k = d k
  | [], _ => rfl
  | x :: L, h => by
    have h1 := h (x.1, x.2.1) (List.mem_map.mpr ⟨x, List.mem_cons_self, rfl⟩)
    dsimp only at h1
    show (if x.1 ≤ k ∧ k < x.1 + x.2.1 then _ else pick L d k) = _
    rw [if_neg (by omega)]
    exact pick_no L (fun y hy => h y (List.mem_cons_of_mem _ hy))
/-- within a block of w places all references stay -/
def blkOK (sh : KSh) (w : Nat) : Bool := (List.range w).all fun j => match sh j with
  | .inl ci => (List.range (knf ci)).all fun i => match kpo ci i with
    | some d => decide (j + d < w)
    | none => true
  | .inr (t, _) => decide (t < 3)
theorem kwl_blk {E Eb : KE} {shX shB : KSh} {σ σb : Sto} (b w : Nat) (hpl : kpl shX = List.range w) (hE : E.2.2 = Eb.2.2) (had : ∀ j, j < w → Eb.2.1 (b + j) = E.2.1 j) (hσ : ∀ j, j < w → σb (b + j) = σ j) (hsh : ∀ j, j < w → shB (b + j) = shX j) (hok : blkOK shX w = true) : kwl E shX σ = ((List.range w).map (fun j => b + j)).map (ent Eb shB σb) := by
  unfold kwl
  rw [hpl, List.map_map]
  refine List.map_congr_left fun j hj => ?_
  rw [List.mem_range] at hj
  show (E.2.1 j, kce E shX σ j) = (Eb.2.1 (b + j), kce Eb shB σb (b + j))
  rw [had j hj]
  have h1 := List.all_eq_true.mp hok j (List.mem_range.mpr hj)
  refine congrArg (Prod.mk _) ?_
  cases hs : shX j with
  | inl ci =>
    rw [hs] at h1
    rw [kce_o hs, kce_o ((hsh j hj).trans hs)]
    refine congrArg (fun l => Sum.inr (ci, l)) (List.map_congr_left fun i hi => ?_)
    have h2 := List.all_eq_true.mp h1 i hi
    unfold kfv
    cases hd : kpo ci i with
    | none => show Value.int (σ j i) = Value.int (σb (b + j) i); rw [hσ j hj]
    | some d =>
      rw [hd] at h2
      have h3 : j + d < w := of_decide_eq_true h2
      show Value.ref (E.2.1 (j + d)) = Value.ref (Eb.2.1 (b + j + d))
      rw [Nat.add_assoc, had _ h3]
  | inr x =>
    obtain ⟨t, n⟩ := x
    rw [hs] at h1
    have h3 : t < 3 := of_decide_eq_true h1
    match t, h3, hs with
    | 0, _, hs => rw [kce_i hs, kce_i ((hsh j hj).trans hs), hE, hσ j hj]
    | 1, _, hs => rw [kce_z hs, kce_z ((hsh j hj).trans hs), hE, hσ j hj]
    | 2, _, hs => rw [kce_l hs, kce_l ((hsh j hj).trans hs), hE, hσ j hj]
