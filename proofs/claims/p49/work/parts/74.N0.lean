/-! the law's own body: rows over a world that is some cells and the box -/
def LWX (l : Launch) (E0 : KE) (sh0 : KSh) (A : Nat → Prop) (p : Program) (s : State) (m : MethodId) (args : Array Value) (c : Code) : Prop :=
  IX l E0 sh0 RL code 4 A p s m args c ∧ va_K E0.1 vwCl (tyb E0) s ∧ JF E0 A s s.heap
theorem la_join {A0 A1 : Nat → Prop} {D : va_G} {wc wr w1 : va_W} {H H1 : Heap} (hP : va_P D vwCl (wc ++ wr) H) (hD : va_D A0 (wc ++ wr)) (hk : ∀ q : Nat, q < H.size → ¬ A1 q → H1[q]? = H[q]?) (hA1 : ∀ q, A1 q → (∃ x ∈ wc, q = x.1) ∨ H.size ≤ q) (hF : ∀ q, A1 q → A0 q) (hP1 : va_P D vwCl w1 H1) (hD1 : va_D A1 w1) : va_P D vwCl (w1 ++ wr) H1 ∧ va_D A0 (w1 ++ wr) := by
  obtain ⟨d1, d2⟩ := va_D_iff.mp hD
  rw [List.map_append, List.nodup_append] at d1
  obtain ⟨e1, e2⟩ := va_D_iff.mp hD1
  have key : ∀ x ∈ wr, x.1 < H.size ∧ ¬ A1 x.1 := by
    intro x hx
    obtain ⟨i, hi⟩ := List.getElem?_of_mem (List.mem_append.mpr (.inr hx) : x ∈ wc ++ wr)
    have hl := (hP i x hi).lt
    refine ⟨hl, fun h => ?_⟩
    rcases hA1 _ h with ⟨y, hy, hxy⟩ | h
    · exact d1.2.2 y.1 (List.mem_map.mpr ⟨y, hy, rfl⟩) x.1 (List.mem_map.mpr ⟨x, hx, rfl⟩) hxy.symm
    · exact absurd hl (Nat.not_lt.mpr h)
  refine ⟨va_P_iff.mpr fun x hx => ?_, va_D_iff.mpr ⟨?_, fun x hx => ?_⟩⟩
  · rcases List.mem_append.mp hx with hx | hx
    · exact va_P_iff.mp hP1 x hx
    · obtain ⟨g1, g2⟩ := key x hx
      exact (va_P_iff.mp hP x (List.mem_append.mpr (.inr hx))).kept (hk x.1 g1 g2)
  · rw [List.map_append, List.nodup_append]
    refine ⟨e1, d1.2.1, fun a ha b hb hab => ?_⟩
    obtain ⟨x, hx, rfl⟩ := List.mem_map.mp ha
    obtain ⟨y, hy, rfl⟩ := List.mem_map.mp hb
    exact (key y hy).2 (by rw [← hab]; exact e2 x hx)
  · rcases List.mem_append.mp hx with hx | hx
    · exact hF _ (e2 x hx)
    · exact d2 x (List.mem_append.mpr (.inr hx))
theorem va_P_l {D : va_G} {w1 w2 : va_W} {H : Heap} (h : va_P D vwCl (w1 ++ w2) H) : va_P D vwCl w1 H := va_P_iff.mpr fun x hx => va_P_iff.mp h x (List.mem_append.mpr (.inl hx))
theorem va_D_l {A : Nat → Prop} {w1 w2 : va_W} (h : va_D A (w1 ++ w2)) : va_D A w1 := by
  obtain ⟨d1, d2⟩ := va_D_iff.mp h
  rw [List.map_append, List.nodup_append] at d1
  exact va_D_iff.mpr ⟨d1.1, fun x hx => d2 x (List.mem_append.mpr (.inl hx))⟩
section LROWS
variable {l : Launch} {E0 : KE} {sh0 : KSh} {A : Nat → Prop} {p : Program} {e : Env} {R : Room} {s : State} {m : MethodId} {args : Array Value} {below : List Frame} {meth : Method} {c : Code} {Q : State → Prop} {k n pc : Nat} {lo : List (Nat × Value)} {st stk : List Value}
theorem kx_call2 {H H0 : Heap} {locs : List Loc} {ls : Array Slot} {mc ms : Nat} {st0 rest : List Value} {A1 A0 : Nat → Prop} {a : Array Value} {free : Addr → Prop} {E : KE} {sh : KSh} {ret : Option FieldType} {o1 : KO} (hr : vx_Run p l e R s m args below meth c H locs k n mc ms (F0 m pc ls st0) rest (KQ E sh ret o1 A1 a) (KX E sh o1 A1) free) (hS : va_S A0 H0 H locs) (hA : ∀ q, q < H.size → A1 q → A0 q) (hf : ∀ q, free q → A0 q) (h0' : o1.1 = 0)
    (kk : ∀ (t : State) (H1 : Heap) (locs1 : List Loc), s.vm.Alike t.vm → WD E sh A1 o1.2.2 t H1 → (∀ q : Nat, q < H.size → ¬ A1 q → H1[q]? = H[q]?) → va_S A0 H0 H1 locs1 → W p l e R s m args below meth c H1 locs1 (k + mc) (n + ms) Q (F0 m (pc + 3) ls ((krv ret (kmv E o1.2.1)).toList ++ rest))) : W p l e R s m args below meth c H locs k n Q (F0 m pc ls st0) := by
  intro T hT X
  rcases hr T hT X with ⟨v, st₀, t, T', L, h0, X', hL, e1, e2, ⟨⟨ho, hv, hw⟩, hF⟩, st⟩ | ⟨q, st₀, t, T', L, E9, ce, h0, X', hL, e1, e2, ⟨⟨ho, hE, hw⟩, hF⟩, hce, hcv, hcl, st⟩
  · cases hv
    obtain ⟨k1, k2, k3⟩ := vx_keep h0 e1 hS hA hf hL hF
    obtain ⟨t2, a1, b1⟩ := kk t T'.heap (locs ++ L) (by rw [← e2]; exact X'.warmed.alike) (by rw [e1]; exact hw) k2 k3 T' rfl X'
    exact ⟨t2, st t2 a1, b1⟩
  · exact absurd h0' ho
theorem la_kwa {E : KE} {sh : KSh} {σ : Sto} {sz : Nat} : ∀ q, kwa E sh sz q → (∃ x ∈ kwl E sh σ, q = x.1) ∨ sz ≤ q := by
  intro q h
  rcases h with ⟨j, hj, rfl⟩ | h
  · exact .inl ⟨_, List.mem_map.mpr ⟨j, hj, rfl⟩, rfl⟩
  · exact .inr h
theorem la_V (raws : va_W) {E : KE} {sh : KSh} {σ : Sto} {M' : KM} {y : MethodName} {q ci ix : Nat} (As : List Value) {o1 : KO} {C0 : String} {T0 : u_T} {N0 : Nat} (C : LWX l E0 sh0 A p s m args c) (hE : EQ E0 E) (hz0 : ∀ q, 1000 ≤ q → ∃ n, sh0 q = .inr (2, n)) (hz : ∀ q, kNP ≤ q → sh q = .inr (2, 0)) (hc : CT (kxt sh0 sh) l M' y (.ref q :: As) σ o1) (h0 : o1.1 = 0) (hd : decode code pc = .ok (.invokevirtual ix, 3)) (hst : stk = (As.map (kmv E)).reverse ++ .ref (E.2.1 q) :: st)
    (hs : sh q = .inl ci) (hcl : vwCl[ci]? = some (C0, T0, N0)) (hy : KMV y M' C0 As.length) (hlk : Cond.methodLink RL ix y ∈ kg)
    (hR : M'.2.2.2.2.1.frames + 1 ≤ R.frames ∧ 8 + (M'.2.2.1 + 11) + M'.2.2.2.2.1.locals ≤ R.locals) (hcat : (st.map fun v => v.category).sum ≤ 8) (hf : k + M'.2.2.2.2.2.1 ≤ R.cells ∧ n + M'.2.2.2.2.2.2 ≤ R.slots)
    (kk : IW l E0 A p e R s m args below meth c 4 Q (k + M'.2.2.2.2.2.1) (n + M'.2.2.2.2.2.2) (pc + 3) lo ((krv M'.2.2.2.1 (kmv E o1.2.1)).toList ++ st) (raws ++ kwl E sh o1.2.2)) : IW l E0 A p e R s m args below meth c 4 Q k n pc lo stk (raws ++ kwl E sh σ) := by
  intro H locs ls hP0 hD0 hS hl
  subst hst
  obtain ⟨C, -, -⟩ := C
  have hP1 := va_P_perm List.perm_append_comm hP0
  have hD1 := va_D_perm List.perm_append_comm hD0
  rw [← kwl_xt sh0] at hP1 hD1
  have hW := ii_wd C hE (kxt_z hz0 hz) (va_P_l hP1) (va_D_l hD1)
  obtain ⟨hy0, hyr, hy1, hy2, hy3, hy4⟩ := hy
  have hts := C.2.2.2.2.1
  obtain ⟨j0, hj0, -⟩ := kwl_at (E := E) σ (hW.at (kxt_o (sh0 := sh0) hz hs) (fun n h => by cases h))
  have hsub := kwa_sub hW C.2.2.2.2.2.1 hS.1
  have hK := KST.eqs hE (fun q hq => kxt_hi (sh := sh) hq) C.2.2.2.2.2.2.2.1
  have hrun := vx_runV (p := p) (l := l) (e := e) (R := R) (s := s) (m := m) (args := args) (below := below) (meth := meth) (c := c) (H := H) (locs := locs) (cells := k) (slots := n) (g := F0 m pc ls ((As.map (kmv E)).reverse ++ .ref (E.2.1 q) :: st)) (As := As.map (kmv E)) (rest := st) (b := E.2.1 q) (C := C0) (y := y) (bytes := M'.2.1) (maxL := M'.2.2.1) (ret := M'.2.2.2.1) (own := RL) (index := ix) (nL := 4) ⟨C.1, C.2.1, C.2.2.1, C.2.2.2.1, hts⟩ (hc E H.size) (cwV As.length hts (kgV hlk hy1 hy2 hy3 hy4) rfl hyr.1 hyr.2 hy0 hR)
    ⟨kblind E (kxt sh0 sh) (.ref q :: As) _ _, va_recv (q0 := j0) hW.2.1 hW.1 hcl (hj0.trans (by rw [kce_o (kxt_o (sh0 := sh0) hz hs)])), fun U hU hWU => ⟨rfl, by rw [hU], by rw [hU]; exact hW.call hWU, by rw [hU]; exact ((hK.kept hS.2.1).moved hWU).narrow hsub⟩⟩
    rfl (List.length_map _) hl.1 rfl (lv_room hcat) hd hf
  refine kx_call2 (ret := M'.2.2.2.1) (o1 := o1) hrun hS (fun q _ h => hsub q h) hsub h0 (fun t H1 locs1 hvm hw hk hS1 => ?_)
  obtain ⟨j1, j2⟩ := la_join hP1 hD1 hk la_kwa hsub (by rw [← hE.1]; exact hw.1) hw.2.2.1
  rw [kwl_xt] at j1 j2
  exact kk H1 locs1 ls (va_P_perm List.perm_append_comm j1) (va_D_perm List.perm_append_comm j2) hS1 hl
theorem la_S (raws : va_W) {E : KE} {sh : KSh} {σ : Sto} {M' : KM} {y : MethodName} {ix : Nat} (As : List Value) {o1 : KO} (C : LWX l E0 sh0 A p s m args c) (hE : EQ E0 E) (hz0 : ∀ q, 1000 ≤ q → ∃ n, sh0 q = .inr (2, n)) (hz : ∀ q, kNP ≤ q → sh q = .inr (2, 0)) (hc : CT (kxt sh0 sh) l M' y As σ o1) (h0 : o1.1 = 0) (hd : decode code pc = .ok (.invokestatic ix, 3)) (hst : stk = (As.map (kmv E)).reverse ++ st)
    (hy : KMS y M' As.length) (hlk : Cond.methodLink RL ix y ∈ kg)
    (hR : M'.2.2.2.2.1.frames + 1 ≤ R.frames ∧ 8 + (M'.2.2.1 + 11) + M'.2.2.2.2.1.locals ≤ R.locals) (hcat : (st.map fun v => v.category).sum ≤ 8) (hf : k + M'.2.2.2.2.2.1 ≤ R.cells ∧ n + M'.2.2.2.2.2.2 ≤ R.slots)
    (kk : IW l E0 A p e R s m args below meth c 4 Q (k + M'.2.2.2.2.2.1) (n + M'.2.2.2.2.2.2) (pc + 3) lo ((krv M'.2.2.2.1 (kmv E o1.2.1)).toList ++ st) (raws ++ kwl E sh o1.2.2)) : IW l E0 A p e R s m args below meth c 4 Q k n pc lo stk (raws ++ kwl E sh σ) := by
  intro H locs ls hP0 hD0 hS hl
  subst hst
  obtain ⟨C, -, -⟩ := C
  have hP1 := va_P_perm List.perm_append_comm hP0
  have hD1 := va_D_perm List.perm_append_comm hD0
  rw [← kwl_xt sh0] at hP1 hD1
  have hW := ii_wd C hE (kxt_z hz0 hz) (va_P_l hP1) (va_D_l hD1)
  obtain ⟨hy0, hyr, hy1, hy3, hy4⟩ := hy
  have hts := C.2.2.2.2.1
  have hsub := kwa_sub hW C.2.2.2.2.2.1 hS.1
  have hK := KST.eqs hE (fun q hq => kxt_hi (sh := sh) hq) C.2.2.2.2.2.2.2.1
  have hrun := vx_runS (p := p) (l := l) (e := e) (R := R) (s := s) (m := m) (args := args) (below := below) (meth := meth) (c := c) (H := H) (locs := locs) (cells := k) (slots := n) (g := F0 m pc ls ((As.map (kmv E)).reverse ++ st)) (As := As.map (kmv E)) (rest := st) (y := y) (bytes := M'.2.1) (maxL := M'.2.2.1) (ret := M'.2.2.2.1) (own := RL) (index := ix) (nL := 4) ⟨C.1, C.2.1, C.2.2.1, C.2.2.2.1, hts⟩ (hc E H.size) (va_cwS As.length hts (kgS hlk hy1 hy3 hy4) rfl hyr.1 hyr.2 hy0 hR)
    ⟨kblind E (kxt sh0 sh) As _ _, fun U hU hWU => ⟨rfl, by rw [hU], by rw [hU]; exact hW.call hWU, by rw [hU]; exact ((hK.kept hS.2.1).moved hWU).narrow hsub⟩⟩
    rfl (List.length_map _) hl.1 rfl (lv_room hcat) hd hf
  refine kx_call2 (ret := M'.2.2.2.1) (o1 := o1) hrun hS (fun q _ h => hsub q h) hsub h0 (fun t H1 locs1 hvm hw hk hS1 => ?_)
  obtain ⟨j1, j2⟩ := la_join hP1 hD1 hk la_kwa hsub (by rw [← hE.1]; exact hw.1) hw.2.2.1
  rw [kwl_xt] at j1 j2
  exact kk H1 locs1 ls (va_P_perm List.perm_append_comm j1) (va_D_perm List.perm_append_comm j2) hS1 hl
/-- the same call with a text that the law has made -/
theorem la_T (raws : va_W) {E E' : KE} {sh : KSh} {sh1 : KSh} {σ : Sto} {M' : KM} {y : MethodName} {ix : Nat} (As : List Value) {o1 : KO} (C : LWX l E0 sh0 A p s m args c) (hE : E'.1 = E0.1 ∧ E'.2.2 = E0.2.2) (hz1 : ∀ q, 1000 ≤ q → ∃ n, sh1 q = .inr (2, n)) (hz : ∀ q, kNP ≤ q → sh q = .inr (2, 0)) (hkw : ∀ τ, kwl E' sh τ = kwl E sh τ)
    (hKS : ∀ (H : Heap) (locs : List Loc), va_P E0.1 vwCl (raws ++ kwl E sh σ) H → va_D A (raws ++ kwl E sh σ) → va_S A s.heap H locs → ∀ U : State, U.heap = H → s.WarmedH U.vm → KST E' (kxt sh1 sh) (kwa E' (kxt sh1 sh) H.size) U U.heap)
    (hc : CT (kxt sh1 sh) l M' y As σ o1) (h0 : o1.1 = 0) (hd : decode code pc = .ok (.invokestatic ix, 3)) (hst : stk = (As.map (kmv E')).reverse ++ st)
    (hy : KMS y M' As.length) (hlk : Cond.methodLink RL ix y ∈ kg)
    (hR : M'.2.2.2.2.1.frames + 1 ≤ R.frames ∧ 8 + (M'.2.2.1 + 11) + M'.2.2.2.2.1.locals ≤ R.locals) (hcat : (st.map fun v => v.category).sum ≤ 8) (hf : k + M'.2.2.2.2.2.1 ≤ R.cells ∧ n + M'.2.2.2.2.2.2 ≤ R.slots)
    (kk : IW l E0 A p e R s m args below meth c 4 Q (k + M'.2.2.2.2.2.1) (n + M'.2.2.2.2.2.2) (pc + 3) lo ((krv M'.2.2.2.1 (kmv E' o1.2.1)).toList ++ st) (raws ++ kwl E sh o1.2.2)) : IW l E0 A p e R s m args below meth c 4 Q k n pc lo stk (raws ++ kwl E sh σ) := by
  intro H locs ls hP0 hD0 hS hl
  subst hst
  obtain ⟨C, -, -⟩ := C
  have hKS' := hKS H locs hP0 hD0 hS
  have hP1 := va_P_perm List.perm_append_comm hP0
  have hD1 := va_D_perm List.perm_append_comm hD0
  rw [← hkw, ← kwl_xt sh1] at hP1 hD1
  have hW : WD E' (kxt sh1 sh) A σ s H := ⟨by rw [hE.1]; exact va_P_l hP1, by rw [hE.1]; unfold kty; rw [hE.2]; exact C.2.2.2.2.2.2.1, va_D_l hD1, kxt_z hz1 hz⟩
  obtain ⟨hy0, hyr, hy1, hy3, hy4⟩ := hy
  have hts := C.2.2.2.2.1
  have hsub := kwa_sub hW C.2.2.2.2.2.1 hS.1
  have hrun := vx_runS (p := p) (l := l) (e := e) (R := R) (s := s) (m := m) (args := args) (below := below) (meth := meth) (c := c) (H := H) (locs := locs) (cells := k) (slots := n) (g := F0 m pc ls ((As.map (kmv E')).reverse ++ st)) (As := As.map (kmv E')) (rest := st) (y := y) (bytes := M'.2.1) (maxL := M'.2.2.1) (ret := M'.2.2.2.1) (own := RL) (index := ix) (nL := 4) ⟨C.1, C.2.1, C.2.2.1, C.2.2.2.1, hts⟩ (hc E' H.size) (va_cwS As.length hts (kgS hlk hy1 hy3 hy4) rfl hyr.1 hyr.2 hy0 hR)
    ⟨kblind E' (kxt sh1 sh) As _ _, fun U hU hWU => ⟨rfl, by rw [hU], by rw [hU]; exact hW.call hWU, hKS' U hU hWU⟩⟩
    rfl (List.length_map _) hl.1 rfl (lv_room hcat) hd hf
  refine kx_call2 (ret := M'.2.2.2.1) (o1 := o1) hrun hS (fun q _ h => hsub q h) hsub h0 (fun t H1 locs1 hvm hw hk hS1 => ?_)
  obtain ⟨j1, j2⟩ := la_join hP1 hD1 hk la_kwa hsub (by rw [← hE.1]; exact hw.1) hw.2.2.1
  rw [kwl_xt, hkw] at j1 j2
  exact kk H1 locs1 ls (va_P_perm List.perm_append_comm j1) (va_D_perm List.perm_append_comm j2) hS1 hl
theorem la_free {wc wr : va_W} {H : Heap} {locs : List Loc} (hA : ∀ q, s.heap.size ≤ q → A q) (hD : va_D A (wc ++ wr)) (hS : va_S A s.heap H locs) : ∀ q, va_A wc H.size q → A q := by
  intro q h
  rcases h with ⟨k, e, h⟩ | h
  · exact (va_D_iff.mp hD).2 (q, e) (List.mem_append.mpr (.inl (List.mem_of_getElem? h)))
  · exact hA q (Nat.le_trans hS.1 h)
theorem la_A {wc : va_W} {sz : Nat} : ∀ q, va_A wc sz q → (∃ x ∈ wc, q = x.1) ∨ sz ≤ q := by
  intro q h
  rcases h with ⟨k, e, h⟩ | h
  · exact .inl ⟨_, List.mem_of_getElem? h, rfl⟩
  · exact .inr h
theorem la_pre {wc wr : va_W} {H : Heap} {locs : List Loc} (hA : ∀ q, s.heap.size ≤ q → A q) (hK : va_K E0.1 vwCl (tyb E0) s) (hF : JF E0 A s s.heap) (hP : va_P E0.1 vwCl (wc ++ wr) H) (hD : va_D A (wc ++ wr)) (hS : va_S A s.heap H locs) {U : State} (hU : U.heap = H) (hW : s.WarmedH U.vm) : U.heap.size = H.size ∧ va_P E0.1 vwCl wc U.heap ∧ va_D (va_A wc H.size) wc ∧ va_K E0.1 vwCl (tyb E0) U ∧ JF E0 (va_A wc H.size) U U.heap :=
  ⟨by rw [hU], by rw [hU]; exact va_P_l hP, (va_D_l hD).self, va_K.moved hW.alike hK, by rw [hU]; exact ((hF.kept hS.2.1).moved hW).narrow (la_free hA hD hS)⟩
variable {M1 : KM} {y1 : MethodName} {QQ1 : Option Value → va_W → Prop} {wc wr : va_W} {ix : Nat} {As : List Value}
theorem la_JV {b ci q0 : Nat} {fs : List Value} {C0 : String} {T0 : u_T} {N0 : Nat} (C : LWX l E0 sh0 A p s m args c) (hc : JC l E0 y1 M1 (.ref b :: As) wc QQ1) (hd : decode code pc = .ok (.invokevirtual ix, 3)) (hst : stk = As.reverse ++ .ref b :: st)
    (he : wc[q0]? = some (b, .inr (ci, fs))) (hcl : vwCl[ci]? = some (C0, T0, N0)) (hy : KMW y1 M1 As.length) (hlk : Cond.methodLink RL ix y1 ∈ kg) (hin : Cond.instanceMethod y1 ∈ kg) (hse : Cond.selects C0 y1 y1 ∈ kg)
    (hRm : M1.2.2.2.2.1.frames + 1 ≤ R.frames ∧ 8 + (M1.2.2.1 + 11) + M1.2.2.2.2.1.locals ≤ R.locals) (hcat : (st.map fun v => v.category).sum ≤ 8) (hf : k + M1.2.2.2.2.2.1 ≤ R.cells ∧ n + M1.2.2.2.2.2.2 ≤ R.slots)
    (kk : ∀ (v : Option Value) (w : va_W), QQ1 v w → IW l E0 A p e R s m args below meth c 4 Q (k + M1.2.2.2.2.2.1) (n + M1.2.2.2.2.2.2) (pc + 3) lo (v.toList ++ st) (w ++ wr)) : IW l E0 A p e R s m args below meth c 4 Q k n pc lo stk (wc ++ wr) := by
  intro H locs ls hP hD hS hl
  subst hst
  obtain ⟨⟨hx, hb, hml, hown, hts, hA, -⟩, hK, hF⟩ := C
  obtain ⟨y2, y3, y4, y5⟩ := hy
  have hfr := la_free hA hD hS
  refine j_call (QQ1 := QQ1) (D := E0.1) (A1 := va_A wc H.size) (va_runV (As := As) (rest := st) (b := b) (C := C0) (n := As.length) (nL := 4) ⟨hx, hb, hml, hown, hts⟩ (hc H.size) ⟨callB_of As.length hts (kgc y5) rfl y3.1 y3.2 (hts _ y4) (hts _ hlk) y2 hRm, hts _ hin, hts _ hse⟩ ⟨j_blind, va_recv (q0 := q0) hK (va_P_l hP) hcl he, fun U hU hW => ⟨rfl, la_pre hA hK hF hP hD hS hU hW⟩⟩ rfl rfl hl.1 rfl (lv_room hcat) hd hf) hS (fun q _ h => hfr q h) hfr (fun v w H1 locs1 hq hp hd1 hk hS1 => ?_)
  obtain ⟨j1, j2⟩ := la_join hP hD hk la_A hfr hp hd1
  exact kk v w hq H1 locs1 ls j1 j2 hS1 hl
theorem la_JI {b : Nat} (C : LWX l E0 sh0 A p s m args c) (hc : JC l E0 y1 M1 (.ref b :: As) wc QQ1) (hd : decode code pc = .ok (.invokespecial ix, 3)) (hst : stk = As.reverse ++ .ref b :: st)
    (hy : KMW y1 M1 As.length) (hlk : Cond.methodLink RL ix y1 ∈ kg) (hin : Cond.instanceMethod y1 ∈ kg) (hnm : y1.name = "<init>") (hret : M1.2.2.2.1 = none)
    (hRm : M1.2.2.2.2.1.frames + 1 ≤ R.frames ∧ 8 + (M1.2.2.1 + 11) + M1.2.2.2.2.1.locals ≤ R.locals) (hcat : (st.map fun v => v.category).sum ≤ 8) (hf : k + M1.2.2.2.2.2.1 ≤ R.cells ∧ n + M1.2.2.2.2.2.2 ≤ R.slots)
    (kk : ∀ (v : Option Value) (w : va_W), QQ1 v w → IW l E0 A p e R s m args below meth c 4 Q (k + M1.2.2.2.2.2.1) (n + M1.2.2.2.2.2.2) (pc + 3) lo (v.toList ++ st) (w ++ wr)) : IW l E0 A p e R s m args below meth c 4 Q k n pc lo stk (wc ++ wr) := by
  intro H locs ls hP hD hS hl
  subst hst
  obtain ⟨⟨hx, hb, hml, hown, hts, hA, -⟩, hK, hF⟩ := C
  obtain ⟨y2, y3, y4, y5⟩ := hy
  have hfr := la_free hA hD hS
  have hc' := hc H.size
  rw [hret] at hc' y5
  refine j_call (QQ1 := QQ1) (D := E0.1) (A1 := va_A wc H.size) (va_runI (As := As) (rest := st) (b := b) (n := As.length) (nL := 4) ⟨hx, hb, hml, hown, hts⟩ hc' (cwI As.length hts (kgc y5) rfl y3.1 y3.2 (hts _ y4) (hts _ hlk) (hts _ hin) hnm y2 hRm) ⟨j_blind, fun U hU hW => ⟨rfl, la_pre hA hK hF hP hD hS hU hW⟩⟩ rfl rfl hl.1 rfl (lv_room hcat) hd hf) hS (fun q _ h => hfr q h) hfr (fun v w H1 locs1 hq hp hd1 hk hS1 => ?_)
  obtain ⟨j1, j2⟩ := la_join hP hD hk la_A hfr hp hd1
  exact kk v w hq H1 locs1 ls j1 j2 hS1 hl
theorem ii_forget {nL : Nat} {w1 w2 : va_W} (kk : IW l E0 A p e R s m args below meth c nL Q k n pc lo st w2) : IW l E0 A p e R s m args below meth c nL Q k n pc lo st (w1 ++ w2) :=
  fun H locs ls hP hD hS hl => kk H locs ls (va_P_l (va_P_perm List.perm_append_comm hP)) (va_D_l (va_D_perm List.perm_append_comm hD)) hS hl
end LROWS
