/-! the law's cases -/
section LC3
variable {l : Launch} {E : KE} {p : Program} {e : Env} {s : State} {m : MethodId} {below : List Frame} {meth : Method} {c : Code} {b L : Nat} {xs : Nat → Int32} {Q : State → Prop} {k n i : Nat} {σ : Sto}
theorem dl_1879 : decode code 1879 = .ok (.aload_n 1, 1) := by decide +kernel
theorem dl_1880 : decode code 1880 = .ok (.invokevirtual 227, 3) := by decide +kernel
theorem dl_1883 : decode code 1883 = .ok (.aload_n 2, 1) := by decide +kernel
theorem dl_1884 : decode code 1884 = .ok (.invokevirtual 230, 3) := by decide +kernel
theorem dl_1887 : decode code 1887 = .ok (.if_icmp .eq 642, 3) := by decide +kernel
set_option maxRecDepth 100000 in
theorem lc_tick (hst : l.stackTraces = false) (C : LCX l E p s m c b L xs) (hi : i + 5 < L) (hL : L ≤ 3072) (hk : k + 4 ≤ 601024 ∧ n + 24 ≤ 7293034) (hR : REL σ) (kk : ∀ σ2, REL σ2 → LW l E p e s m below meth c b Q (k + 4) (n + 24) 2529 (lo4 i) [] σ2) : LW l E p e s m below meth c b Q k n 1879 (lo4 i) [] σ := by
  obtain ⟨tag, v, σ1, e1, H1⟩ := q_tick  σ hR
  obtain ⟨e0, ht⟩ := liS_inv e1
  obtain ⟨w, σ2, e2, h2, h3, h4, h5⟩ := H1 σ1 (fun _ _ => rfl)
  have hvw : v = w := h3 ht
  subst hvw
  refine lr_aload_n (pc := 1879) C 0 dl_1879 rfl rfl ?_
  refine lr_callV (pc := 1880) (q := 0) (ci := 6) (o1 := (0, .int v, σ1)) (M' := mX6_tick) (y := yX6_tick) (ix := 227) (st := []) [] C (tX6_tick l hst  σ (v, σ1) e0) rfl dl_1880 rfl ks_0 (show vwCl[6]? = some _ from rfl) yw_X6_tick lk_L_227 (by decide) (show _ ≤ 8 from Nat.le_of_ble_eq_true rfl) (show k + 0 ≤ 601024 ∧ n + 0 ≤ 7293034 by omega) ?_
  refine lr_aload_n (pc := 1883) C 1 dl_1883 rfl rfl ?_
  refine lr_callV (pc := 1884) (q := 133) (ci := 7) (o1 := (0, .int v, σ2)) (M' := mX7_tick) (y := yX7_tick) (ix := 230) (st := [.int v]) [] C (tX7_tick l hst  σ1 (v, σ2) e2) rfl dl_1884 rfl ks_133 (show vwCl[7]? = some _ from rfl) yw_X7_tick lk_L_230 (by decide) (show _ ≤ 8 from Nat.le_of_ble_eq_true rfl) (show k + 0 + 0 ≤ 601024 ∧ n + 0 + 0 ≤ 7293034 by omega) ?_
  refine lr_icmp_eq (pc := 1887) (tgt := 2529) C rfl dl_1887 (by decide) ?_
  exact lr_widen (k + 4) (n + 24) (show k + 0 + 0 ≤ k + 4 by omega) (show n + 0 + 0 ≤ n + 24 by omega) (kk σ2 h4)
theorem dl_1892 : decode code 1892 = .ok (.aload_n 1, 1) := by decide +kernel
theorem dl_1893 : decode code 1893 = .ok (.invokevirtual 231, 3) := by decide +kernel
theorem dl_1896 : decode code 1896 = .ok (.aload_n 2, 1) := by decide +kernel
theorem dl_1897 : decode code 1897 = .ok (.invokevirtual 234, 3) := by decide +kernel
theorem dl_1900 : decode code 1900 = .ok (.if_icmp .eq 629, 3) := by decide +kernel
set_option maxRecDepth 100000 in
theorem lc_settle (hst : l.stackTraces = false) (C : LCX l E p s m c b L xs) (hi : i + 5 < L) (hL : L ≤ 3072) (hk : k + 4 ≤ 601024 ∧ n + 24 ≤ 7293034) (hR : REL σ) (kk : ∀ σ2, REL σ2 → LW l E p e s m below meth c b Q (k + 4) (n + 24) 2529 (lo4 i) [] σ2) : LW l E p e s m below meth c b Q k n 1892 (lo4 i) [] σ := by
  obtain ⟨tag, v, σ1, e1, H1⟩ := q_settle  σ hR
  obtain ⟨e0, ht⟩ := liS_inv e1
  obtain ⟨w, σ2, e2, h2, h3, h4, h5⟩ := H1 σ1 (fun _ _ => rfl)
  have hvw : v = w := h3 ht
  subst hvw
  refine lr_aload_n (pc := 1892) C 0 dl_1892 rfl rfl ?_
  refine lr_callV (pc := 1893) (q := 0) (ci := 6) (o1 := (0, .int v, σ1)) (M' := mX6_settle) (y := yX6_settle) (ix := 231) (st := []) [] C (tX6_settle l hst  σ (v, σ1) e0) rfl dl_1893 rfl ks_0 (show vwCl[6]? = some _ from rfl) yw_X6_settle lk_L_231 (by decide) (show _ ≤ 8 from Nat.le_of_ble_eq_true rfl) (show k + 0 ≤ 601024 ∧ n + 0 ≤ 7293034 by omega) ?_
  refine lr_aload_n (pc := 1896) C 1 dl_1896 rfl rfl ?_
  refine lr_callV (pc := 1897) (q := 133) (ci := 7) (o1 := (0, .int v, σ2)) (M' := mX7_settle) (y := yX7_settle) (ix := 234) (st := [.int v]) [] C (tX7_settle l hst  σ1 (v, σ2) e2) rfl dl_1897 rfl ks_133 (show vwCl[7]? = some _ from rfl) yw_X7_settle lk_L_234 (by decide) (show _ ≤ 8 from Nat.le_of_ble_eq_true rfl) (show k + 0 + 0 ≤ 601024 ∧ n + 0 + 0 ≤ 7293034 by omega) ?_
  refine lr_icmp_eq (pc := 1900) (tgt := 2529) C rfl dl_1900 (by decide) ?_
  exact lr_widen (k + 4) (n + 24) (show k + 0 + 0 ≤ k + 4 by omega) (show n + 0 + 0 ≤ n + 24 by omega) (kk σ2 h4)
theorem dl_1905 : decode code 1905 = .ok (.aload_n 1, 1) := by decide +kernel
theorem dl_1906 : decode code 1906 = .ok (.aload_n 0, 1) := by decide +kernel
theorem dl_1907 : decode code 1907 = .ok (.iload 4, 2) := by decide +kernel
theorem dl_1909 : decode code 1909 = .ok (.iconst 1, 1) := by decide +kernel
theorem dl_1910 : decode code 1910 = .ok (.iadd, 1) := by decide +kernel
theorem dl_1911 : decode code 1911 = .ok (.iaload, 1) := by decide +kernel
theorem dl_1912 : decode code 1912 = .ok (.aload_n 0, 1) := by decide +kernel
theorem dl_1913 : decode code 1913 = .ok (.iload 4, 2) := by decide +kernel
theorem dl_1915 : decode code 1915 = .ok (.iconst 2, 1) := by decide +kernel
theorem dl_1916 : decode code 1916 = .ok (.iadd, 1) := by decide +kernel
theorem dl_1917 : decode code 1917 = .ok (.iaload, 1) := by decide +kernel
theorem dl_1918 : decode code 1918 = .ok (.ifCond .eq 7, 3) := by decide +kernel
theorem dl_1921 : decode code 1921 = .ok (.iconst 1, 1) := by decide +kernel
theorem dl_1922 : decode code 1922 = .ok (.goto 4, 3) := by decide +kernel
theorem dl_1925 : decode code 1925 = .ok (.iconst 0, 1) := by decide +kernel
theorem dl_1926 : decode code 1926 = .ok (.aload_n 3, 1) := by decide +kernel
theorem dl_1927 : decode code 1927 = .ok (.invokestatic 235, 3) := by decide +kernel
theorem dl_1930 : decode code 1930 = .ok (.istore 5, 2) := by decide +kernel
theorem dl_1932 : decode code 1932 = .ok (.aload_n 2, 1) := by decide +kernel
theorem dl_1933 : decode code 1933 = .ok (.aload_n 0, 1) := by decide +kernel
theorem dl_1934 : decode code 1934 = .ok (.iload 4, 2) := by decide +kernel
theorem dl_1936 : decode code 1936 = .ok (.iconst 1, 1) := by decide +kernel
theorem dl_1937 : decode code 1937 = .ok (.iadd, 1) := by decide +kernel
theorem dl_1938 : decode code 1938 = .ok (.iaload, 1) := by decide +kernel
theorem dl_1939 : decode code 1939 = .ok (.aload_n 0, 1) := by decide +kernel
theorem dl_1940 : decode code 1940 = .ok (.iload 4, 2) := by decide +kernel
theorem dl_1942 : decode code 1942 = .ok (.iconst 2, 1) := by decide +kernel
theorem dl_1943 : decode code 1943 = .ok (.iadd, 1) := by decide +kernel
theorem dl_1944 : decode code 1944 = .ok (.iaload, 1) := by decide +kernel
theorem dl_1945 : decode code 1945 = .ok (.ifCond .eq 7, 3) := by decide +kernel
theorem dl_1948 : decode code 1948 = .ok (.iconst 1, 1) := by decide +kernel
theorem dl_1949 : decode code 1949 = .ok (.goto 4, 3) := by decide +kernel
theorem dl_1952 : decode code 1952 = .ok (.iconst 0, 1) := by decide +kernel
theorem dl_1953 : decode code 1953 = .ok (.invokevirtual 238, 3) := by decide +kernel
theorem dl_1956 : decode code 1956 = .ok (.istore 6, 2) := by decide +kernel
theorem dl_1958 : decode code 1958 = .ok (.aload_n 2, 1) := by decide +kernel
theorem dl_1959 : decode code 1959 = .ok (.invokevirtual 125, 3) := by decide +kernel
theorem dl_1962 : decode code 1962 = .ok (.iload 5, 2) := by decide +kernel
theorem dl_1964 : decode code 1964 = .ok (.if_icmp .eq 5, 3) := by decide +kernel
theorem dl_1969 : decode code 1969 = .ok (.iload 5, 2) := by decide +kernel
theorem dl_1971 : decode code 1971 = .ok (.ifCond .ne 15, 3) := by decide +kernel
theorem dl_1974 : decode code 1974 = .ok (.aload_n 3, 1) := by decide +kernel
theorem dl_1975 : decode code 1975 = .ok (.iconst 0, 1) := by decide +kernel
theorem dl_1976 : decode code 1976 = .ok (.laload, 1) := by decide +kernel
theorem dl_1977 : decode code 1977 = .ok (.iload 6, 2) := by decide +kernel
theorem dl_1979 : decode code 1979 = .ok (.i2l, 1) := by decide +kernel
theorem dl_1980 : decode code 1980 = .ok (.lcmp, 1) := by decide +kernel
theorem dl_1981 : decode code 1981 = .ok (.ifCond .eq 5, 3) := by decide +kernel
theorem dl_1986 : decode code 1986 = .ok (.goto 543, 3) := by decide +kernel
set_option maxRecDepth 100000 in
theorem lc_cover (hst : l.stackTraces = false) (C : LCX l E p s m c b L xs) (hi : i + 5 < L) (hL : L ≤ 3072) (hk : k + 4 ≤ 601024 ∧ n + 24 ≤ 7293034) (hR : REL σ) (kk : ∀ σ2, REL σ2 → LW l E p e s m below meth c b Q (k + 4) (n + 24) 2529 (lo4 i) [] σ2) : LW l E p e s m below meth c b Q k n 1905 (lo4 i) [] σ := by
  obtain ⟨tag, v, σ1, e1, H1⟩ := q_cover (xs (i + 1)) (decide (xs (i + 2) ≠ 0)) σ hR
  have ht : tag = 0 ∨ tag = 3 := by
    obtain ⟨w, σ2, -, h2, -⟩ := H1 σ1 (fun _ _ => rfl)
    exact (thr_k1 h2).2
  obtain ⟨w, σ2, e2, h2, h3, h4, h5⟩ := H1 _ (e54_w (σ1 := σ1) (tag := tag) (v := v))
  have hk1 : σ2 133 7 = kti [3] tag := (thr_k1 h2).1
  have hv : tag = 0 → σ2 154 0 = w := fun h => by
    rw [h5, if_pos h, su_s]
    exact h3 h
  refine lr_aload_n (pc := 1905) C 0 dl_1905 rfl rfl ?_
  refine lr_arg (pc := 1906) (i := i) (j := 1) C 3 rfl (by omega) hL dl_1906 dl_1907 1 (by decide) dl_1909 dl_1910 dl_1911 ?_
  refine lr_arg (pc := 1912) (i := i) (j := 2) C 3 rfl (by omega) hL dl_1912 dl_1913 2 (by decide) dl_1915 dl_1916 dl_1917 ?_
  refine lr_bool (pc := 1918) C dl_1918 dl_1921 dl_1922 dl_1925 ?_
  refine lr_aload_n (pc := 1926) C 2 dl_1926 rfl rfl ?_
  refine lr_callW (pc := 1927) (hh := hL_cover) (M' := mL_cover) (y := yL_cover) (ix := 235) (t := kti [3] tag) (σ2 := (if tag = 0 then su σ1 154 0 v else σ1)) (st := []) [.ref 0, .int (xs (i + 1)), .int (kb (decide (xs (i + 2) ≠ 0))), .ref 154] C (tL_cover l hst (xs (i + 1)) (kb (decide (xs (i + 2) ≠ 0))) σ tag v σ1 e1 ht) dl_1927 rfl rfl kw_L_cover lk_L_235 (by decide) (Nat.zero_le _) (show k + 1 ≤ 601024 ∧ n + 6 ≤ 7293034 by omega) ?_
  refine lr_istore (pc := 1930) C ((5, .int (kti [3] tag)) :: lo4 i) dl_1930 (by decide) (by decide) rfl ?_
  refine lr_aload_n (pc := 1932) C 2 dl_1932 rfl rfl ?_
  refine lr_arg (pc := 1933) (i := i) (j := 1) C 4 rfl (by omega) hL dl_1933 dl_1934 1 (by decide) dl_1936 dl_1937 dl_1938 ?_
  refine lr_arg (pc := 1939) (i := i) (j := 2) C 4 rfl (by omega) hL dl_1939 dl_1940 2 (by decide) dl_1942 dl_1943 dl_1944 ?_
  refine lr_bool (pc := 1945) C dl_1945 dl_1948 dl_1949 dl_1952 ?_
  refine lr_callV (pc := 1953) (q := 133) (ci := 7) (o1 := (0, .int w, σ2)) (M' := mX7_cover) (y := yX7_cover) (ix := 238) (st := []) [.int (xs (i + 1)), .int (kb (decide (xs (i + 2) ≠ 0)))] C (tX7_cover l hst (xs (i + 1)) (kb (decide (xs (i + 2) ≠ 0))) _ (w, σ2) e2) rfl dl_1953 rfl ks_133 (show vwCl[7]? = some _ from rfl) yw_X7_cover lk_L_238 (by decide) (Nat.zero_le _) (show k + 1 + 0 ≤ 601024 ∧ n + 6 + 0 ≤ 7293034 by omega) ?_
  refine lr_istore (pc := 1956) C ((6, .int w) :: (5, .int (kti [3] tag)) :: lo4 i) dl_1956 (by decide) (by decide) rfl ?_
  exact lr_tail (pc := 1958) (i := i) hst C hk1 hv (show k + 1 + 0 ≤ 601024 ∧ n + 6 + 0 ≤ 7293034 by omega) dl_1958 dl_1959 dl_1962 dl_1964 dl_1969 dl_1971 dl_1974 dl_1975 dl_1976 dl_1977 dl_1979 dl_1980 dl_1981 dl_1986 (by decide) (lr_widen (k + 4) (n + 24) (show k + 1 + 0 ≤ k + 4 by omega) (show n + 6 + 0 ≤ n + 24 by omega) (kk σ2 h4))
theorem dl_1989 : decode code 1989 = .ok (.aload_n 1, 1) := by decide +kernel
theorem dl_1990 : decode code 1990 = .ok (.aload_n 0, 1) := by decide +kernel
theorem dl_1991 : decode code 1991 = .ok (.iload 4, 2) := by decide +kernel
theorem dl_1993 : decode code 1993 = .ok (.iconst 1, 1) := by decide +kernel
theorem dl_1994 : decode code 1994 = .ok (.iadd, 1) := by decide +kernel
theorem dl_1995 : decode code 1995 = .ok (.iaload, 1) := by decide +kernel
theorem dl_1996 : decode code 1996 = .ok (.aload_n 3, 1) := by decide +kernel
theorem dl_1997 : decode code 1997 = .ok (.invokestatic 239, 3) := by decide +kernel
theorem dl_2000 : decode code 2000 = .ok (.istore 5, 2) := by decide +kernel
theorem dl_2002 : decode code 2002 = .ok (.aload_n 2, 1) := by decide +kernel
theorem dl_2003 : decode code 2003 = .ok (.aload_n 0, 1) := by decide +kernel
theorem dl_2004 : decode code 2004 = .ok (.iload 4, 2) := by decide +kernel
theorem dl_2006 : decode code 2006 = .ok (.iconst 1, 1) := by decide +kernel
theorem dl_2007 : decode code 2007 = .ok (.iadd, 1) := by decide +kernel
theorem dl_2008 : decode code 2008 = .ok (.iaload, 1) := by decide +kernel
theorem dl_2009 : decode code 2009 = .ok (.invokevirtual 241, 3) := by decide +kernel
theorem dl_2012 : decode code 2012 = .ok (.istore 6, 2) := by decide +kernel
theorem dl_2014 : decode code 2014 = .ok (.aload_n 2, 1) := by decide +kernel
theorem dl_2015 : decode code 2015 = .ok (.invokevirtual 125, 3) := by decide +kernel
theorem dl_2018 : decode code 2018 = .ok (.iload 5, 2) := by decide +kernel
theorem dl_2020 : decode code 2020 = .ok (.if_icmp .eq 5, 3) := by decide +kernel
theorem dl_2025 : decode code 2025 = .ok (.iload 5, 2) := by decide +kernel
theorem dl_2027 : decode code 2027 = .ok (.ifCond .ne 15, 3) := by decide +kernel
theorem dl_2030 : decode code 2030 = .ok (.aload_n 3, 1) := by decide +kernel
theorem dl_2031 : decode code 2031 = .ok (.iconst 0, 1) := by decide +kernel
theorem dl_2032 : decode code 2032 = .ok (.laload, 1) := by decide +kernel
theorem dl_2033 : decode code 2033 = .ok (.iload 6, 2) := by decide +kernel
theorem dl_2035 : decode code 2035 = .ok (.i2l, 1) := by decide +kernel
theorem dl_2036 : decode code 2036 = .ok (.lcmp, 1) := by decide +kernel
theorem dl_2037 : decode code 2037 = .ok (.ifCond .eq 5, 3) := by decide +kernel
theorem dl_2042 : decode code 2042 = .ok (.goto 487, 3) := by decide +kernel
set_option maxRecDepth 100000 in
theorem lc_setKeep (hst : l.stackTraces = false) (C : LCX l E p s m c b L xs) (hi : i + 5 < L) (hL : L ≤ 3072) (hk : k + 4 ≤ 601024 ∧ n + 24 ≤ 7293034) (hR : REL σ) (kk : ∀ σ2, REL σ2 → LW l E p e s m below meth c b Q (k + 4) (n + 24) 2529 (lo4 i) [] σ2) : LW l E p e s m below meth c b Q k n 1989 (lo4 i) [] σ := by
  obtain ⟨tag, v, σ1, e1, H1⟩ := q_setKeep (xs (i + 1)) σ hR
  have ht : tag = 0 ∨ tag = 1 := by
    obtain ⟨w, σ2, -, h2, -⟩ := H1 σ1 (fun _ _ => rfl)
    exact (thr_k1 h2).2
  obtain ⟨w, σ2, e2, h2, h3, h4, h5⟩ := H1 _ (e54_w (σ1 := σ1) (tag := tag) (v := v))
  have hk1 : σ2 133 7 = kti [1] tag := (thr_k1 h2).1
  have hv : tag = 0 → σ2 154 0 = w := fun h => by
    rw [h5, if_pos h, su_s]
    exact h3 h
  refine lr_aload_n (pc := 1989) C 0 dl_1989 rfl rfl ?_
  refine lr_arg (pc := 1990) (i := i) (j := 1) C 3 rfl (by omega) hL dl_1990 dl_1991 1 (by decide) dl_1993 dl_1994 dl_1995 ?_
  refine lr_aload_n (pc := 1996) C 2 dl_1996 rfl rfl ?_
  refine lr_callW (pc := 1997) (hh := hL_setKeep) (M' := mL_setKeep) (y := yL_setKeep) (ix := 239) (t := kti [1] tag) (σ2 := (if tag = 0 then su σ1 154 0 v else σ1)) (st := []) [.ref 0, .int (xs (i + 1)), .ref 154] C (tL_setKeep l hst (xs (i + 1)) σ tag v σ1 e1 ht) dl_1997 rfl rfl kw_L_setKeep lk_L_239 (by decide) (Nat.zero_le _) (show k + 1 ≤ 601024 ∧ n + 6 ≤ 7293034 by omega) ?_
  refine lr_istore (pc := 2000) C ((5, .int (kti [1] tag)) :: lo4 i) dl_2000 (by decide) (by decide) rfl ?_
  refine lr_aload_n (pc := 2002) C 2 dl_2002 rfl rfl ?_
  refine lr_arg (pc := 2003) (i := i) (j := 1) C 4 rfl (by omega) hL dl_2003 dl_2004 1 (by decide) dl_2006 dl_2007 dl_2008 ?_
  refine lr_callV (pc := 2009) (q := 133) (ci := 7) (o1 := (0, .int w, σ2)) (M' := mX7_setKeep) (y := yX7_setKeep) (ix := 241) (st := []) [.int (xs (i + 1))] C (tX7_setKeep l hst (xs (i + 1)) _ (w, σ2) e2) rfl dl_2009 rfl ks_133 (show vwCl[7]? = some _ from rfl) yw_X7_setKeep lk_L_241 (by decide) (Nat.zero_le _) (show k + 1 + 0 ≤ 601024 ∧ n + 6 + 0 ≤ 7293034 by omega) ?_
  refine lr_istore (pc := 2012) C ((6, .int w) :: (5, .int (kti [1] tag)) :: lo4 i) dl_2012 (by decide) (by decide) rfl ?_
  exact lr_tail (pc := 2014) (i := i) hst C hk1 hv (show k + 1 + 0 ≤ 601024 ∧ n + 6 + 0 ≤ 7293034 by omega) dl_2014 dl_2015 dl_2018 dl_2020 dl_2025 dl_2027 dl_2030 dl_2031 dl_2032 dl_2033 dl_2035 dl_2036 dl_2037 dl_2042 (by decide) (lr_widen (k + 4) (n + 24) (show k + 1 + 0 ≤ k + 4 by omega) (show n + 6 + 0 ≤ n + 24 by omega) (kk σ2 h4))
theorem dl_2045 : decode code 2045 = .ok (.aload_n 1, 1) := by decide +kernel
theorem dl_2046 : decode code 2046 = .ok (.invokevirtual 242, 3) := by decide +kernel
theorem dl_2049 : decode code 2049 = .ok (.aload_n 2, 1) := by decide +kernel
theorem dl_2050 : decode code 2050 = .ok (.invokevirtual 245, 3) := by decide +kernel
theorem dl_2053 : decode code 2053 = .ok (.if_icmp .eq 476, 3) := by decide +kernel
set_option maxRecDepth 100000 in
theorem lc_moves (hst : l.stackTraces = false) (C : LCX l E p s m c b L xs) (hi : i + 5 < L) (hL : L ≤ 3072) (hk : k + 4 ≤ 601024 ∧ n + 24 ≤ 7293034) (hR : REL σ) (kk : ∀ σ2, REL σ2 → LW l E p e s m below meth c b Q (k + 4) (n + 24) 2529 (lo4 i) [] σ2) : LW l E p e s m below meth c b Q k n 2045 (lo4 i) [] σ := by
  obtain ⟨tag, v, σ1, e1, H1⟩ := q_moves  σ hR
  obtain ⟨e0, ht⟩ := liS_inv e1
  obtain ⟨w, σ2, e2, h2, h3, h4, h5⟩ := H1 σ1 (fun _ _ => rfl)
  have hvw : v = w := h3 ht
  subst hvw
  refine lr_aload_n (pc := 2045) C 0 dl_2045 rfl rfl ?_
  refine lr_callV (pc := 2046) (q := 0) (ci := 6) (o1 := (0, .int v, σ1)) (M' := mX6_moves) (y := yX6_moves) (ix := 242) (st := []) [] C (tX6_moves l hst  σ (v, σ1) e0) rfl dl_2046 rfl ks_0 (show vwCl[6]? = some _ from rfl) yw_X6_moves lk_L_242 (by decide) (show _ ≤ 8 from Nat.le_of_ble_eq_true rfl) (show k + 0 ≤ 601024 ∧ n + 0 ≤ 7293034 by omega) ?_
  refine lr_aload_n (pc := 2049) C 1 dl_2049 rfl rfl ?_
  refine lr_callV (pc := 2050) (q := 133) (ci := 7) (o1 := (0, .int v, σ2)) (M' := mX7_moves) (y := yX7_moves) (ix := 245) (st := [.int v]) [] C (tX7_moves l hst  σ1 (v, σ2) e2) rfl dl_2050 rfl ks_133 (show vwCl[7]? = some _ from rfl) yw_X7_moves lk_L_245 (by decide) (show _ ≤ 8 from Nat.le_of_ble_eq_true rfl) (show k + 0 + 0 ≤ 601024 ∧ n + 0 + 0 ≤ 7293034 by omega) ?_
  refine lr_icmp_eq (pc := 2053) (tgt := 2529) C rfl dl_2053 (by decide) ?_
  exact lr_widen (k + 4) (n + 24) (show k + 0 + 0 ≤ k + 4 by omega) (show n + 0 + 0 ≤ n + 24 by omega) (kk σ2 h4)
theorem dl_2058 : decode code 2058 = .ok (.aload_n 1, 1) := by decide +kernel
theorem dl_2059 : decode code 2059 = .ok (.aload_n 0, 1) := by decide +kernel
theorem dl_2060 : decode code 2060 = .ok (.iload 4, 2) := by decide +kernel
theorem dl_2062 : decode code 2062 = .ok (.iconst 1, 1) := by decide +kernel
theorem dl_2063 : decode code 2063 = .ok (.iadd, 1) := by decide +kernel
theorem dl_2064 : decode code 2064 = .ok (.iaload, 1) := by decide +kernel
theorem dl_2065 : decode code 2065 = .ok (.aload_n 0, 1) := by decide +kernel
theorem dl_2066 : decode code 2066 = .ok (.iload 4, 2) := by decide +kernel
theorem dl_2068 : decode code 2068 = .ok (.iconst 2, 1) := by decide +kernel
theorem dl_2069 : decode code 2069 = .ok (.iadd, 1) := by decide +kernel
theorem dl_2070 : decode code 2070 = .ok (.iaload, 1) := by decide +kernel
theorem dl_2071 : decode code 2071 = .ok (.ifCond .eq 7, 3) := by decide +kernel
theorem dl_2074 : decode code 2074 = .ok (.iconst 1, 1) := by decide +kernel
theorem dl_2075 : decode code 2075 = .ok (.goto 4, 3) := by decide +kernel
theorem dl_2078 : decode code 2078 = .ok (.iconst 0, 1) := by decide +kernel
theorem dl_2079 : decode code 2079 = .ok (.aload_n 3, 1) := by decide +kernel
theorem dl_2080 : decode code 2080 = .ok (.invokestatic 246, 3) := by decide +kernel
theorem dl_2083 : decode code 2083 = .ok (.istore 5, 2) := by decide +kernel
theorem dl_2085 : decode code 2085 = .ok (.aload_n 2, 1) := by decide +kernel
theorem dl_2086 : decode code 2086 = .ok (.aload_n 0, 1) := by decide +kernel
theorem dl_2087 : decode code 2087 = .ok (.iload 4, 2) := by decide +kernel
theorem dl_2089 : decode code 2089 = .ok (.iconst 1, 1) := by decide +kernel
theorem dl_2090 : decode code 2090 = .ok (.iadd, 1) := by decide +kernel
theorem dl_2091 : decode code 2091 = .ok (.iaload, 1) := by decide +kernel
theorem dl_2092 : decode code 2092 = .ok (.aload_n 0, 1) := by decide +kernel
theorem dl_2093 : decode code 2093 = .ok (.iload 4, 2) := by decide +kernel
theorem dl_2095 : decode code 2095 = .ok (.iconst 2, 1) := by decide +kernel
theorem dl_2096 : decode code 2096 = .ok (.iadd, 1) := by decide +kernel
theorem dl_2097 : decode code 2097 = .ok (.iaload, 1) := by decide +kernel
theorem dl_2098 : decode code 2098 = .ok (.ifCond .eq 7, 3) := by decide +kernel
theorem dl_2101 : decode code 2101 = .ok (.iconst 1, 1) := by decide +kernel
theorem dl_2102 : decode code 2102 = .ok (.goto 4, 3) := by decide +kernel
theorem dl_2105 : decode code 2105 = .ok (.iconst 0, 1) := by decide +kernel
theorem dl_2106 : decode code 2106 = .ok (.invokevirtual 248, 3) := by decide +kernel
theorem dl_2109 : decode code 2109 = .ok (.istore 6, 2) := by decide +kernel
theorem dl_2111 : decode code 2111 = .ok (.aload_n 2, 1) := by decide +kernel
theorem dl_2112 : decode code 2112 = .ok (.invokevirtual 125, 3) := by decide +kernel
theorem dl_2115 : decode code 2115 = .ok (.iload 5, 2) := by decide +kernel
theorem dl_2117 : decode code 2117 = .ok (.if_icmp .eq 5, 3) := by decide +kernel
theorem dl_2122 : decode code 2122 = .ok (.iload 5, 2) := by decide +kernel
theorem dl_2124 : decode code 2124 = .ok (.ifCond .ne 15, 3) := by decide +kernel
theorem dl_2127 : decode code 2127 = .ok (.aload_n 3, 1) := by decide +kernel
theorem dl_2128 : decode code 2128 = .ok (.iconst 0, 1) := by decide +kernel
theorem dl_2129 : decode code 2129 = .ok (.laload, 1) := by decide +kernel
theorem dl_2130 : decode code 2130 = .ok (.iload 6, 2) := by decide +kernel
theorem dl_2132 : decode code 2132 = .ok (.i2l, 1) := by decide +kernel
theorem dl_2133 : decode code 2133 = .ok (.lcmp, 1) := by decide +kernel
theorem dl_2134 : decode code 2134 = .ok (.ifCond .eq 5, 3) := by decide +kernel
theorem dl_2139 : decode code 2139 = .ok (.goto 390, 3) := by decide +kernel
set_option maxRecDepth 100000 in
theorem lc_restsAt (hst : l.stackTraces = false) (C : LCX l E p s m c b L xs) (hi : i + 5 < L) (hL : L ≤ 3072) (hk : k + 4 ≤ 601024 ∧ n + 24 ≤ 7293034) (hR : REL σ) (kk : ∀ σ2, REL σ2 → LW l E p e s m below meth c b Q (k + 4) (n + 24) 2529 (lo4 i) [] σ2) : LW l E p e s m below meth c b Q k n 2058 (lo4 i) [] σ := by
  obtain ⟨tag, v, σ1, e1, H1⟩ := q_restsAt (xs (i + 1)) (kb (decide (xs (i + 2) ≠ 0))) σ hR
  have ht : tag = 0 ∨ tag = 3 ∨ tag = 2 := by
    obtain ⟨w, σ2, -, h2, -⟩ := H1 σ1 (fun _ _ => rfl)
    exact (thr_k2 (by decide) h2).2
  obtain ⟨w, σ2, e2, h2, h3, h4, h5⟩ := H1 _ (e54_w (σ1 := σ1) (tag := tag) (v := v))
  have hk1 : σ2 133 7 = kti [3, 2] tag := (thr_k2 (by decide) h2).1
  have hv : tag = 0 → σ2 154 0 = w := fun h => by
    rw [h5, if_pos h, su_s]
    exact h3 h
  refine lr_aload_n (pc := 2058) C 0 dl_2058 rfl rfl ?_
  refine lr_arg (pc := 2059) (i := i) (j := 1) C 3 rfl (by omega) hL dl_2059 dl_2060 1 (by decide) dl_2062 dl_2063 dl_2064 ?_
  refine lr_arg (pc := 2065) (i := i) (j := 2) C 3 rfl (by omega) hL dl_2065 dl_2066 2 (by decide) dl_2068 dl_2069 dl_2070 ?_
  refine lr_bool (pc := 2071) C dl_2071 dl_2074 dl_2075 dl_2078 ?_
  refine lr_aload_n (pc := 2079) C 2 dl_2079 rfl rfl ?_
  refine lr_callW (pc := 2080) (hh := hL_restsAt) (M' := mL_restsAt) (y := yL_restsAt) (ix := 246) (t := kti [3, 2] tag) (σ2 := (if tag = 0 then su σ1 154 0 v else σ1)) (st := []) [.ref 0, .int (xs (i + 1)), .int (kb (decide (xs (i + 2) ≠ 0))), .ref 154] C (tL_restsAt l hst (xs (i + 1)) (kb (decide (xs (i + 2) ≠ 0))) σ tag v σ1 e1 ht) dl_2080 rfl rfl kw_L_restsAt lk_L_246 (by decide) (Nat.zero_le _) (show k + 2 ≤ 601024 ∧ n + 12 ≤ 7293034 by omega) ?_
  refine lr_istore (pc := 2083) C ((5, .int (kti [3, 2] tag)) :: lo4 i) dl_2083 (by decide) (by decide) rfl ?_
  refine lr_aload_n (pc := 2085) C 2 dl_2085 rfl rfl ?_
  refine lr_arg (pc := 2086) (i := i) (j := 1) C 4 rfl (by omega) hL dl_2086 dl_2087 1 (by decide) dl_2089 dl_2090 dl_2091 ?_
  refine lr_arg (pc := 2092) (i := i) (j := 2) C 4 rfl (by omega) hL dl_2092 dl_2093 2 (by decide) dl_2095 dl_2096 dl_2097 ?_
  refine lr_bool (pc := 2098) C dl_2098 dl_2101 dl_2102 dl_2105 ?_
  refine lr_callV (pc := 2106) (q := 133) (ci := 7) (o1 := (0, .int w, σ2)) (M' := mX7_restsAt) (y := yX7_restsAt) (ix := 248) (st := []) [.int (xs (i + 1)), .int (kb (decide (xs (i + 2) ≠ 0)))] C (tX7_restsAt l hst (xs (i + 1)) (kb (decide (xs (i + 2) ≠ 0))) _ (w, σ2) e2) rfl dl_2106 rfl ks_133 (show vwCl[7]? = some _ from rfl) yw_X7_restsAt lk_L_248 (by decide) (Nat.zero_le _) (show k + 2 + 0 ≤ 601024 ∧ n + 12 + 0 ≤ 7293034 by omega) ?_
  refine lr_istore (pc := 2109) C ((6, .int w) :: (5, .int (kti [3, 2] tag)) :: lo4 i) dl_2109 (by decide) (by decide) rfl ?_
  exact lr_tail (pc := 2111) (i := i) hst C hk1 hv (show k + 2 + 0 ≤ 601024 ∧ n + 12 + 0 ≤ 7293034 by omega) dl_2111 dl_2112 dl_2115 dl_2117 dl_2122 dl_2124 dl_2127 dl_2128 dl_2129 dl_2130 dl_2132 dl_2133 dl_2134 dl_2139 (by decide) (lr_widen (k + 4) (n + 24) (show k + 2 + 0 ≤ k + 4 by omega) (show n + 12 + 0 ≤ n + 24 by omega) (kk σ2 h4))
theorem dl_2142 : decode code 2142 = .ok (.aload_n 1, 1) := by decide +kernel
theorem dl_2143 : decode code 2143 = .ok (.aload_n 0, 1) := by decide +kernel
theorem dl_2144 : decode code 2144 = .ok (.iload 4, 2) := by decide +kernel
theorem dl_2146 : decode code 2146 = .ok (.iconst 1, 1) := by decide +kernel
theorem dl_2147 : decode code 2147 = .ok (.iadd, 1) := by decide +kernel
theorem dl_2148 : decode code 2148 = .ok (.iaload, 1) := by decide +kernel
theorem dl_2149 : decode code 2149 = .ok (.aload_n 0, 1) := by decide +kernel
theorem dl_2150 : decode code 2150 = .ok (.iload 4, 2) := by decide +kernel
theorem dl_2152 : decode code 2152 = .ok (.iconst 2, 1) := by decide +kernel
theorem dl_2153 : decode code 2153 = .ok (.iadd, 1) := by decide +kernel
theorem dl_2154 : decode code 2154 = .ok (.iaload, 1) := by decide +kernel
theorem dl_2155 : decode code 2155 = .ok (.aload_n 3, 1) := by decide +kernel
theorem dl_2156 : decode code 2156 = .ok (.invokestatic 249, 3) := by decide +kernel
theorem dl_2159 : decode code 2159 = .ok (.istore 5, 2) := by decide +kernel
theorem dl_2161 : decode code 2161 = .ok (.aload_n 2, 1) := by decide +kernel
theorem dl_2162 : decode code 2162 = .ok (.aload_n 0, 1) := by decide +kernel
theorem dl_2163 : decode code 2163 = .ok (.iload 4, 2) := by decide +kernel
theorem dl_2165 : decode code 2165 = .ok (.iconst 1, 1) := by decide +kernel
theorem dl_2166 : decode code 2166 = .ok (.iadd, 1) := by decide +kernel
theorem dl_2167 : decode code 2167 = .ok (.iaload, 1) := by decide +kernel
theorem dl_2168 : decode code 2168 = .ok (.aload_n 0, 1) := by decide +kernel
theorem dl_2169 : decode code 2169 = .ok (.iload 4, 2) := by decide +kernel
theorem dl_2171 : decode code 2171 = .ok (.iconst 2, 1) := by decide +kernel
theorem dl_2172 : decode code 2172 = .ok (.iadd, 1) := by decide +kernel
theorem dl_2173 : decode code 2173 = .ok (.iaload, 1) := by decide +kernel
theorem dl_2174 : decode code 2174 = .ok (.invokevirtual 251, 3) := by decide +kernel
theorem dl_2177 : decode code 2177 = .ok (.istore 6, 2) := by decide +kernel
theorem dl_2179 : decode code 2179 = .ok (.aload_n 2, 1) := by decide +kernel
theorem dl_2180 : decode code 2180 = .ok (.invokevirtual 125, 3) := by decide +kernel
theorem dl_2183 : decode code 2183 = .ok (.iload 5, 2) := by decide +kernel
theorem dl_2185 : decode code 2185 = .ok (.if_icmp .eq 5, 3) := by decide +kernel
theorem dl_2190 : decode code 2190 = .ok (.iload 5, 2) := by decide +kernel
theorem dl_2192 : decode code 2192 = .ok (.ifCond .ne 15, 3) := by decide +kernel
theorem dl_2195 : decode code 2195 = .ok (.aload_n 3, 1) := by decide +kernel
theorem dl_2196 : decode code 2196 = .ok (.iconst 0, 1) := by decide +kernel
theorem dl_2197 : decode code 2197 = .ok (.laload, 1) := by decide +kernel
theorem dl_2198 : decode code 2198 = .ok (.iload 6, 2) := by decide +kernel
theorem dl_2200 : decode code 2200 = .ok (.i2l, 1) := by decide +kernel
theorem dl_2201 : decode code 2201 = .ok (.lcmp, 1) := by decide +kernel
theorem dl_2202 : decode code 2202 = .ok (.ifCond .eq 5, 3) := by decide +kernel
theorem dl_2207 : decode code 2207 = .ok (.goto 322, 3) := by decide +kernel
set_option maxRecDepth 100000 in
theorem lc_settled (hst : l.stackTraces = false) (C : LCX l E p s m c b L xs) (hi : i + 5 < L) (hL : L ≤ 3072) (hk : k + 4 ≤ 601024 ∧ n + 24 ≤ 7293034) (hR : REL σ) (kk : ∀ σ2, REL σ2 → LW l E p e s m below meth c b Q (k + 4) (n + 24) 2529 (lo4 i) [] σ2) : LW l E p e s m below meth c b Q k n 2142 (lo4 i) [] σ := by
  obtain ⟨tag, v, σ1, e1, H1⟩ := q_settled (xs (i + 1)) (xs (i + 2)) σ hR
  have ht : tag = 0 ∨ tag = 1 := by
    obtain ⟨w, σ2, -, h2, -⟩ := H1 σ1 (fun _ _ => rfl)
    exact (thr_k1 h2).2
  obtain ⟨w, σ2, e2, h2, h3, h4, h5⟩ := H1 _ (e54_w (σ1 := σ1) (tag := tag) (v := v))
  have hk1 : σ2 133 7 = kti [1] tag := (thr_k1 h2).1
  have hv : tag = 0 → σ2 154 0 = w := fun h => by
    rw [h5, if_pos h, su_s]
    exact h3 h
  refine lr_aload_n (pc := 2142) C 0 dl_2142 rfl rfl ?_
  refine lr_arg (pc := 2143) (i := i) (j := 1) C 3 rfl (by omega) hL dl_2143 dl_2144 1 (by decide) dl_2146 dl_2147 dl_2148 ?_
  refine lr_arg (pc := 2149) (i := i) (j := 2) C 3 rfl (by omega) hL dl_2149 dl_2150 2 (by decide) dl_2152 dl_2153 dl_2154 ?_
  refine lr_aload_n (pc := 2155) C 2 dl_2155 rfl rfl ?_
  refine lr_callW (pc := 2156) (hh := hL_settled) (M' := mL_settled) (y := yL_settled) (ix := 249) (t := kti [1] tag) (σ2 := (if tag = 0 then su σ1 154 0 v else σ1)) (st := []) [.ref 0, .int (xs (i + 1)), .int (xs (i + 2)), .ref 154] C (tL_settled l hst (xs (i + 1)) (xs (i + 2)) σ tag v σ1 e1 ht) dl_2156 rfl rfl kw_L_settled lk_L_249 (by decide) (Nat.zero_le _) (show k + 2 ≤ 601024 ∧ n + 12 ≤ 7293034 by omega) ?_
  refine lr_istore (pc := 2159) C ((5, .int (kti [1] tag)) :: lo4 i) dl_2159 (by decide) (by decide) rfl ?_
  refine lr_aload_n (pc := 2161) C 2 dl_2161 rfl rfl ?_
  refine lr_arg (pc := 2162) (i := i) (j := 1) C 4 rfl (by omega) hL dl_2162 dl_2163 1 (by decide) dl_2165 dl_2166 dl_2167 ?_
  refine lr_arg (pc := 2168) (i := i) (j := 2) C 4 rfl (by omega) hL dl_2168 dl_2169 2 (by decide) dl_2171 dl_2172 dl_2173 ?_
  refine lr_callV (pc := 2174) (q := 133) (ci := 7) (o1 := (0, .int w, σ2)) (M' := mX7_settled) (y := yX7_settled) (ix := 251) (st := []) [.int (xs (i + 1)), .int (xs (i + 2))] C (tX7_settled l hst (xs (i + 1)) (xs (i + 2)) _ (w, σ2) e2) rfl dl_2174 rfl ks_133 (show vwCl[7]? = some _ from rfl) yw_X7_settled lk_L_251 (by decide) (Nat.zero_le _) (show k + 2 + 0 ≤ 601024 ∧ n + 12 + 0 ≤ 7293034 by omega) ?_
  refine lr_istore (pc := 2177) C ((6, .int w) :: (5, .int (kti [1] tag)) :: lo4 i) dl_2177 (by decide) (by decide) rfl ?_
  exact lr_tail (pc := 2179) (i := i) hst C hk1 hv (show k + 2 + 0 ≤ 601024 ∧ n + 12 + 0 ≤ 7293034 by omega) dl_2179 dl_2180 dl_2183 dl_2185 dl_2190 dl_2192 dl_2195 dl_2196 dl_2197 dl_2198 dl_2200 dl_2201 dl_2202 dl_2207 (by decide) (lr_widen (k + 4) (n + 24) (show k + 2 + 0 ≤ k + 4 by omega) (show n + 12 + 0 ≤ n + 24 by omega) (kk σ2 h4))
theorem dl_2210 : decode code 2210 = .ok (.aload_n 1, 1) := by decide +kernel
theorem dl_2211 : decode code 2211 = .ok (.aload_n 0, 1) := by decide +kernel
theorem dl_2212 : decode code 2212 = .ok (.iload 4, 2) := by decide +kernel
theorem dl_2214 : decode code 2214 = .ok (.iconst 1, 1) := by decide +kernel
theorem dl_2215 : decode code 2215 = .ok (.iadd, 1) := by decide +kernel
theorem dl_2216 : decode code 2216 = .ok (.iaload, 1) := by decide +kernel
theorem dl_2217 : decode code 2217 = .ok (.aload_n 3, 1) := by decide +kernel
theorem dl_2218 : decode code 2218 = .ok (.invokestatic 252, 3) := by decide +kernel
theorem dl_2221 : decode code 2221 = .ok (.istore 5, 2) := by decide +kernel
theorem dl_2223 : decode code 2223 = .ok (.aload_n 2, 1) := by decide +kernel
theorem dl_2224 : decode code 2224 = .ok (.aload_n 0, 1) := by decide +kernel
theorem dl_2225 : decode code 2225 = .ok (.iload 4, 2) := by decide +kernel
theorem dl_2227 : decode code 2227 = .ok (.iconst 1, 1) := by decide +kernel
theorem dl_2228 : decode code 2228 = .ok (.iadd, 1) := by decide +kernel
theorem dl_2229 : decode code 2229 = .ok (.iaload, 1) := by decide +kernel
theorem dl_2230 : decode code 2230 = .ok (.invokevirtual 254, 3) := by decide +kernel
theorem dl_2233 : decode code 2233 = .ok (.istore 6, 2) := by decide +kernel
theorem dl_2235 : decode code 2235 = .ok (.aload_n 2, 1) := by decide +kernel
theorem dl_2236 : decode code 2236 = .ok (.invokevirtual 125, 3) := by decide +kernel
theorem dl_2239 : decode code 2239 = .ok (.iload 5, 2) := by decide +kernel
theorem dl_2241 : decode code 2241 = .ok (.if_icmp .eq 5, 3) := by decide +kernel
theorem dl_2246 : decode code 2246 = .ok (.iload 5, 2) := by decide +kernel
theorem dl_2248 : decode code 2248 = .ok (.ifCond .ne 15, 3) := by decide +kernel
theorem dl_2251 : decode code 2251 = .ok (.aload_n 3, 1) := by decide +kernel
theorem dl_2252 : decode code 2252 = .ok (.iconst 0, 1) := by decide +kernel
theorem dl_2253 : decode code 2253 = .ok (.laload, 1) := by decide +kernel
theorem dl_2254 : decode code 2254 = .ok (.iload 6, 2) := by decide +kernel
theorem dl_2256 : decode code 2256 = .ok (.i2l, 1) := by decide +kernel
theorem dl_2257 : decode code 2257 = .ok (.lcmp, 1) := by decide +kernel
theorem dl_2258 : decode code 2258 = .ok (.ifCond .eq 5, 3) := by decide +kernel
theorem dl_2263 : decode code 2263 = .ok (.goto 266, 3) := by decide +kernel
set_option maxRecDepth 100000 in
theorem lc_bestTurn (hst : l.stackTraces = false) (C : LCX l E p s m c b L xs) (hi : i + 5 < L) (hL : L ≤ 3072) (hk : k + 4 ≤ 601024 ∧ n + 24 ≤ 7293034) (hR : REL σ) (kk : ∀ σ2, REL σ2 → LW l E p e s m below meth c b Q (k + 4) (n + 24) 2529 (lo4 i) [] σ2) : LW l E p e s m below meth c b Q k n 2210 (lo4 i) [] σ := by
  obtain ⟨tag, v, σ1, e1, H1⟩ := q_bestTurn (xs (i + 1)) σ hR
  have ht : tag = 0 ∨ tag = 1 := by
    obtain ⟨w, σ2, -, h2, -⟩ := H1 σ1 (fun _ _ => rfl)
    exact (thr_k1 h2).2
  obtain ⟨w, σ2, e2, h2, h3, h4, h5⟩ := H1 _ (e54_w (σ1 := σ1) (tag := tag) (v := v))
  have hk1 : σ2 133 7 = kti [1] tag := (thr_k1 h2).1
  have hv : tag = 0 → σ2 154 0 = w := fun h => by
    rw [h5, if_pos h, su_s]
    exact h3 h
  refine lr_aload_n (pc := 2210) C 0 dl_2210 rfl rfl ?_
  refine lr_arg (pc := 2211) (i := i) (j := 1) C 3 rfl (by omega) hL dl_2211 dl_2212 1 (by decide) dl_2214 dl_2215 dl_2216 ?_
  refine lr_aload_n (pc := 2217) C 2 dl_2217 rfl rfl ?_
  refine lr_callW (pc := 2218) (hh := hL_bestTurn) (M' := mL_bestTurn) (y := yL_bestTurn) (ix := 252) (t := kti [1] tag) (σ2 := (if tag = 0 then su σ1 154 0 v else σ1)) (st := []) [.ref 0, .int (xs (i + 1)), .ref 154] C (tL_bestTurn l hst (xs (i + 1)) σ tag v σ1 e1 ht) dl_2218 rfl rfl kw_L_bestTurn lk_L_252 (by decide) (Nat.zero_le _) (show k + 1 ≤ 601024 ∧ n + 6 ≤ 7293034 by omega) ?_
  refine lr_istore (pc := 2221) C ((5, .int (kti [1] tag)) :: lo4 i) dl_2221 (by decide) (by decide) rfl ?_
  refine lr_aload_n (pc := 2223) C 2 dl_2223 rfl rfl ?_
  refine lr_arg (pc := 2224) (i := i) (j := 1) C 4 rfl (by omega) hL dl_2224 dl_2225 1 (by decide) dl_2227 dl_2228 dl_2229 ?_
  refine lr_callV (pc := 2230) (q := 133) (ci := 7) (o1 := (0, .int w, σ2)) (M' := mX7_bestTurn) (y := yX7_bestTurn) (ix := 254) (st := []) [.int (xs (i + 1))] C (tX7_bestTurn l hst (xs (i + 1)) _ (w, σ2) e2) rfl dl_2230 rfl ks_133 (show vwCl[7]? = some _ from rfl) yw_X7_bestTurn lk_L_254 (by decide) (Nat.zero_le _) (show k + 1 + 0 ≤ 601024 ∧ n + 6 + 0 ≤ 7293034 by omega) ?_
  refine lr_istore (pc := 2233) C ((6, .int w) :: (5, .int (kti [1] tag)) :: lo4 i) dl_2233 (by decide) (by decide) rfl ?_
  exact lr_tail (pc := 2235) (i := i) hst C hk1 hv (show k + 1 + 0 ≤ 601024 ∧ n + 6 + 0 ≤ 7293034 by omega) dl_2235 dl_2236 dl_2239 dl_2241 dl_2246 dl_2248 dl_2251 dl_2252 dl_2253 dl_2254 dl_2256 dl_2257 dl_2258 dl_2263 (by decide) (lr_widen (k + 4) (n + 24) (show k + 1 + 0 ≤ k + 4 by omega) (show n + 6 + 0 ≤ n + 24 by omega) (kk σ2 h4))
theorem dl_2266 : decode code 2266 = .ok (.aload_n 1, 1) := by decide +kernel
theorem dl_2267 : decode code 2267 = .ok (.aload_n 0, 1) := by decide +kernel
theorem dl_2268 : decode code 2268 = .ok (.iload 4, 2) := by decide +kernel
theorem dl_2270 : decode code 2270 = .ok (.iconst 1, 1) := by decide +kernel
theorem dl_2271 : decode code 2271 = .ok (.iadd, 1) := by decide +kernel
theorem dl_2272 : decode code 2272 = .ok (.iaload, 1) := by decide +kernel
theorem dl_2273 : decode code 2273 = .ok (.aload_n 3, 1) := by decide +kernel
theorem dl_2274 : decode code 2274 = .ok (.invokestatic 255, 3) := by decide +kernel
theorem dl_2277 : decode code 2277 = .ok (.istore 5, 2) := by decide +kernel
theorem dl_2279 : decode code 2279 = .ok (.aload_n 2, 1) := by decide +kernel
theorem dl_2280 : decode code 2280 = .ok (.aload_n 0, 1) := by decide +kernel
theorem dl_2281 : decode code 2281 = .ok (.iload 4, 2) := by decide +kernel
theorem dl_2283 : decode code 2283 = .ok (.iconst 1, 1) := by decide +kernel
theorem dl_2284 : decode code 2284 = .ok (.iadd, 1) := by decide +kernel
theorem dl_2285 : decode code 2285 = .ok (.iaload, 1) := by decide +kernel
theorem dl_2286 : decode code 2286 = .ok (.invokevirtual 257, 3) := by decide +kernel
theorem dl_2289 : decode code 2289 = .ok (.istore 6, 2) := by decide +kernel
theorem dl_2291 : decode code 2291 = .ok (.aload_n 2, 1) := by decide +kernel
theorem dl_2292 : decode code 2292 = .ok (.invokevirtual 125, 3) := by decide +kernel
theorem dl_2295 : decode code 2295 = .ok (.iload 5, 2) := by decide +kernel
theorem dl_2297 : decode code 2297 = .ok (.if_icmp .eq 5, 3) := by decide +kernel
theorem dl_2302 : decode code 2302 = .ok (.iload 5, 2) := by decide +kernel
theorem dl_2304 : decode code 2304 = .ok (.ifCond .ne 15, 3) := by decide +kernel
theorem dl_2307 : decode code 2307 = .ok (.aload_n 3, 1) := by decide +kernel
theorem dl_2308 : decode code 2308 = .ok (.iconst 0, 1) := by decide +kernel
theorem dl_2309 : decode code 2309 = .ok (.laload, 1) := by decide +kernel
theorem dl_2310 : decode code 2310 = .ok (.iload 6, 2) := by decide +kernel
theorem dl_2312 : decode code 2312 = .ok (.i2l, 1) := by decide +kernel
theorem dl_2313 : decode code 2313 = .ok (.lcmp, 1) := by decide +kernel
theorem dl_2314 : decode code 2314 = .ok (.ifCond .eq 5, 3) := by decide +kernel
theorem dl_2319 : decode code 2319 = .ok (.goto 210, 3) := by decide +kernel
set_option maxRecDepth 100000 in
theorem lc_period (hst : l.stackTraces = false) (C : LCX l E p s m c b L xs) (hi : i + 5 < L) (hL : L ≤ 3072) (hk : k + 4 ≤ 601024 ∧ n + 24 ≤ 7293034) (hR : REL σ) (kk : ∀ σ2, REL σ2 → LW l E p e s m below meth c b Q (k + 4) (n + 24) 2529 (lo4 i) [] σ2) : LW l E p e s m below meth c b Q k n 2266 (lo4 i) [] σ := by
  obtain ⟨tag, v, σ1, e1, H1⟩ := q_period (xs (i + 1)) σ hR
  have ht : tag = 0 ∨ tag = 1 := by
    obtain ⟨w, σ2, -, h2, -⟩ := H1 σ1 (fun _ _ => rfl)
    exact (thr_k1 h2).2
  obtain ⟨w, σ2, e2, h2, h3, h4, h5⟩ := H1 _ (e54_w (σ1 := σ1) (tag := tag) (v := v))
  have hk1 : σ2 133 7 = kti [1] tag := (thr_k1 h2).1
  have hv : tag = 0 → σ2 154 0 = w := fun h => by
    rw [h5, if_pos h, su_s]
    exact h3 h
  refine lr_aload_n (pc := 2266) C 0 dl_2266 rfl rfl ?_
  refine lr_arg (pc := 2267) (i := i) (j := 1) C 3 rfl (by omega) hL dl_2267 dl_2268 1 (by decide) dl_2270 dl_2271 dl_2272 ?_
  refine lr_aload_n (pc := 2273) C 2 dl_2273 rfl rfl ?_
  refine lr_callW (pc := 2274) (hh := hL_period) (M' := mL_period) (y := yL_period) (ix := 255) (t := kti [1] tag) (σ2 := (if tag = 0 then su σ1 154 0 v else σ1)) (st := []) [.ref 0, .int (xs (i + 1)), .ref 154] C (tL_period l hst (xs (i + 1)) σ tag v σ1 e1 ht) dl_2274 rfl rfl kw_L_period lk_L_255 (by decide) (Nat.zero_le _) (show k + 1 ≤ 601024 ∧ n + 6 ≤ 7293034 by omega) ?_
  refine lr_istore (pc := 2277) C ((5, .int (kti [1] tag)) :: lo4 i) dl_2277 (by decide) (by decide) rfl ?_
  refine lr_aload_n (pc := 2279) C 2 dl_2279 rfl rfl ?_
  refine lr_arg (pc := 2280) (i := i) (j := 1) C 4 rfl (by omega) hL dl_2280 dl_2281 1 (by decide) dl_2283 dl_2284 dl_2285 ?_
  refine lr_callV (pc := 2286) (q := 133) (ci := 7) (o1 := (0, .int w, σ2)) (M' := mX7_period) (y := yX7_period) (ix := 257) (st := []) [.int (xs (i + 1))] C (tX7_period l hst (xs (i + 1)) _ (w, σ2) e2) rfl dl_2286 rfl ks_133 (show vwCl[7]? = some _ from rfl) yw_X7_period lk_L_257 (by decide) (Nat.zero_le _) (show k + 1 + 0 ≤ 601024 ∧ n + 6 + 0 ≤ 7293034 by omega) ?_
  refine lr_istore (pc := 2289) C ((6, .int w) :: (5, .int (kti [1] tag)) :: lo4 i) dl_2289 (by decide) (by decide) rfl ?_
  exact lr_tail (pc := 2291) (i := i) hst C hk1 hv (show k + 1 + 0 ≤ 601024 ∧ n + 6 + 0 ≤ 7293034 by omega) dl_2291 dl_2292 dl_2295 dl_2297 dl_2302 dl_2304 dl_2307 dl_2308 dl_2309 dl_2310 dl_2312 dl_2313 dl_2314 dl_2319 (by decide) (lr_widen (k + 4) (n + 24) (show k + 1 + 0 ≤ k + 4 by omega) (show n + 6 + 0 ≤ n + 24 by omega) (kk σ2 h4))
theorem dl_2322 : decode code 2322 = .ok (.aload_n 1, 1) := by decide +kernel
theorem dl_2323 : decode code 2323 = .ok (.invokevirtual 258, 3) := by decide +kernel
theorem dl_2326 : decode code 2326 = .ok (.dstore 5, 2) := by decide +kernel
theorem dl_2328 : decode code 2328 = .ok (.aload_n 2, 1) := by decide +kernel
theorem dl_2329 : decode code 2329 = .ok (.invokevirtual 262, 3) := by decide +kernel
theorem dl_2332 : decode code 2332 = .ok (.dstore 7, 2) := by decide +kernel
theorem dl_2334 : decode code 2334 = .ok (.dload 5, 2) := by decide +kernel
theorem dl_2336 : decode code 2336 = .ok (.dload 7, 2) := by decide +kernel
theorem dl_2338 : decode code 2338 = .ok (.dcmp .l, 1) := by decide +kernel
theorem dl_2339 : decode code 2339 = .ok (.ifCond .eq 21, 3) := by decide +kernel
theorem dl_2342 : decode code 2342 = .ok (.dload 5, 2) := by decide +kernel
theorem dl_2344 : decode code 2344 = .ok (.dload 5, 2) := by decide +kernel
theorem dl_2346 : decode code 2346 = .ok (.dcmp .l, 1) := by decide +kernel
theorem dl_2347 : decode code 2347 = .ok (.ifCond .eq 11, 3) := by decide +kernel
theorem dl_2350 : decode code 2350 = .ok (.dload 7, 2) := by decide +kernel
theorem dl_2352 : decode code 2352 = .ok (.dload 7, 2) := by decide +kernel
theorem dl_2354 : decode code 2354 = .ok (.dcmp .l, 1) := by decide +kernel
theorem dl_2355 : decode code 2355 = .ok (.ifCond .ne 5, 3) := by decide +kernel
theorem dl_2360 : decode code 2360 = .ok (.goto 169, 3) := by decide +kernel
set_option maxRecDepth 100000 in
theorem lc_meanBrightness (hst : l.stackTraces = false) (C : LCX l E p s m c b L xs) (hi : i + 5 < L) (hL : L ≤ 3072) (hk : k + 4 ≤ 601024 ∧ n + 24 ≤ 7293034) (hR : REL σ) (kk : ∀ σ2, REL σ2 → LW l E p e s m below meth c b Q (k + 4) (n + 24) 2529 (lo4 i) [] σ2) : LW l E p e s m below meth c b Q k n 2322 (lo4 i) [] σ := by
  obtain ⟨v, σ1, e1, H1⟩ := q_mean σ hR
  obtain ⟨σ2, e2, h4, h5⟩ := H1 σ1 (fun _ _ => rfl)
  refine lr_aload_n (pc := 2322) C 0 dl_2322 rfl rfl ?_
  refine lr_callV (pc := 2323) (q := 0) (ci := 6) (o1 := (0, .double v, σ1)) (M' := mX6_meanBrightness) (y := yX6_meanBrightness) (ix := 258) (st := []) [] C (tX6_meanBrightness l hst σ (v, σ1) e1) rfl dl_2323 rfl ks_0 (show vwCl[6]? = some _ from rfl) yw_X6_meanBrightness lk_L_258 (by decide) (show _ ≤ 8 from Nat.le_of_ble_eq_true rfl) (show k + 0 ≤ 601024 ∧ n + 0 ≤ 7293034 by omega) ?_
  refine lr_dstore (pc := 2326) (x := v) C ((5, .double (v)) :: lo4 i) dl_2326 (by decide) (by decide) rfl ?_
  refine lr_aload_n (pc := 2328) C 2 dl_2328 rfl rfl ?_
  refine lr_callV (pc := 2329) (q := 133) (ci := 7) (o1 := (0, .double v, σ2)) (M' := mX7_meanBrightness) (y := yX7_meanBrightness) (ix := 262) (st := []) [] C (tX7_meanBrightness l hst _ (v, σ2) e2) rfl dl_2329 rfl ks_133 (show vwCl[7]? = some _ from rfl) yw_X7_meanBrightness lk_L_262 (by decide) (show _ ≤ 8 from Nat.le_of_ble_eq_true rfl) (show k + 0 + 0 ≤ 601024 ∧ n + 0 + 0 ≤ 7293034 by omega) ?_
  refine lr_dstore (pc := 2332) (x := v) C ((7, .double (v)) :: (5, .double (v)) :: lo4 i) dl_2332 (by decide) (by decide) rfl ?_
  have hend : LW l E p e s m below meth c b Q (k + 0 + 0) (n + 0 + 0) 2360 ((7, .double (v)) :: (5, .double (v)) :: lo4 i) [] σ2 := lr_goto (pc := 2360) (tgt := 2529) C dl_2360 (by decide) (lr_sub (lo4 i) [2, 3, 4, 5] rfl (lr_widen (k + 4) (n + 24) (show k + 0 + 0 ≤ k + 4 by omega) (show n + 0 + 0 ≤ n + 24 by omega) (kk σ2 h4)))
  refine lr_dload (pc := 2334) C 1 dl_2334 rfl ?_
  refine lr_dload (pc := 2336) C 0 dl_2336 rfl ?_
  refine lr_dcmp (pc := 2338) C dl_2338 ?_
  refine lr_if_eq (pc := 2339) (tgt := 2360) C dl_2339 (by decide) (fun _ => hend) (fun h0 => ?_)
  refine lr_dload (pc := 2342) C 1 dl_2342 rfl ?_
  refine lr_dload (pc := 2344) C 1 dl_2344 rfl ?_
  refine lr_dcmp (pc := 2346) C dl_2346 ?_
  refine lr_if_eq (pc := 2347) (tgt := 2358) C dl_2347 (by decide) (fun h => absurd h h0) (fun _ => ?_)
  refine lr_dload (pc := 2350) C 0 dl_2350 rfl ?_
  refine lr_dload (pc := 2352) C 0 dl_2352 rfl ?_
  refine lr_dcmp (pc := 2354) C dl_2354 ?_
  exact lr_if_ne (pc := 2355) (tgt := 2360) C dl_2355 (by decide) (fun _ => hend) (fun h => absurd h h0)
end LC3
