/-! the law's cases -/
section LC1
variable {l : Launch} {E : KE} {p : Program} {e : Env} {s : State} {m : MethodId} {below : List Frame} {meth : Method} {c : Code} {b L : Nat} {xs : Nat → Int32} {Q : State → Prop} {k n i : Nat} {σ : Sto}
theorem dl_707 : decode code 707 = .ok (.aload_n 1, 1) := by decide +kernel
theorem dl_708 : decode code 708 = .ok (.aload_n 0, 1) := by decide +kernel
theorem dl_709 : decode code 709 = .ok (.iload 4, 2) := by decide +kernel
theorem dl_711 : decode code 711 = .ok (.iconst 1, 1) := by decide +kernel
theorem dl_712 : decode code 712 = .ok (.iadd, 1) := by decide +kernel
theorem dl_713 : decode code 713 = .ok (.iaload, 1) := by decide +kernel
theorem dl_714 : decode code 714 = .ok (.aload_n 0, 1) := by decide +kernel
theorem dl_715 : decode code 715 = .ok (.iload 4, 2) := by decide +kernel
theorem dl_717 : decode code 717 = .ok (.iconst 2, 1) := by decide +kernel
theorem dl_718 : decode code 718 = .ok (.iadd, 1) := by decide +kernel
theorem dl_719 : decode code 719 = .ok (.iaload, 1) := by decide +kernel
theorem dl_720 : decode code 720 = .ok (.aload_n 3, 1) := by decide +kernel
theorem dl_721 : decode code 721 = .ok (.invokestatic 160, 3) := by decide +kernel
theorem dl_724 : decode code 724 = .ok (.istore 5, 2) := by decide +kernel
theorem dl_726 : decode code 726 = .ok (.aload_n 2, 1) := by decide +kernel
theorem dl_727 : decode code 727 = .ok (.aload_n 0, 1) := by decide +kernel
theorem dl_728 : decode code 728 = .ok (.iload 4, 2) := by decide +kernel
theorem dl_730 : decode code 730 = .ok (.iconst 1, 1) := by decide +kernel
theorem dl_731 : decode code 731 = .ok (.iadd, 1) := by decide +kernel
theorem dl_732 : decode code 732 = .ok (.iaload, 1) := by decide +kernel
theorem dl_733 : decode code 733 = .ok (.aload_n 0, 1) := by decide +kernel
theorem dl_734 : decode code 734 = .ok (.iload 4, 2) := by decide +kernel
theorem dl_736 : decode code 736 = .ok (.iconst 2, 1) := by decide +kernel
theorem dl_737 : decode code 737 = .ok (.iadd, 1) := by decide +kernel
theorem dl_738 : decode code 738 = .ok (.iaload, 1) := by decide +kernel
theorem dl_739 : decode code 739 = .ok (.invokevirtual 162, 3) := by decide +kernel
theorem dl_742 : decode code 742 = .ok (.istore 6, 2) := by decide +kernel
theorem dl_744 : decode code 744 = .ok (.aload_n 2, 1) := by decide +kernel
theorem dl_745 : decode code 745 = .ok (.invokevirtual 125, 3) := by decide +kernel
theorem dl_748 : decode code 748 = .ok (.iload 5, 2) := by decide +kernel
theorem dl_750 : decode code 750 = .ok (.if_icmp .eq 5, 3) := by decide +kernel
theorem dl_755 : decode code 755 = .ok (.iload 5, 2) := by decide +kernel
theorem dl_757 : decode code 757 = .ok (.ifCond .ne 15, 3) := by decide +kernel
theorem dl_760 : decode code 760 = .ok (.aload_n 3, 1) := by decide +kernel
theorem dl_761 : decode code 761 = .ok (.iconst 0, 1) := by decide +kernel
theorem dl_762 : decode code 762 = .ok (.laload, 1) := by decide +kernel
theorem dl_763 : decode code 763 = .ok (.iload 6, 2) := by decide +kernel
theorem dl_765 : decode code 765 = .ok (.i2l, 1) := by decide +kernel
theorem dl_766 : decode code 766 = .ok (.lcmp, 1) := by decide +kernel
theorem dl_767 : decode code 767 = .ok (.ifCond .eq 5, 3) := by decide +kernel
theorem dl_772 : decode code 772 = .ok (.goto 1757, 3) := by decide +kernel
set_option maxRecDepth 100000 in
theorem lc_colour (hst : l.stackTraces = false) (C : LCX l E p s m c b L xs) (hi : i + 5 < L) (hL : L ≤ 3072) (hk : k + 4 ≤ 601024 ∧ n + 24 ≤ 7293034) (hR : REL σ) (kk : ∀ σ2, REL σ2 → LW l E p e s m below meth c b Q (k + 4) (n + 24) 2529 (lo4 i) [] σ2) : LW l E p e s m below meth c b Q k n 707 (lo4 i) [] σ := by
  obtain ⟨tag, v, σ1, e1, H1⟩ := q_colour (xs (i + 1)) (xs (i + 2)) σ hR
  have ht : tag = 0 ∨ tag = 3 := by
    obtain ⟨w, σ2, -, h2, -⟩ := H1 σ1 (fun _ _ => rfl)
    exact (thr_k1 h2).2
  obtain ⟨w, σ2, e2, h2, h3, h4, h5⟩ := H1 _ (e54_w (σ1 := σ1) (tag := tag) (v := v))
  have hk1 : σ2 133 7 = kti [3] tag := (thr_k1 h2).1
  have hv : tag = 0 → σ2 154 0 = w := fun h => by
    rw [h5, if_pos h, su_s]
    exact h3 h
  refine lr_aload_n (pc := 707) C 0 dl_707 rfl rfl ?_
  refine lr_arg (pc := 708) (i := i) (j := 1) C 3 rfl (by omega) hL dl_708 dl_709 1 (by decide) dl_711 dl_712 dl_713 ?_
  refine lr_arg (pc := 714) (i := i) (j := 2) C 3 rfl (by omega) hL dl_714 dl_715 2 (by decide) dl_717 dl_718 dl_719 ?_
  refine lr_aload_n (pc := 720) C 2 dl_720 rfl rfl ?_
  refine lr_callW (pc := 721) (hh := hL_colour) (M' := mL_colour) (y := yL_colour) (ix := 160) (t := kti [3] tag) (σ2 := (if tag = 0 then su σ1 154 0 v else σ1)) (st := []) [.ref 0, .int (xs (i + 1)), .int (xs (i + 2)), .ref 154] C (tL_colour l hst (xs (i + 1)) (xs (i + 2)) σ tag v σ1 e1 ht) dl_721 rfl rfl kw_L_colour lk_L_160 (by decide) (Nat.zero_le _) (show k + 1 ≤ 601024 ∧ n + 6 ≤ 7293034 by omega) ?_
  refine lr_istore (pc := 724) C ((5, .int (kti [3] tag)) :: lo4 i) dl_724 (by decide) (by decide) rfl ?_
  refine lr_aload_n (pc := 726) C 2 dl_726 rfl rfl ?_
  refine lr_arg (pc := 727) (i := i) (j := 1) C 4 rfl (by omega) hL dl_727 dl_728 1 (by decide) dl_730 dl_731 dl_732 ?_
  refine lr_arg (pc := 733) (i := i) (j := 2) C 4 rfl (by omega) hL dl_733 dl_734 2 (by decide) dl_736 dl_737 dl_738 ?_
  refine lr_callV (pc := 739) (q := 133) (ci := 7) (o1 := (0, .int w, σ2)) (M' := mX7_colour) (y := yX7_colour) (ix := 162) (st := []) [.int (xs (i + 1)), .int (xs (i + 2))] C (tX7_colour l hst (xs (i + 1)) (xs (i + 2)) _ (w, σ2) e2) rfl dl_739 rfl ks_133 (show vwCl[7]? = some _ from rfl) yw_X7_colour lk_L_162 (by decide) (Nat.zero_le _) (show k + 1 + 0 ≤ 601024 ∧ n + 6 + 0 ≤ 7293034 by omega) ?_
  refine lr_istore (pc := 742) C ((6, .int w) :: (5, .int (kti [3] tag)) :: lo4 i) dl_742 (by decide) (by decide) rfl ?_
  exact lr_tail (pc := 744) (i := i) hst C hk1 hv (show k + 1 + 0 ≤ 601024 ∧ n + 6 + 0 ≤ 7293034 by omega) dl_744 dl_745 dl_748 dl_750 dl_755 dl_757 dl_760 dl_761 dl_762 dl_763 dl_765 dl_766 dl_767 dl_772 (by decide) (lr_widen (k + 4) (n + 24) (show k + 1 + 0 ≤ k + 4 by omega) (show n + 6 + 0 ≤ n + 24 by omega) (kk σ2 h4))
theorem dl_775 : decode code 775 = .ok (.aload_n 1, 1) := by decide +kernel
theorem dl_776 : decode code 776 = .ok (.aload_n 0, 1) := by decide +kernel
theorem dl_777 : decode code 777 = .ok (.iload 4, 2) := by decide +kernel
theorem dl_779 : decode code 779 = .ok (.iconst 1, 1) := by decide +kernel
theorem dl_780 : decode code 780 = .ok (.iadd, 1) := by decide +kernel
theorem dl_781 : decode code 781 = .ok (.iaload, 1) := by decide +kernel
theorem dl_782 : decode code 782 = .ok (.aload_n 0, 1) := by decide +kernel
theorem dl_783 : decode code 783 = .ok (.iload 4, 2) := by decide +kernel
theorem dl_785 : decode code 785 = .ok (.iconst 2, 1) := by decide +kernel
theorem dl_786 : decode code 786 = .ok (.iadd, 1) := by decide +kernel
theorem dl_787 : decode code 787 = .ok (.iaload, 1) := by decide +kernel
theorem dl_788 : decode code 788 = .ok (.aload_n 3, 1) := by decide +kernel
theorem dl_789 : decode code 789 = .ok (.invokestatic 163, 3) := by decide +kernel
theorem dl_792 : decode code 792 = .ok (.istore 5, 2) := by decide +kernel
theorem dl_794 : decode code 794 = .ok (.aload_n 2, 1) := by decide +kernel
theorem dl_795 : decode code 795 = .ok (.aload_n 0, 1) := by decide +kernel
theorem dl_796 : decode code 796 = .ok (.iload 4, 2) := by decide +kernel
theorem dl_798 : decode code 798 = .ok (.iconst 1, 1) := by decide +kernel
theorem dl_799 : decode code 799 = .ok (.iadd, 1) := by decide +kernel
theorem dl_800 : decode code 800 = .ok (.iaload, 1) := by decide +kernel
theorem dl_801 : decode code 801 = .ok (.aload_n 0, 1) := by decide +kernel
theorem dl_802 : decode code 802 = .ok (.iload 4, 2) := by decide +kernel
theorem dl_804 : decode code 804 = .ok (.iconst 2, 1) := by decide +kernel
theorem dl_805 : decode code 805 = .ok (.iadd, 1) := by decide +kernel
theorem dl_806 : decode code 806 = .ok (.iaload, 1) := by decide +kernel
theorem dl_807 : decode code 807 = .ok (.invokevirtual 165, 3) := by decide +kernel
theorem dl_810 : decode code 810 = .ok (.istore 6, 2) := by decide +kernel
theorem dl_812 : decode code 812 = .ok (.aload_n 2, 1) := by decide +kernel
theorem dl_813 : decode code 813 = .ok (.invokevirtual 125, 3) := by decide +kernel
theorem dl_816 : decode code 816 = .ok (.iload 5, 2) := by decide +kernel
theorem dl_818 : decode code 818 = .ok (.if_icmp .eq 5, 3) := by decide +kernel
theorem dl_823 : decode code 823 = .ok (.iload 5, 2) := by decide +kernel
theorem dl_825 : decode code 825 = .ok (.ifCond .ne 15, 3) := by decide +kernel
theorem dl_828 : decode code 828 = .ok (.aload_n 3, 1) := by decide +kernel
theorem dl_829 : decode code 829 = .ok (.iconst 0, 1) := by decide +kernel
theorem dl_830 : decode code 830 = .ok (.laload, 1) := by decide +kernel
theorem dl_831 : decode code 831 = .ok (.iload 6, 2) := by decide +kernel
theorem dl_833 : decode code 833 = .ok (.i2l, 1) := by decide +kernel
theorem dl_834 : decode code 834 = .ok (.lcmp, 1) := by decide +kernel
theorem dl_835 : decode code 835 = .ok (.ifCond .eq 5, 3) := by decide +kernel
theorem dl_840 : decode code 840 = .ok (.goto 1689, 3) := by decide +kernel
set_option maxRecDepth 100000 in
theorem lc_brightness (hst : l.stackTraces = false) (C : LCX l E p s m c b L xs) (hi : i + 5 < L) (hL : L ≤ 3072) (hk : k + 4 ≤ 601024 ∧ n + 24 ≤ 7293034) (hR : REL σ) (kk : ∀ σ2, REL σ2 → LW l E p e s m below meth c b Q (k + 4) (n + 24) 2529 (lo4 i) [] σ2) : LW l E p e s m below meth c b Q k n 775 (lo4 i) [] σ := by
  obtain ⟨tag, v, σ1, e1, H1⟩ := q_brightness (xs (i + 1)) (xs (i + 2)) σ hR
  have ht : tag = 0 ∨ tag = 3 := by
    obtain ⟨w, σ2, -, h2, -⟩ := H1 σ1 (fun _ _ => rfl)
    exact (thr_k1 h2).2
  obtain ⟨w, σ2, e2, h2, h3, h4, h5⟩ := H1 _ (e54_w (σ1 := σ1) (tag := tag) (v := v))
  have hk1 : σ2 133 7 = kti [3] tag := (thr_k1 h2).1
  have hv : tag = 0 → σ2 154 0 = w := fun h => by
    rw [h5, if_pos h, su_s]
    exact h3 h
  refine lr_aload_n (pc := 775) C 0 dl_775 rfl rfl ?_
  refine lr_arg (pc := 776) (i := i) (j := 1) C 3 rfl (by omega) hL dl_776 dl_777 1 (by decide) dl_779 dl_780 dl_781 ?_
  refine lr_arg (pc := 782) (i := i) (j := 2) C 3 rfl (by omega) hL dl_782 dl_783 2 (by decide) dl_785 dl_786 dl_787 ?_
  refine lr_aload_n (pc := 788) C 2 dl_788 rfl rfl ?_
  refine lr_callW (pc := 789) (hh := hL_brightness) (M' := mL_brightness) (y := yL_brightness) (ix := 163) (t := kti [3] tag) (σ2 := (if tag = 0 then su σ1 154 0 v else σ1)) (st := []) [.ref 0, .int (xs (i + 1)), .int (xs (i + 2)), .ref 154] C (tL_brightness l hst (xs (i + 1)) (xs (i + 2)) σ tag v σ1 e1 ht) dl_789 rfl rfl kw_L_brightness lk_L_163 (by decide) (Nat.zero_le _) (show k + 1 ≤ 601024 ∧ n + 6 ≤ 7293034 by omega) ?_
  refine lr_istore (pc := 792) C ((5, .int (kti [3] tag)) :: lo4 i) dl_792 (by decide) (by decide) rfl ?_
  refine lr_aload_n (pc := 794) C 2 dl_794 rfl rfl ?_
  refine lr_arg (pc := 795) (i := i) (j := 1) C 4 rfl (by omega) hL dl_795 dl_796 1 (by decide) dl_798 dl_799 dl_800 ?_
  refine lr_arg (pc := 801) (i := i) (j := 2) C 4 rfl (by omega) hL dl_801 dl_802 2 (by decide) dl_804 dl_805 dl_806 ?_
  refine lr_callV (pc := 807) (q := 133) (ci := 7) (o1 := (0, .int w, σ2)) (M' := mX7_brightness) (y := yX7_brightness) (ix := 165) (st := []) [.int (xs (i + 1)), .int (xs (i + 2))] C (tX7_brightness l hst (xs (i + 1)) (xs (i + 2)) _ (w, σ2) e2) rfl dl_807 rfl ks_133 (show vwCl[7]? = some _ from rfl) yw_X7_brightness lk_L_165 (by decide) (Nat.zero_le _) (show k + 1 + 0 ≤ 601024 ∧ n + 6 + 0 ≤ 7293034 by omega) ?_
  refine lr_istore (pc := 810) C ((6, .int w) :: (5, .int (kti [3] tag)) :: lo4 i) dl_810 (by decide) (by decide) rfl ?_
  exact lr_tail (pc := 812) (i := i) hst C hk1 hv (show k + 1 + 0 ≤ 601024 ∧ n + 6 + 0 ≤ 7293034 by omega) dl_812 dl_813 dl_816 dl_818 dl_823 dl_825 dl_828 dl_829 dl_830 dl_831 dl_833 dl_834 dl_835 dl_840 (by decide) (lr_widen (k + 4) (n + 24) (show k + 1 + 0 ≤ k + 4 by omega) (show n + 6 + 0 ≤ n + 24 by omega) (kk σ2 h4))
theorem dl_843 : decode code 843 = .ok (.aload_n 1, 1) := by decide +kernel
theorem dl_844 : decode code 844 = .ok (.aload_n 0, 1) := by decide +kernel
theorem dl_845 : decode code 845 = .ok (.iload 4, 2) := by decide +kernel
theorem dl_847 : decode code 847 = .ok (.iconst 1, 1) := by decide +kernel
theorem dl_848 : decode code 848 = .ok (.iadd, 1) := by decide +kernel
theorem dl_849 : decode code 849 = .ok (.iaload, 1) := by decide +kernel
theorem dl_850 : decode code 850 = .ok (.aload_n 0, 1) := by decide +kernel
theorem dl_851 : decode code 851 = .ok (.iload 4, 2) := by decide +kernel
theorem dl_853 : decode code 853 = .ok (.iconst 2, 1) := by decide +kernel
theorem dl_854 : decode code 854 = .ok (.iadd, 1) := by decide +kernel
theorem dl_855 : decode code 855 = .ok (.iaload, 1) := by decide +kernel
theorem dl_856 : decode code 856 = .ok (.aload_n 3, 1) := by decide +kernel
theorem dl_857 : decode code 857 = .ok (.invokestatic 166, 3) := by decide +kernel
theorem dl_860 : decode code 860 = .ok (.istore 5, 2) := by decide +kernel
theorem dl_862 : decode code 862 = .ok (.aload_n 2, 1) := by decide +kernel
theorem dl_863 : decode code 863 = .ok (.aload_n 0, 1) := by decide +kernel
theorem dl_864 : decode code 864 = .ok (.iload 4, 2) := by decide +kernel
theorem dl_866 : decode code 866 = .ok (.iconst 1, 1) := by decide +kernel
theorem dl_867 : decode code 867 = .ok (.iadd, 1) := by decide +kernel
theorem dl_868 : decode code 868 = .ok (.iaload, 1) := by decide +kernel
theorem dl_869 : decode code 869 = .ok (.aload_n 0, 1) := by decide +kernel
theorem dl_870 : decode code 870 = .ok (.iload 4, 2) := by decide +kernel
theorem dl_872 : decode code 872 = .ok (.iconst 2, 1) := by decide +kernel
theorem dl_873 : decode code 873 = .ok (.iadd, 1) := by decide +kernel
theorem dl_874 : decode code 874 = .ok (.iaload, 1) := by decide +kernel
theorem dl_875 : decode code 875 = .ok (.invokevirtual 168, 3) := by decide +kernel
theorem dl_878 : decode code 878 = .ok (.istore 6, 2) := by decide +kernel
theorem dl_880 : decode code 880 = .ok (.aload_n 2, 1) := by decide +kernel
theorem dl_881 : decode code 881 = .ok (.invokevirtual 125, 3) := by decide +kernel
theorem dl_884 : decode code 884 = .ok (.iload 5, 2) := by decide +kernel
theorem dl_886 : decode code 886 = .ok (.if_icmp .eq 5, 3) := by decide +kernel
theorem dl_891 : decode code 891 = .ok (.iload 5, 2) := by decide +kernel
theorem dl_893 : decode code 893 = .ok (.ifCond .ne 15, 3) := by decide +kernel
theorem dl_896 : decode code 896 = .ok (.aload_n 3, 1) := by decide +kernel
theorem dl_897 : decode code 897 = .ok (.iconst 0, 1) := by decide +kernel
theorem dl_898 : decode code 898 = .ok (.laload, 1) := by decide +kernel
theorem dl_899 : decode code 899 = .ok (.iload 6, 2) := by decide +kernel
theorem dl_901 : decode code 901 = .ok (.i2l, 1) := by decide +kernel
theorem dl_902 : decode code 902 = .ok (.lcmp, 1) := by decide +kernel
theorem dl_903 : decode code 903 = .ok (.ifCond .eq 5, 3) := by decide +kernel
theorem dl_908 : decode code 908 = .ok (.goto 1621, 3) := by decide +kernel
set_option maxRecDepth 100000 in
theorem lc_reflections (hst : l.stackTraces = false) (C : LCX l E p s m c b L xs) (hi : i + 5 < L) (hL : L ≤ 3072) (hk : k + 4 ≤ 601024 ∧ n + 24 ≤ 7293034) (hR : REL σ) (kk : ∀ σ2, REL σ2 → LW l E p e s m below meth c b Q (k + 4) (n + 24) 2529 (lo4 i) [] σ2) : LW l E p e s m below meth c b Q k n 843 (lo4 i) [] σ := by
  obtain ⟨tag, v, σ1, e1, H1⟩ := q_reflections (xs (i + 1)) (xs (i + 2)) σ hR
  have ht : tag = 0 ∨ tag = 3 := by
    obtain ⟨w, σ2, -, h2, -⟩ := H1 σ1 (fun _ _ => rfl)
    exact (thr_k1 h2).2
  obtain ⟨w, σ2, e2, h2, h3, h4, h5⟩ := H1 _ (e54_w (σ1 := σ1) (tag := tag) (v := v))
  have hk1 : σ2 133 7 = kti [3] tag := (thr_k1 h2).1
  have hv : tag = 0 → σ2 154 0 = w := fun h => by
    rw [h5, if_pos h, su_s]
    exact h3 h
  refine lr_aload_n (pc := 843) C 0 dl_843 rfl rfl ?_
  refine lr_arg (pc := 844) (i := i) (j := 1) C 3 rfl (by omega) hL dl_844 dl_845 1 (by decide) dl_847 dl_848 dl_849 ?_
  refine lr_arg (pc := 850) (i := i) (j := 2) C 3 rfl (by omega) hL dl_850 dl_851 2 (by decide) dl_853 dl_854 dl_855 ?_
  refine lr_aload_n (pc := 856) C 2 dl_856 rfl rfl ?_
  refine lr_callW (pc := 857) (hh := hL_reflections) (M' := mL_reflections) (y := yL_reflections) (ix := 166) (t := kti [3] tag) (σ2 := (if tag = 0 then su σ1 154 0 v else σ1)) (st := []) [.ref 0, .int (xs (i + 1)), .int (xs (i + 2)), .ref 154] C (tL_reflections l hst (xs (i + 1)) (xs (i + 2)) σ tag v σ1 e1 ht) dl_857 rfl rfl kw_L_reflections lk_L_166 (by decide) (Nat.zero_le _) (show k + 1 ≤ 601024 ∧ n + 6 ≤ 7293034 by omega) ?_
  refine lr_istore (pc := 860) C ((5, .int (kti [3] tag)) :: lo4 i) dl_860 (by decide) (by decide) rfl ?_
  refine lr_aload_n (pc := 862) C 2 dl_862 rfl rfl ?_
  refine lr_arg (pc := 863) (i := i) (j := 1) C 4 rfl (by omega) hL dl_863 dl_864 1 (by decide) dl_866 dl_867 dl_868 ?_
  refine lr_arg (pc := 869) (i := i) (j := 2) C 4 rfl (by omega) hL dl_869 dl_870 2 (by decide) dl_872 dl_873 dl_874 ?_
  refine lr_callV (pc := 875) (q := 133) (ci := 7) (o1 := (0, .int w, σ2)) (M' := mX7_reflections) (y := yX7_reflections) (ix := 168) (st := []) [.int (xs (i + 1)), .int (xs (i + 2))] C (tX7_reflections l hst (xs (i + 1)) (xs (i + 2)) _ (w, σ2) e2) rfl dl_875 rfl ks_133 (show vwCl[7]? = some _ from rfl) yw_X7_reflections lk_L_168 (by decide) (Nat.zero_le _) (show k + 1 + 0 ≤ 601024 ∧ n + 6 + 0 ≤ 7293034 by omega) ?_
  refine lr_istore (pc := 878) C ((6, .int w) :: (5, .int (kti [3] tag)) :: lo4 i) dl_878 (by decide) (by decide) rfl ?_
  exact lr_tail (pc := 880) (i := i) hst C hk1 hv (show k + 1 + 0 ≤ 601024 ∧ n + 6 + 0 ≤ 7293034 by omega) dl_880 dl_881 dl_884 dl_886 dl_891 dl_893 dl_896 dl_897 dl_898 dl_899 dl_901 dl_902 dl_903 dl_908 (by decide) (lr_widen (k + 4) (n + 24) (show k + 1 + 0 ≤ k + 4 by omega) (show n + 6 + 0 ≤ n + 24 by omega) (kk σ2 h4))
theorem dl_911 : decode code 911 = .ok (.aload_n 1, 1) := by decide +kernel
theorem dl_912 : decode code 912 = .ok (.aload_n 0, 1) := by decide +kernel
theorem dl_913 : decode code 913 = .ok (.iload 4, 2) := by decide +kernel
theorem dl_915 : decode code 915 = .ok (.iconst 1, 1) := by decide +kernel
theorem dl_916 : decode code 916 = .ok (.iadd, 1) := by decide +kernel
theorem dl_917 : decode code 917 = .ok (.iaload, 1) := by decide +kernel
theorem dl_918 : decode code 918 = .ok (.aload_n 0, 1) := by decide +kernel
theorem dl_919 : decode code 919 = .ok (.iload 4, 2) := by decide +kernel
theorem dl_921 : decode code 921 = .ok (.iconst 2, 1) := by decide +kernel
theorem dl_922 : decode code 922 = .ok (.iadd, 1) := by decide +kernel
theorem dl_923 : decode code 923 = .ok (.iaload, 1) := by decide +kernel
theorem dl_924 : decode code 924 = .ok (.aload_n 0, 1) := by decide +kernel
theorem dl_925 : decode code 925 = .ok (.iload 4, 2) := by decide +kernel
theorem dl_927 : decode code 927 = .ok (.iconst 3, 1) := by decide +kernel
theorem dl_928 : decode code 928 = .ok (.iadd, 1) := by decide +kernel
theorem dl_929 : decode code 929 = .ok (.iaload, 1) := by decide +kernel
theorem dl_930 : decode code 930 = .ok (.ifCond .eq 7, 3) := by decide +kernel
theorem dl_933 : decode code 933 = .ok (.iconst 1, 1) := by decide +kernel
theorem dl_934 : decode code 934 = .ok (.goto 4, 3) := by decide +kernel
theorem dl_937 : decode code 937 = .ok (.iconst 0, 1) := by decide +kernel
theorem dl_938 : decode code 938 = .ok (.aload_n 3, 1) := by decide +kernel
theorem dl_939 : decode code 939 = .ok (.invokestatic 169, 3) := by decide +kernel
theorem dl_942 : decode code 942 = .ok (.istore 5, 2) := by decide +kernel
theorem dl_944 : decode code 944 = .ok (.aload_n 2, 1) := by decide +kernel
theorem dl_945 : decode code 945 = .ok (.aload_n 0, 1) := by decide +kernel
theorem dl_946 : decode code 946 = .ok (.iload 4, 2) := by decide +kernel
theorem dl_948 : decode code 948 = .ok (.iconst 1, 1) := by decide +kernel
theorem dl_949 : decode code 949 = .ok (.iadd, 1) := by decide +kernel
theorem dl_950 : decode code 950 = .ok (.iaload, 1) := by decide +kernel
theorem dl_951 : decode code 951 = .ok (.aload_n 0, 1) := by decide +kernel
theorem dl_952 : decode code 952 = .ok (.iload 4, 2) := by decide +kernel
theorem dl_954 : decode code 954 = .ok (.iconst 2, 1) := by decide +kernel
theorem dl_955 : decode code 955 = .ok (.iadd, 1) := by decide +kernel
theorem dl_956 : decode code 956 = .ok (.iaload, 1) := by decide +kernel
theorem dl_957 : decode code 957 = .ok (.aload_n 0, 1) := by decide +kernel
theorem dl_958 : decode code 958 = .ok (.iload 4, 2) := by decide +kernel
theorem dl_960 : decode code 960 = .ok (.iconst 3, 1) := by decide +kernel
theorem dl_961 : decode code 961 = .ok (.iadd, 1) := by decide +kernel
theorem dl_962 : decode code 962 = .ok (.iaload, 1) := by decide +kernel
theorem dl_963 : decode code 963 = .ok (.ifCond .eq 7, 3) := by decide +kernel
theorem dl_966 : decode code 966 = .ok (.iconst 1, 1) := by decide +kernel
theorem dl_967 : decode code 967 = .ok (.goto 4, 3) := by decide +kernel
theorem dl_970 : decode code 970 = .ok (.iconst 0, 1) := by decide +kernel
theorem dl_971 : decode code 971 = .ok (.invokevirtual 172, 3) := by decide +kernel
theorem dl_974 : decode code 974 = .ok (.istore 6, 2) := by decide +kernel
theorem dl_976 : decode code 976 = .ok (.aload_n 2, 1) := by decide +kernel
theorem dl_977 : decode code 977 = .ok (.invokevirtual 125, 3) := by decide +kernel
theorem dl_980 : decode code 980 = .ok (.iload 5, 2) := by decide +kernel
theorem dl_982 : decode code 982 = .ok (.if_icmp .eq 5, 3) := by decide +kernel
theorem dl_987 : decode code 987 = .ok (.iload 5, 2) := by decide +kernel
theorem dl_989 : decode code 989 = .ok (.ifCond .ne 15, 3) := by decide +kernel
theorem dl_992 : decode code 992 = .ok (.aload_n 3, 1) := by decide +kernel
theorem dl_993 : decode code 993 = .ok (.iconst 0, 1) := by decide +kernel
theorem dl_994 : decode code 994 = .ok (.laload, 1) := by decide +kernel
theorem dl_995 : decode code 995 = .ok (.iload 6, 2) := by decide +kernel
theorem dl_997 : decode code 997 = .ok (.i2l, 1) := by decide +kernel
theorem dl_998 : decode code 998 = .ok (.lcmp, 1) := by decide +kernel
theorem dl_999 : decode code 999 = .ok (.ifCond .eq 5, 3) := by decide +kernel
theorem dl_1004 : decode code 1004 = .ok (.goto 1525, 3) := by decide +kernel
set_option maxRecDepth 100000 in
theorem lc_source (hst : l.stackTraces = false) (C : LCX l E p s m c b L xs) (hi : i + 5 < L) (hL : L ≤ 3072) (hk : k + 4 ≤ 601024 ∧ n + 24 ≤ 7293034) (hR : REL σ) (kk : ∀ σ2, REL σ2 → LW l E p e s m below meth c b Q (k + 4) (n + 24) 2529 (lo4 i) [] σ2) : LW l E p e s m below meth c b Q k n 911 (lo4 i) [] σ := by
  obtain ⟨tag, v, σ1, e1, H1⟩ := q_source (xs (i + 1)) (xs (i + 2)) (kb (decide (xs (i + 3) ≠ 0))) σ hR
  have ht : tag = 0 ∨ tag = 3 := by
    obtain ⟨w, σ2, -, h2, -⟩ := H1 σ1 (fun _ _ => rfl)
    exact (thr_k1 h2).2
  obtain ⟨w, σ2, e2, h2, h3, h4, h5⟩ := H1 _ (e54_w (σ1 := σ1) (tag := tag) (v := v))
  have hk1 : σ2 133 7 = kti [3] tag := (thr_k1 h2).1
  have hv : tag = 0 → σ2 154 0 = w := fun h => by
    rw [h5, if_pos h, su_s]
    exact h3 h
  refine lr_aload_n (pc := 911) C 0 dl_911 rfl rfl ?_
  refine lr_arg (pc := 912) (i := i) (j := 1) C 3 rfl (by omega) hL dl_912 dl_913 1 (by decide) dl_915 dl_916 dl_917 ?_
  refine lr_arg (pc := 918) (i := i) (j := 2) C 3 rfl (by omega) hL dl_918 dl_919 2 (by decide) dl_921 dl_922 dl_923 ?_
  refine lr_arg (pc := 924) (i := i) (j := 3) C 3 rfl (by omega) hL dl_924 dl_925 3 (by decide) dl_927 dl_928 dl_929 ?_
  refine lr_bool (pc := 930) C dl_930 dl_933 dl_934 dl_937 ?_
  refine lr_aload_n (pc := 938) C 2 dl_938 rfl rfl ?_
  refine lr_callW (pc := 939) (hh := hL_source) (M' := mL_source) (y := yL_source) (ix := 169) (t := kti [3] tag) (σ2 := (if tag = 0 then su σ1 154 0 v else σ1)) (st := []) [.ref 0, .int (xs (i + 1)), .int (xs (i + 2)), .int (kb (decide (xs (i + 3) ≠ 0))), .ref 154] C (tL_source l hst (xs (i + 1)) (xs (i + 2)) (kb (decide (xs (i + 3) ≠ 0))) σ tag v σ1 e1 ht) dl_939 rfl rfl kw_L_source lk_L_169 (by decide) (Nat.zero_le _) (show k + 1 ≤ 601024 ∧ n + 6 ≤ 7293034 by omega) ?_
  refine lr_istore (pc := 942) C ((5, .int (kti [3] tag)) :: lo4 i) dl_942 (by decide) (by decide) rfl ?_
  refine lr_aload_n (pc := 944) C 2 dl_944 rfl rfl ?_
  refine lr_arg (pc := 945) (i := i) (j := 1) C 4 rfl (by omega) hL dl_945 dl_946 1 (by decide) dl_948 dl_949 dl_950 ?_
  refine lr_arg (pc := 951) (i := i) (j := 2) C 4 rfl (by omega) hL dl_951 dl_952 2 (by decide) dl_954 dl_955 dl_956 ?_
  refine lr_arg (pc := 957) (i := i) (j := 3) C 4 rfl (by omega) hL dl_957 dl_958 3 (by decide) dl_960 dl_961 dl_962 ?_
  refine lr_bool (pc := 963) C dl_963 dl_966 dl_967 dl_970 ?_
  refine lr_callV (pc := 971) (q := 133) (ci := 7) (o1 := (0, .int w, σ2)) (M' := mX7_source) (y := yX7_source) (ix := 172) (st := []) [.int (xs (i + 1)), .int (xs (i + 2)), .int (kb (decide (xs (i + 3) ≠ 0)))] C (tX7_source l hst (xs (i + 1)) (xs (i + 2)) (kb (decide (xs (i + 3) ≠ 0))) _ (w, σ2) e2) rfl dl_971 rfl ks_133 (show vwCl[7]? = some _ from rfl) yw_X7_source lk_L_172 (by decide) (Nat.zero_le _) (show k + 1 + 0 ≤ 601024 ∧ n + 6 + 0 ≤ 7293034 by omega) ?_
  refine lr_istore (pc := 974) C ((6, .int w) :: (5, .int (kti [3] tag)) :: lo4 i) dl_974 (by decide) (by decide) rfl ?_
  exact lr_tail (pc := 976) (i := i) hst C hk1 hv (show k + 1 + 0 ≤ 601024 ∧ n + 6 + 0 ≤ 7293034 by omega) dl_976 dl_977 dl_980 dl_982 dl_987 dl_989 dl_992 dl_993 dl_994 dl_995 dl_997 dl_998 dl_999 dl_1004 (by decide) (lr_widen (k + 4) (n + 24) (show k + 1 + 0 ≤ k + 4 by omega) (show n + 6 + 0 ≤ n + 24 by omega) (kk σ2 h4))
theorem dl_1007 : decode code 1007 = .ok (.aload_n 1, 1) := by decide +kernel
theorem dl_1008 : decode code 1008 = .ok (.aload_n 0, 1) := by decide +kernel
theorem dl_1009 : decode code 1009 = .ok (.iload 4, 2) := by decide +kernel
theorem dl_1011 : decode code 1011 = .ok (.iconst 1, 1) := by decide +kernel
theorem dl_1012 : decode code 1012 = .ok (.iadd, 1) := by decide +kernel
theorem dl_1013 : decode code 1013 = .ok (.iaload, 1) := by decide +kernel
theorem dl_1014 : decode code 1014 = .ok (.aload_n 0, 1) := by decide +kernel
theorem dl_1015 : decode code 1015 = .ok (.iload 4, 2) := by decide +kernel
theorem dl_1017 : decode code 1017 = .ok (.iconst 2, 1) := by decide +kernel
theorem dl_1018 : decode code 1018 = .ok (.iadd, 1) := by decide +kernel
theorem dl_1019 : decode code 1019 = .ok (.iaload, 1) := by decide +kernel
theorem dl_1020 : decode code 1020 = .ok (.aload_n 3, 1) := by decide +kernel
theorem dl_1021 : decode code 1021 = .ok (.invokestatic 173, 3) := by decide +kernel
theorem dl_1024 : decode code 1024 = .ok (.istore 5, 2) := by decide +kernel
theorem dl_1026 : decode code 1026 = .ok (.aload_n 2, 1) := by decide +kernel
theorem dl_1027 : decode code 1027 = .ok (.aload_n 0, 1) := by decide +kernel
theorem dl_1028 : decode code 1028 = .ok (.iload 4, 2) := by decide +kernel
theorem dl_1030 : decode code 1030 = .ok (.iconst 1, 1) := by decide +kernel
theorem dl_1031 : decode code 1031 = .ok (.iadd, 1) := by decide +kernel
theorem dl_1032 : decode code 1032 = .ok (.iaload, 1) := by decide +kernel
theorem dl_1033 : decode code 1033 = .ok (.aload_n 0, 1) := by decide +kernel
theorem dl_1034 : decode code 1034 = .ok (.iload 4, 2) := by decide +kernel
theorem dl_1036 : decode code 1036 = .ok (.iconst 2, 1) := by decide +kernel
theorem dl_1037 : decode code 1037 = .ok (.iadd, 1) := by decide +kernel
theorem dl_1038 : decode code 1038 = .ok (.iaload, 1) := by decide +kernel
theorem dl_1039 : decode code 1039 = .ok (.invokevirtual 175, 3) := by decide +kernel
theorem dl_1042 : decode code 1042 = .ok (.istore 6, 2) := by decide +kernel
theorem dl_1044 : decode code 1044 = .ok (.aload_n 2, 1) := by decide +kernel
theorem dl_1045 : decode code 1045 = .ok (.invokevirtual 125, 3) := by decide +kernel
theorem dl_1048 : decode code 1048 = .ok (.iload 5, 2) := by decide +kernel
theorem dl_1050 : decode code 1050 = .ok (.if_icmp .eq 5, 3) := by decide +kernel
theorem dl_1055 : decode code 1055 = .ok (.iload 5, 2) := by decide +kernel
theorem dl_1057 : decode code 1057 = .ok (.ifCond .ne 15, 3) := by decide +kernel
theorem dl_1060 : decode code 1060 = .ok (.aload_n 3, 1) := by decide +kernel
theorem dl_1061 : decode code 1061 = .ok (.iconst 0, 1) := by decide +kernel
theorem dl_1062 : decode code 1062 = .ok (.laload, 1) := by decide +kernel
theorem dl_1063 : decode code 1063 = .ok (.iload 6, 2) := by decide +kernel
theorem dl_1065 : decode code 1065 = .ok (.i2l, 1) := by decide +kernel
theorem dl_1066 : decode code 1066 = .ok (.lcmp, 1) := by decide +kernel
theorem dl_1067 : decode code 1067 = .ok (.ifCond .eq 5, 3) := by decide +kernel
theorem dl_1072 : decode code 1072 = .ok (.goto 1457, 3) := by decide +kernel
set_option maxRecDepth 100000 in
theorem lc_images (hst : l.stackTraces = false) (C : LCX l E p s m c b L xs) (hi : i + 5 < L) (hL : L ≤ 3072) (hk : k + 4 ≤ 601024 ∧ n + 24 ≤ 7293034) (hR : REL σ) (kk : ∀ σ2, REL σ2 → LW l E p e s m below meth c b Q (k + 4) (n + 24) 2529 (lo4 i) [] σ2) : LW l E p e s m below meth c b Q k n 1007 (lo4 i) [] σ := by
  obtain ⟨tag, v, σ1, e1, H1⟩ := q_images (xs (i + 1)) (xs (i + 2)) σ hR
  have ht : tag = 0 ∨ tag = 3 := by
    obtain ⟨w, σ2, -, h2, -⟩ := H1 σ1 (fun _ _ => rfl)
    exact (thr_k1 h2).2
  obtain ⟨w, σ2, e2, h2, h3, h4, h5⟩ := H1 _ (e54_w (σ1 := σ1) (tag := tag) (v := v))
  have hk1 : σ2 133 7 = kti [3] tag := (thr_k1 h2).1
  have hv : tag = 0 → σ2 154 0 = w := fun h => by
    rw [h5, if_pos h, su_s]
    exact h3 h
  refine lr_aload_n (pc := 1007) C 0 dl_1007 rfl rfl ?_
  refine lr_arg (pc := 1008) (i := i) (j := 1) C 3 rfl (by omega) hL dl_1008 dl_1009 1 (by decide) dl_1011 dl_1012 dl_1013 ?_
  refine lr_arg (pc := 1014) (i := i) (j := 2) C 3 rfl (by omega) hL dl_1014 dl_1015 2 (by decide) dl_1017 dl_1018 dl_1019 ?_
  refine lr_aload_n (pc := 1020) C 2 dl_1020 rfl rfl ?_
  refine lr_callW (pc := 1021) (hh := hL_images) (M' := mL_images) (y := yL_images) (ix := 173) (t := kti [3] tag) (σ2 := (if tag = 0 then su σ1 154 0 v else σ1)) (st := []) [.ref 0, .int (xs (i + 1)), .int (xs (i + 2)), .ref 154] C (tL_images l hst (xs (i + 1)) (xs (i + 2)) σ tag v σ1 e1 ht) dl_1021 rfl rfl kw_L_images lk_L_173 (by decide) (Nat.zero_le _) (show k + 1 ≤ 601024 ∧ n + 6 ≤ 7293034 by omega) ?_
  refine lr_istore (pc := 1024) C ((5, .int (kti [3] tag)) :: lo4 i) dl_1024 (by decide) (by decide) rfl ?_
  refine lr_aload_n (pc := 1026) C 2 dl_1026 rfl rfl ?_
  refine lr_arg (pc := 1027) (i := i) (j := 1) C 4 rfl (by omega) hL dl_1027 dl_1028 1 (by decide) dl_1030 dl_1031 dl_1032 ?_
  refine lr_arg (pc := 1033) (i := i) (j := 2) C 4 rfl (by omega) hL dl_1033 dl_1034 2 (by decide) dl_1036 dl_1037 dl_1038 ?_
  refine lr_callV (pc := 1039) (q := 133) (ci := 7) (o1 := (0, .int w, σ2)) (M' := mX7_images) (y := yX7_images) (ix := 175) (st := []) [.int (xs (i + 1)), .int (xs (i + 2))] C (tX7_images l hst (xs (i + 1)) (xs (i + 2)) _ (w, σ2) e2) rfl dl_1039 rfl ks_133 (show vwCl[7]? = some _ from rfl) yw_X7_images lk_L_175 (by decide) (Nat.zero_le _) (show k + 1 + 0 ≤ 601024 ∧ n + 6 + 0 ≤ 7293034 by omega) ?_
  refine lr_istore (pc := 1042) C ((6, .int w) :: (5, .int (kti [3] tag)) :: lo4 i) dl_1042 (by decide) (by decide) rfl ?_
  exact lr_tail (pc := 1044) (i := i) hst C hk1 hv (show k + 1 + 0 ≤ 601024 ∧ n + 6 + 0 ≤ 7293034 by omega) dl_1044 dl_1045 dl_1048 dl_1050 dl_1055 dl_1057 dl_1060 dl_1061 dl_1062 dl_1063 dl_1065 dl_1066 dl_1067 dl_1072 (by decide) (lr_widen (k + 4) (n + 24) (show k + 1 + 0 ≤ k + 4 by omega) (show n + 6 + 0 ≤ n + 24 by omega) (kk σ2 h4))
theorem dl_1075 : decode code 1075 = .ok (.aload_n 1, 1) := by decide +kernel
theorem dl_1076 : decode code 1076 = .ok (.aload_n 0, 1) := by decide +kernel
theorem dl_1077 : decode code 1077 = .ok (.iload 4, 2) := by decide +kernel
theorem dl_1079 : decode code 1079 = .ok (.iconst 1, 1) := by decide +kernel
theorem dl_1080 : decode code 1080 = .ok (.iadd, 1) := by decide +kernel
theorem dl_1081 : decode code 1081 = .ok (.iaload, 1) := by decide +kernel
theorem dl_1082 : decode code 1082 = .ok (.aload_n 3, 1) := by decide +kernel
theorem dl_1083 : decode code 1083 = .ok (.invokestatic 176, 3) := by decide +kernel
theorem dl_1086 : decode code 1086 = .ok (.istore 5, 2) := by decide +kernel
theorem dl_1088 : decode code 1088 = .ok (.aload_n 2, 1) := by decide +kernel
theorem dl_1089 : decode code 1089 = .ok (.aload_n 0, 1) := by decide +kernel
theorem dl_1090 : decode code 1090 = .ok (.iload 4, 2) := by decide +kernel
theorem dl_1092 : decode code 1092 = .ok (.iconst 1, 1) := by decide +kernel
theorem dl_1093 : decode code 1093 = .ok (.iadd, 1) := by decide +kernel
theorem dl_1094 : decode code 1094 = .ok (.iaload, 1) := by decide +kernel
theorem dl_1095 : decode code 1095 = .ok (.invokevirtual 178, 3) := by decide +kernel
theorem dl_1098 : decode code 1098 = .ok (.istore 6, 2) := by decide +kernel
theorem dl_1100 : decode code 1100 = .ok (.aload_n 2, 1) := by decide +kernel
theorem dl_1101 : decode code 1101 = .ok (.invokevirtual 125, 3) := by decide +kernel
theorem dl_1104 : decode code 1104 = .ok (.iload 5, 2) := by decide +kernel
theorem dl_1106 : decode code 1106 = .ok (.if_icmp .eq 5, 3) := by decide +kernel
theorem dl_1111 : decode code 1111 = .ok (.iload 5, 2) := by decide +kernel
theorem dl_1113 : decode code 1113 = .ok (.ifCond .ne 15, 3) := by decide +kernel
theorem dl_1116 : decode code 1116 = .ok (.aload_n 3, 1) := by decide +kernel
theorem dl_1117 : decode code 1117 = .ok (.iconst 0, 1) := by decide +kernel
theorem dl_1118 : decode code 1118 = .ok (.laload, 1) := by decide +kernel
theorem dl_1119 : decode code 1119 = .ok (.iload 6, 2) := by decide +kernel
theorem dl_1121 : decode code 1121 = .ok (.i2l, 1) := by decide +kernel
theorem dl_1122 : decode code 1122 = .ok (.lcmp, 1) := by decide +kernel
theorem dl_1123 : decode code 1123 = .ok (.ifCond .eq 5, 3) := by decide +kernel
theorem dl_1128 : decode code 1128 = .ok (.goto 1401, 3) := by decide +kernel
set_option maxRecDepth 100000 in
theorem lc_cellsOf (hst : l.stackTraces = false) (C : LCX l E p s m c b L xs) (hi : i + 5 < L) (hL : L ≤ 3072) (hk : k + 4 ≤ 601024 ∧ n + 24 ≤ 7293034) (hR : REL σ) (kk : ∀ σ2, REL σ2 → LW l E p e s m below meth c b Q (k + 4) (n + 24) 2529 (lo4 i) [] σ2) : LW l E p e s m below meth c b Q k n 1075 (lo4 i) [] σ := by
  obtain ⟨tag, v, σ1, e1, H1⟩ := q_cellsOf (xs (i + 1)) σ hR
  have ht : tag = 0 ∨ tag = 1 := by
    obtain ⟨w, σ2, -, h2, -⟩ := H1 σ1 (fun _ _ => rfl)
    exact (thr_k1 h2).2
  obtain ⟨w, σ2, e2, h2, h3, h4, h5⟩ := H1 _ (e54_w (σ1 := σ1) (tag := tag) (v := v))
  have hk1 : σ2 133 7 = kti [1] tag := (thr_k1 h2).1
  have hv : tag = 0 → σ2 154 0 = w := fun h => by
    rw [h5, if_pos h, su_s]
    exact h3 h
  refine lr_aload_n (pc := 1075) C 0 dl_1075 rfl rfl ?_
  refine lr_arg (pc := 1076) (i := i) (j := 1) C 3 rfl (by omega) hL dl_1076 dl_1077 1 (by decide) dl_1079 dl_1080 dl_1081 ?_
  refine lr_aload_n (pc := 1082) C 2 dl_1082 rfl rfl ?_
  refine lr_callW (pc := 1083) (hh := hL_cellsOf) (M' := mL_cellsOf) (y := yL_cellsOf) (ix := 176) (t := kti [1] tag) (σ2 := (if tag = 0 then su σ1 154 0 v else σ1)) (st := []) [.ref 0, .int (xs (i + 1)), .ref 154] C (tL_cellsOf l hst (xs (i + 1)) σ tag v σ1 e1 ht) dl_1083 rfl rfl kw_L_cellsOf lk_L_176 (by decide) (Nat.zero_le _) (show k + 1 ≤ 601024 ∧ n + 6 ≤ 7293034 by omega) ?_
  refine lr_istore (pc := 1086) C ((5, .int (kti [1] tag)) :: lo4 i) dl_1086 (by decide) (by decide) rfl ?_
  refine lr_aload_n (pc := 1088) C 2 dl_1088 rfl rfl ?_
  refine lr_arg (pc := 1089) (i := i) (j := 1) C 4 rfl (by omega) hL dl_1089 dl_1090 1 (by decide) dl_1092 dl_1093 dl_1094 ?_
  refine lr_callV (pc := 1095) (q := 133) (ci := 7) (o1 := (0, .int w, σ2)) (M' := mX7_cellsOf) (y := yX7_cellsOf) (ix := 178) (st := []) [.int (xs (i + 1))] C (tX7_cellsOf l hst (xs (i + 1)) _ (w, σ2) e2) rfl dl_1095 rfl ks_133 (show vwCl[7]? = some _ from rfl) yw_X7_cellsOf lk_L_178 (by decide) (Nat.zero_le _) (show k + 1 + 0 ≤ 601024 ∧ n + 6 + 0 ≤ 7293034 by omega) ?_
  refine lr_istore (pc := 1098) C ((6, .int w) :: (5, .int (kti [1] tag)) :: lo4 i) dl_1098 (by decide) (by decide) rfl ?_
  exact lr_tail (pc := 1100) (i := i) hst C hk1 hv (show k + 1 + 0 ≤ 601024 ∧ n + 6 + 0 ≤ 7293034 by omega) dl_1100 dl_1101 dl_1104 dl_1106 dl_1111 dl_1113 dl_1116 dl_1117 dl_1118 dl_1119 dl_1121 dl_1122 dl_1123 dl_1128 (by decide) (lr_widen (k + 4) (n + 24) (show k + 1 + 0 ≤ k + 4 by omega) (show n + 6 + 0 ≤ n + 24 by omega) (kk σ2 h4))
theorem dl_1131 : decode code 1131 = .ok (.aload_n 1, 1) := by decide +kernel
theorem dl_1132 : decode code 1132 = .ok (.aload_n 0, 1) := by decide +kernel
theorem dl_1133 : decode code 1133 = .ok (.iload 4, 2) := by decide +kernel
theorem dl_1135 : decode code 1135 = .ok (.iconst 1, 1) := by decide +kernel
theorem dl_1136 : decode code 1136 = .ok (.iadd, 1) := by decide +kernel
theorem dl_1137 : decode code 1137 = .ok (.iaload, 1) := by decide +kernel
theorem dl_1138 : decode code 1138 = .ok (.aload_n 3, 1) := by decide +kernel
theorem dl_1139 : decode code 1139 = .ok (.invokestatic 179, 3) := by decide +kernel
theorem dl_1142 : decode code 1142 = .ok (.istore 5, 2) := by decide +kernel
theorem dl_1144 : decode code 1144 = .ok (.aload_n 2, 1) := by decide +kernel
theorem dl_1145 : decode code 1145 = .ok (.aload_n 0, 1) := by decide +kernel
theorem dl_1146 : decode code 1146 = .ok (.iload 4, 2) := by decide +kernel
theorem dl_1148 : decode code 1148 = .ok (.iconst 1, 1) := by decide +kernel
theorem dl_1149 : decode code 1149 = .ok (.iadd, 1) := by decide +kernel
theorem dl_1150 : decode code 1150 = .ok (.iaload, 1) := by decide +kernel
theorem dl_1151 : decode code 1151 = .ok (.invokevirtual 181, 3) := by decide +kernel
theorem dl_1154 : decode code 1154 = .ok (.istore 6, 2) := by decide +kernel
theorem dl_1156 : decode code 1156 = .ok (.aload_n 2, 1) := by decide +kernel
theorem dl_1157 : decode code 1157 = .ok (.invokevirtual 125, 3) := by decide +kernel
theorem dl_1160 : decode code 1160 = .ok (.iload 5, 2) := by decide +kernel
theorem dl_1162 : decode code 1162 = .ok (.if_icmp .eq 5, 3) := by decide +kernel
theorem dl_1167 : decode code 1167 = .ok (.iload 5, 2) := by decide +kernel
theorem dl_1169 : decode code 1169 = .ok (.ifCond .ne 15, 3) := by decide +kernel
theorem dl_1172 : decode code 1172 = .ok (.aload_n 3, 1) := by decide +kernel
theorem dl_1173 : decode code 1173 = .ok (.iconst 0, 1) := by decide +kernel
theorem dl_1174 : decode code 1174 = .ok (.laload, 1) := by decide +kernel
theorem dl_1175 : decode code 1175 = .ok (.iload 6, 2) := by decide +kernel
theorem dl_1177 : decode code 1177 = .ok (.i2l, 1) := by decide +kernel
theorem dl_1178 : decode code 1178 = .ok (.lcmp, 1) := by decide +kernel
theorem dl_1179 : decode code 1179 = .ok (.ifCond .eq 5, 3) := by decide +kernel
theorem dl_1184 : decode code 1184 = .ok (.goto 1345, 3) := by decide +kernel
set_option maxRecDepth 100000 in
theorem lc_commonest (hst : l.stackTraces = false) (C : LCX l E p s m c b L xs) (hi : i + 5 < L) (hL : L ≤ 3072) (hk : k + 4 ≤ 601024 ∧ n + 24 ≤ 7293034) (hR : REL σ) (kk : ∀ σ2, REL σ2 → LW l E p e s m below meth c b Q (k + 4) (n + 24) 2529 (lo4 i) [] σ2) : LW l E p e s m below meth c b Q k n 1131 (lo4 i) [] σ := by
  obtain ⟨tag, v, σ1, e1, H1⟩ := q_commonest (xs (i + 1)) σ hR
  have ht : tag = 0 ∨ tag = 1 := by
    obtain ⟨w, σ2, -, h2, -⟩ := H1 σ1 (fun _ _ => rfl)
    exact (thr_k1 h2).2
  obtain ⟨w, σ2, e2, h2, h3, h4, h5⟩ := H1 _ (e54_w (σ1 := σ1) (tag := tag) (v := v))
  have hk1 : σ2 133 7 = kti [1] tag := (thr_k1 h2).1
  have hv : tag = 0 → σ2 154 0 = w := fun h => by
    rw [h5, if_pos h, su_s]
    exact h3 h
  refine lr_aload_n (pc := 1131) C 0 dl_1131 rfl rfl ?_
  refine lr_arg (pc := 1132) (i := i) (j := 1) C 3 rfl (by omega) hL dl_1132 dl_1133 1 (by decide) dl_1135 dl_1136 dl_1137 ?_
  refine lr_aload_n (pc := 1138) C 2 dl_1138 rfl rfl ?_
  refine lr_callW (pc := 1139) (hh := hL_commonest) (M' := mL_commonest) (y := yL_commonest) (ix := 179) (t := kti [1] tag) (σ2 := (if tag = 0 then su σ1 154 0 v else σ1)) (st := []) [.ref 0, .int (xs (i + 1)), .ref 154] C (tL_commonest l hst (xs (i + 1)) σ tag v σ1 e1 ht) dl_1139 rfl rfl kw_L_commonest lk_L_179 (by decide) (Nat.zero_le _) (show k + 1 ≤ 601024 ∧ n + 6 ≤ 7293034 by omega) ?_
  refine lr_istore (pc := 1142) C ((5, .int (kti [1] tag)) :: lo4 i) dl_1142 (by decide) (by decide) rfl ?_
  refine lr_aload_n (pc := 1144) C 2 dl_1144 rfl rfl ?_
  refine lr_arg (pc := 1145) (i := i) (j := 1) C 4 rfl (by omega) hL dl_1145 dl_1146 1 (by decide) dl_1148 dl_1149 dl_1150 ?_
  refine lr_callV (pc := 1151) (q := 133) (ci := 7) (o1 := (0, .int w, σ2)) (M' := mX7_commonest) (y := yX7_commonest) (ix := 181) (st := []) [.int (xs (i + 1))] C (tX7_commonest l hst (xs (i + 1)) _ (w, σ2) e2) rfl dl_1151 rfl ks_133 (show vwCl[7]? = some _ from rfl) yw_X7_commonest lk_L_181 (by decide) (Nat.zero_le _) (show k + 1 + 0 ≤ 601024 ∧ n + 6 + 0 ≤ 7293034 by omega) ?_
  refine lr_istore (pc := 1154) C ((6, .int w) :: (5, .int (kti [1] tag)) :: lo4 i) dl_1154 (by decide) (by decide) rfl ?_
  exact lr_tail (pc := 1156) (i := i) hst C hk1 hv (show k + 1 + 0 ≤ 601024 ∧ n + 6 + 0 ≤ 7293034 by omega) dl_1156 dl_1157 dl_1160 dl_1162 dl_1167 dl_1169 dl_1172 dl_1173 dl_1174 dl_1175 dl_1177 dl_1178 dl_1179 dl_1184 (by decide) (lr_widen (k + 4) (n + 24) (show k + 1 + 0 ≤ k + 4 by omega) (show n + 6 + 0 ≤ n + 24 by omega) (kk σ2 h4))
theorem dl_1187 : decode code 1187 = .ok (.aload_n 1, 1) := by decide +kernel
theorem dl_1188 : decode code 1188 = .ok (.aload_n 0, 1) := by decide +kernel
theorem dl_1189 : decode code 1189 = .ok (.iload 4, 2) := by decide +kernel
theorem dl_1191 : decode code 1191 = .ok (.iconst 1, 1) := by decide +kernel
theorem dl_1192 : decode code 1192 = .ok (.iadd, 1) := by decide +kernel
theorem dl_1193 : decode code 1193 = .ok (.iaload, 1) := by decide +kernel
theorem dl_1194 : decode code 1194 = .ok (.aload_n 3, 1) := by decide +kernel
theorem dl_1195 : decode code 1195 = .ok (.invokestatic 182, 3) := by decide +kernel
theorem dl_1198 : decode code 1198 = .ok (.istore 5, 2) := by decide +kernel
theorem dl_1200 : decode code 1200 = .ok (.aload_n 2, 1) := by decide +kernel
theorem dl_1201 : decode code 1201 = .ok (.aload_n 0, 1) := by decide +kernel
theorem dl_1202 : decode code 1202 = .ok (.iload 4, 2) := by decide +kernel
theorem dl_1204 : decode code 1204 = .ok (.iconst 1, 1) := by decide +kernel
theorem dl_1205 : decode code 1205 = .ok (.iadd, 1) := by decide +kernel
theorem dl_1206 : decode code 1206 = .ok (.iaload, 1) := by decide +kernel
theorem dl_1207 : decode code 1207 = .ok (.invokevirtual 184, 3) := by decide +kernel
theorem dl_1210 : decode code 1210 = .ok (.istore 6, 2) := by decide +kernel
theorem dl_1212 : decode code 1212 = .ok (.aload_n 2, 1) := by decide +kernel
theorem dl_1213 : decode code 1213 = .ok (.invokevirtual 125, 3) := by decide +kernel
theorem dl_1216 : decode code 1216 = .ok (.iload 5, 2) := by decide +kernel
theorem dl_1218 : decode code 1218 = .ok (.if_icmp .eq 5, 3) := by decide +kernel
theorem dl_1223 : decode code 1223 = .ok (.iload 5, 2) := by decide +kernel
theorem dl_1225 : decode code 1225 = .ok (.ifCond .ne 15, 3) := by decide +kernel
theorem dl_1228 : decode code 1228 = .ok (.aload_n 3, 1) := by decide +kernel
theorem dl_1229 : decode code 1229 = .ok (.iconst 0, 1) := by decide +kernel
theorem dl_1230 : decode code 1230 = .ok (.laload, 1) := by decide +kernel
theorem dl_1231 : decode code 1231 = .ok (.iload 6, 2) := by decide +kernel
theorem dl_1233 : decode code 1233 = .ok (.i2l, 1) := by decide +kernel
theorem dl_1234 : decode code 1234 = .ok (.lcmp, 1) := by decide +kernel
theorem dl_1235 : decode code 1235 = .ok (.ifCond .eq 5, 3) := by decide +kernel
theorem dl_1240 : decode code 1240 = .ok (.goto 1289, 3) := by decide +kernel
set_option maxRecDepth 100000 in
theorem lc_regions (hst : l.stackTraces = false) (C : LCX l E p s m c b L xs) (hi : i + 5 < L) (hL : L ≤ 3072) (hk : k + 4 ≤ 601024 ∧ n + 24 ≤ 7293034) (hR : REL σ) (kk : ∀ σ2, REL σ2 → LW l E p e s m below meth c b Q (k + 4) (n + 24) 2529 (lo4 i) [] σ2) : LW l E p e s m below meth c b Q k n 1187 (lo4 i) [] σ := by
  obtain ⟨tag, v, σ1, e1, H1⟩ := q_regions (xs (i + 1)) σ hR
  have ht : tag = 0 ∨ tag = 1 := by
    obtain ⟨w, σ2, -, h2, -⟩ := H1 σ1 (fun _ _ => rfl)
    exact (thr_k1 h2).2
  obtain ⟨w, σ2, e2, h2, h3, h4, h5⟩ := H1 _ (e54_w (σ1 := σ1) (tag := tag) (v := v))
  have hk1 : σ2 133 7 = kti [1] tag := (thr_k1 h2).1
  have hv : tag = 0 → σ2 154 0 = w := fun h => by
    rw [h5, if_pos h, su_s]
    exact h3 h
  refine lr_aload_n (pc := 1187) C 0 dl_1187 rfl rfl ?_
  refine lr_arg (pc := 1188) (i := i) (j := 1) C 3 rfl (by omega) hL dl_1188 dl_1189 1 (by decide) dl_1191 dl_1192 dl_1193 ?_
  refine lr_aload_n (pc := 1194) C 2 dl_1194 rfl rfl ?_
  refine lr_callW (pc := 1195) (hh := hL_regions) (M' := mL_regions) (y := yL_regions) (ix := 182) (t := kti [1] tag) (σ2 := (if tag = 0 then su σ1 154 0 v else σ1)) (st := []) [.ref 0, .int (xs (i + 1)), .ref 154] C (tL_regions l hst (xs (i + 1)) σ tag v σ1 e1 ht) dl_1195 rfl rfl kw_L_regions lk_L_182 (by decide) (Nat.zero_le _) (show k + 1 ≤ 601024 ∧ n + 6 ≤ 7293034 by omega) ?_
  refine lr_istore (pc := 1198) C ((5, .int (kti [1] tag)) :: lo4 i) dl_1198 (by decide) (by decide) rfl ?_
  refine lr_aload_n (pc := 1200) C 2 dl_1200 rfl rfl ?_
  refine lr_arg (pc := 1201) (i := i) (j := 1) C 4 rfl (by omega) hL dl_1201 dl_1202 1 (by decide) dl_1204 dl_1205 dl_1206 ?_
  refine lr_callV (pc := 1207) (q := 133) (ci := 7) (o1 := (0, .int w, σ2)) (M' := mX7_regions) (y := yX7_regions) (ix := 184) (st := []) [.int (xs (i + 1))] C (tX7_regions l hst (xs (i + 1)) _ (w, σ2) e2) rfl dl_1207 rfl ks_133 (show vwCl[7]? = some _ from rfl) yw_X7_regions lk_L_184 (by decide) (Nat.zero_le _) (show k + 1 + 0 ≤ 601024 ∧ n + 6 + 0 ≤ 7293034 by omega) ?_
  refine lr_istore (pc := 1210) C ((6, .int w) :: (5, .int (kti [1] tag)) :: lo4 i) dl_1210 (by decide) (by decide) rfl ?_
  exact lr_tail (pc := 1212) (i := i) hst C hk1 hv (show k + 1 + 0 ≤ 601024 ∧ n + 6 + 0 ≤ 7293034 by omega) dl_1212 dl_1213 dl_1216 dl_1218 dl_1223 dl_1225 dl_1228 dl_1229 dl_1230 dl_1231 dl_1233 dl_1234 dl_1235 dl_1240 (by decide) (lr_widen (k + 4) (n + 24) (show k + 1 + 0 ≤ k + 4 by omega) (show n + 6 + 0 ≤ n + 24 by omega) (kk σ2 h4))
theorem dl_1243 : decode code 1243 = .ok (.aload_n 1, 1) := by decide +kernel
theorem dl_1244 : decode code 1244 = .ok (.aload_n 0, 1) := by decide +kernel
theorem dl_1245 : decode code 1245 = .ok (.iload 4, 2) := by decide +kernel
theorem dl_1247 : decode code 1247 = .ok (.iconst 1, 1) := by decide +kernel
theorem dl_1248 : decode code 1248 = .ok (.iadd, 1) := by decide +kernel
theorem dl_1249 : decode code 1249 = .ok (.iaload, 1) := by decide +kernel
theorem dl_1250 : decode code 1250 = .ok (.aload_n 0, 1) := by decide +kernel
theorem dl_1251 : decode code 1251 = .ok (.iload 4, 2) := by decide +kernel
theorem dl_1253 : decode code 1253 = .ok (.iconst 2, 1) := by decide +kernel
theorem dl_1254 : decode code 1254 = .ok (.iadd, 1) := by decide +kernel
theorem dl_1255 : decode code 1255 = .ok (.iaload, 1) := by decide +kernel
theorem dl_1256 : decode code 1256 = .ok (.aload_n 3, 1) := by decide +kernel
theorem dl_1257 : decode code 1257 = .ok (.invokestatic 185, 3) := by decide +kernel
theorem dl_1260 : decode code 1260 = .ok (.istore 5, 2) := by decide +kernel
theorem dl_1262 : decode code 1262 = .ok (.aload_n 2, 1) := by decide +kernel
theorem dl_1263 : decode code 1263 = .ok (.aload_n 0, 1) := by decide +kernel
theorem dl_1264 : decode code 1264 = .ok (.iload 4, 2) := by decide +kernel
theorem dl_1266 : decode code 1266 = .ok (.iconst 1, 1) := by decide +kernel
theorem dl_1267 : decode code 1267 = .ok (.iadd, 1) := by decide +kernel
theorem dl_1268 : decode code 1268 = .ok (.iaload, 1) := by decide +kernel
theorem dl_1269 : decode code 1269 = .ok (.aload_n 0, 1) := by decide +kernel
theorem dl_1270 : decode code 1270 = .ok (.iload 4, 2) := by decide +kernel
theorem dl_1272 : decode code 1272 = .ok (.iconst 2, 1) := by decide +kernel
theorem dl_1273 : decode code 1273 = .ok (.iadd, 1) := by decide +kernel
theorem dl_1274 : decode code 1274 = .ok (.iaload, 1) := by decide +kernel
theorem dl_1275 : decode code 1275 = .ok (.invokevirtual 187, 3) := by decide +kernel
theorem dl_1278 : decode code 1278 = .ok (.istore 6, 2) := by decide +kernel
theorem dl_1280 : decode code 1280 = .ok (.aload_n 2, 1) := by decide +kernel
theorem dl_1281 : decode code 1281 = .ok (.invokevirtual 125, 3) := by decide +kernel
theorem dl_1284 : decode code 1284 = .ok (.iload 5, 2) := by decide +kernel
theorem dl_1286 : decode code 1286 = .ok (.if_icmp .eq 5, 3) := by decide +kernel
theorem dl_1291 : decode code 1291 = .ok (.iload 5, 2) := by decide +kernel
theorem dl_1293 : decode code 1293 = .ok (.ifCond .ne 15, 3) := by decide +kernel
theorem dl_1296 : decode code 1296 = .ok (.aload_n 3, 1) := by decide +kernel
theorem dl_1297 : decode code 1297 = .ok (.iconst 0, 1) := by decide +kernel
theorem dl_1298 : decode code 1298 = .ok (.laload, 1) := by decide +kernel
theorem dl_1299 : decode code 1299 = .ok (.iload 6, 2) := by decide +kernel
theorem dl_1301 : decode code 1301 = .ok (.i2l, 1) := by decide +kernel
theorem dl_1302 : decode code 1302 = .ok (.lcmp, 1) := by decide +kernel
theorem dl_1303 : decode code 1303 = .ok (.ifCond .eq 5, 3) := by decide +kernel
theorem dl_1308 : decode code 1308 = .ok (.goto 1221, 3) := by decide +kernel
set_option maxRecDepth 100000 in
theorem lc_regionSize (hst : l.stackTraces = false) (C : LCX l E p s m c b L xs) (hi : i + 5 < L) (hL : L ≤ 3072) (hk : k + 4 ≤ 601024 ∧ n + 24 ≤ 7293034) (hR : REL σ) (kk : ∀ σ2, REL σ2 → LW l E p e s m below meth c b Q (k + 4) (n + 24) 2529 (lo4 i) [] σ2) : LW l E p e s m below meth c b Q k n 1243 (lo4 i) [] σ := by
  obtain ⟨tag, v, σ1, e1, H1⟩ := q_regionSize (xs (i + 1)) (xs (i + 2)) σ hR
  have ht : tag = 0 ∨ tag = 3 := by
    obtain ⟨w, σ2, -, h2, -⟩ := H1 σ1 (fun _ _ => rfl)
    exact (thr_k1 h2).2
  obtain ⟨w, σ2, e2, h2, h3, h4, h5⟩ := H1 _ (e54_w (σ1 := σ1) (tag := tag) (v := v))
  have hk1 : σ2 133 7 = kti [3] tag := (thr_k1 h2).1
  have hv : tag = 0 → σ2 154 0 = w := fun h => by
    rw [h5, if_pos h, su_s]
    exact h3 h
  refine lr_aload_n (pc := 1243) C 0 dl_1243 rfl rfl ?_
  refine lr_arg (pc := 1244) (i := i) (j := 1) C 3 rfl (by omega) hL dl_1244 dl_1245 1 (by decide) dl_1247 dl_1248 dl_1249 ?_
  refine lr_arg (pc := 1250) (i := i) (j := 2) C 3 rfl (by omega) hL dl_1250 dl_1251 2 (by decide) dl_1253 dl_1254 dl_1255 ?_
  refine lr_aload_n (pc := 1256) C 2 dl_1256 rfl rfl ?_
  refine lr_callW (pc := 1257) (hh := hL_regionSize) (M' := mL_regionSize) (y := yL_regionSize) (ix := 185) (t := kti [3] tag) (σ2 := (if tag = 0 then su σ1 154 0 v else σ1)) (st := []) [.ref 0, .int (xs (i + 1)), .int (xs (i + 2)), .ref 154] C (tL_regionSize l hst (xs (i + 1)) (xs (i + 2)) σ tag v σ1 e1 ht) dl_1257 rfl rfl kw_L_regionSize lk_L_185 (by decide) (Nat.zero_le _) (show k + 1 ≤ 601024 ∧ n + 6 ≤ 7293034 by omega) ?_
  refine lr_istore (pc := 1260) C ((5, .int (kti [3] tag)) :: lo4 i) dl_1260 (by decide) (by decide) rfl ?_
  refine lr_aload_n (pc := 1262) C 2 dl_1262 rfl rfl ?_
  refine lr_arg (pc := 1263) (i := i) (j := 1) C 4 rfl (by omega) hL dl_1263 dl_1264 1 (by decide) dl_1266 dl_1267 dl_1268 ?_
  refine lr_arg (pc := 1269) (i := i) (j := 2) C 4 rfl (by omega) hL dl_1269 dl_1270 2 (by decide) dl_1272 dl_1273 dl_1274 ?_
  refine lr_callV (pc := 1275) (q := 133) (ci := 7) (o1 := (0, .int w, σ2)) (M' := mX7_regionSize) (y := yX7_regionSize) (ix := 187) (st := []) [.int (xs (i + 1)), .int (xs (i + 2))] C (tX7_regionSize l hst (xs (i + 1)) (xs (i + 2)) _ (w, σ2) e2) rfl dl_1275 rfl ks_133 (show vwCl[7]? = some _ from rfl) yw_X7_regionSize lk_L_187 (by decide) (Nat.zero_le _) (show k + 1 + 0 ≤ 601024 ∧ n + 6 + 0 ≤ 7293034 by omega) ?_
  refine lr_istore (pc := 1278) C ((6, .int w) :: (5, .int (kti [3] tag)) :: lo4 i) dl_1278 (by decide) (by decide) rfl ?_
  exact lr_tail (pc := 1280) (i := i) hst C hk1 hv (show k + 1 + 0 ≤ 601024 ∧ n + 6 + 0 ≤ 7293034 by omega) dl_1280 dl_1281 dl_1284 dl_1286 dl_1291 dl_1293 dl_1296 dl_1297 dl_1298 dl_1299 dl_1301 dl_1302 dl_1303 dl_1308 (by decide) (lr_widen (k + 4) (n + 24) (show k + 1 + 0 ≤ k + 4 by omega) (show n + 6 + 0 ≤ n + 24 by omega) (kk σ2 h4))
theorem dl_1311 : decode code 1311 = .ok (.aload_n 1, 1) := by decide +kernel
theorem dl_1312 : decode code 1312 = .ok (.invokevirtual 188, 3) := by decide +kernel
theorem dl_1315 : decode code 1315 = .ok (.aload_n 2, 1) := by decide +kernel
theorem dl_1316 : decode code 1316 = .ok (.invokevirtual 191, 3) := by decide +kernel
theorem dl_1319 : decode code 1319 = .ok (.if_icmp .eq 1210, 3) := by decide +kernel
set_option maxRecDepth 100000 in
theorem lc_edges (hst : l.stackTraces = false) (C : LCX l E p s m c b L xs) (hi : i + 5 < L) (hL : L ≤ 3072) (hk : k + 4 ≤ 601024 ∧ n + 24 ≤ 7293034) (hR : REL σ) (kk : ∀ σ2, REL σ2 → LW l E p e s m below meth c b Q (k + 4) (n + 24) 2529 (lo4 i) [] σ2) : LW l E p e s m below meth c b Q k n 1311 (lo4 i) [] σ := by
  obtain ⟨tag, v, σ1, e1, H1⟩ := q_edges  σ hR
  obtain ⟨e0, ht⟩ := liS_inv e1
  obtain ⟨w, σ2, e2, h2, h3, h4, h5⟩ := H1 σ1 (fun _ _ => rfl)
  have hvw : v = w := h3 ht
  subst hvw
  refine lr_aload_n (pc := 1311) C 0 dl_1311 rfl rfl ?_
  refine lr_callV (pc := 1312) (q := 0) (ci := 6) (o1 := (0, .int v, σ1)) (M' := mX6_edges) (y := yX6_edges) (ix := 188) (st := []) [] C (tX6_edges l hst  σ (v, σ1) e0) rfl dl_1312 rfl ks_0 (show vwCl[6]? = some _ from rfl) yw_X6_edges lk_L_188 (by decide) (show _ ≤ 8 from Nat.le_of_ble_eq_true rfl) (show k + 0 ≤ 601024 ∧ n + 0 ≤ 7293034 by omega) ?_
  refine lr_aload_n (pc := 1315) C 1 dl_1315 rfl rfl ?_
  refine lr_callV (pc := 1316) (q := 133) (ci := 7) (o1 := (0, .int v, σ2)) (M' := mX7_edges) (y := yX7_edges) (ix := 191) (st := [.int v]) [] C (tX7_edges l hst  σ1 (v, σ2) e2) rfl dl_1316 rfl ks_133 (show vwCl[7]? = some _ from rfl) yw_X7_edges lk_L_191 (by decide) (show _ ≤ 8 from Nat.le_of_ble_eq_true rfl) (show k + 0 + 0 ≤ 601024 ∧ n + 0 + 0 ≤ 7293034 by omega) ?_
  refine lr_icmp_eq (pc := 1319) (tgt := 2529) C rfl dl_1319 (by decide) ?_
  exact lr_widen (k + 4) (n + 24) (show k + 0 + 0 ≤ k + 4 by omega) (show n + 0 + 0 ≤ n + 24 by omega) (kk σ2 h4)
end LC1
