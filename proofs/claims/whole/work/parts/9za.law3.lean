theorem dL_law_770 : decode code 770 = .ok (.aload_n 1, 1) := by decide +kernel
theorem dL_law_771 : decode code 771 = .ok (.aload_n 0, 1) := by decide +kernel
theorem dL_law_772 : decode code 772 = .ok (.iload 4, 2) := by decide +kernel
theorem dL_law_774 : decode code 774 = .ok (.iconst 1, 1) := by decide +kernel
theorem dL_law_775 : decode code 775 = .ok (.iadd, 1) := by decide +kernel
theorem dL_law_776 : decode code 776 = .ok (.iaload, 1) := by decide +kernel
theorem dL_law_777 : decode code 777 = .ok (.aload_n 0, 1) := by decide +kernel
theorem dL_law_778 : decode code 778 = .ok (.iload 4, 2) := by decide +kernel
theorem dL_law_780 : decode code 780 = .ok (.iconst 2, 1) := by decide +kernel
theorem dL_law_781 : decode code 781 = .ok (.iadd, 1) := by decide +kernel
theorem dL_law_782 : decode code 782 = .ok (.iaload, 1) := by decide +kernel
theorem dL_law_783 : decode code 783 = .ok (.invokevirtual 98, 3) := by decide +kernel
theorem dL_law_786 : decode code 786 = .ok (.aload_n 2, 1) := by decide +kernel
theorem dL_law_787 : decode code 787 = .ok (.aload_n 0, 1) := by decide +kernel
theorem dL_law_788 : decode code 788 = .ok (.iload 4, 2) := by decide +kernel
theorem dL_law_790 : decode code 790 = .ok (.iconst 1, 1) := by decide +kernel
theorem dL_law_791 : decode code 791 = .ok (.iadd, 1) := by decide +kernel
theorem dL_law_792 : decode code 792 = .ok (.iaload, 1) := by decide +kernel
theorem dL_law_793 : decode code 793 = .ok (.aload_n 0, 1) := by decide +kernel
theorem dL_law_794 : decode code 794 = .ok (.iload 4, 2) := by decide +kernel
theorem dL_law_796 : decode code 796 = .ok (.iconst 2, 1) := by decide +kernel
theorem dL_law_797 : decode code 797 = .ok (.iadd, 1) := by decide +kernel
theorem dL_law_798 : decode code 798 = .ok (.iaload, 1) := by decide +kernel
theorem dL_law_799 : decode code 799 = .ok (.invokevirtual 101, 3) := by decide +kernel
theorem dL_law_802 : decode code 802 = .ok (.if_icmp .eq 926, 3) := by decide +kernel
theorem LC_16 {κ : Nat → Nat → List Value → List Value → m2M → Prop} {mx D L n i : Nat} {xs : Nat → Int32} {μ : m2M} (h : m2_LW κ mx (D + 1) L xs) (hn : n ≤ mx) (hi : i + 7 ≤ L) (hL : L ≤ 3584) (hD : 420 ≤ D) (hR : REL μ) (k : ∀ μ', REL μ' → κ n 1728 [.ref 1002, .ref kC, .ref kM, .ref kOut, .int (nI i), .null, .null, .null] [] μ') : κ n 770 [.ref 1002, .ref kC, .ref kM, .ref kOut, .int (nI i), .null, .null, .null] [] μ := by
  have hB := h.b hn
  refine m2_aload_n hB dL_law_770 rfl ?_
  refine m2_aload_n hB dL_law_771 rfl ?_
  refine m2_iload hB dL_law_772 rfl ?_
  refine m2_iconst hB dL_law_774 (v := 1) (by decide) ?_
  refine m2_iadd hB dL_law_775 ?_
  refine h.ld (lw_in hi hL (show 1 < 7 by decide)) dL_law_776 ?_
  refine m2_aload_n hB dL_law_777 rfl ?_
  refine m2_iload hB dL_law_778 rfl ?_
  refine m2_iconst hB dL_law_780 (v := 2) (by decide) ?_
  refine m2_iadd hB dL_law_781 ?_
  refine h.ld (lw_in hi hL (show 2 < 7 by decide)) dL_law_782 ?_
  refine m2_inv hB (as := [.int (xs (nI i + 1).toNatClampNeg), .int (xs (nI i + 2).toNatClampNeg)]) (st := []) dL_law_783 mv_L_98 rfl sh_kC rfl (by decide) rfl (T_many (by omega) μ hR _ _) (fun r μ1 hr hM => ?_)
  obtain ⟨y, rfl⟩ := hr
  refine m2_aload_n hB dL_law_786 rfl ?_
  refine m2_aload_n hB dL_law_787 rfl ?_
  refine m2_iload hB dL_law_788 rfl ?_
  refine m2_iconst hB dL_law_790 (v := 1) (by decide) ?_
  refine m2_iadd hB dL_law_791 ?_
  refine h.ld (lw_in hi hL (show 1 < 7 by decide)) dL_law_792 ?_
  refine m2_aload_n hB dL_law_793 rfl ?_
  refine m2_iload hB dL_law_794 rfl ?_
  refine m2_iconst hB dL_law_796 (v := 2) (by decide) ?_
  refine m2_iadd hB dL_law_797 ?_
  refine h.ld (lw_in hi hL (show 2 < 7 by decide)) dL_law_798 ?_
  refine m2_inv hB (as := [.int (xs (nI i + 1).toNatClampNeg), .int (xs (nI i + 2).toNatClampNeg)]) (st := [.int y]) dL_law_799 mv_L_101 rfl sh_kM rfl (ble rfl) rfl hM (fun r2 μ2 hr2 hq => ?_)
  obtain ⟨rfl, hR2⟩ := hq
  exact m2_icmp_eq hB dL_law_802 (tgt := 1728) (by decide) (fun _ => k μ2 hR2) (fun q => absurd rfl q)
theorem dL_law_807 : decode code 807 = .ok (.aload_n 1, 1) := by decide +kernel
theorem dL_law_808 : decode code 808 = .ok (.aload_n 0, 1) := by decide +kernel
theorem dL_law_809 : decode code 809 = .ok (.iload 4, 2) := by decide +kernel
theorem dL_law_811 : decode code 811 = .ok (.iconst 1, 1) := by decide +kernel
theorem dL_law_812 : decode code 812 = .ok (.iadd, 1) := by decide +kernel
theorem dL_law_813 : decode code 813 = .ok (.iaload, 1) := by decide +kernel
theorem dL_law_814 : decode code 814 = .ok (.aload_n 0, 1) := by decide +kernel
theorem dL_law_815 : decode code 815 = .ok (.iload 4, 2) := by decide +kernel
theorem dL_law_817 : decode code 817 = .ok (.iconst 2, 1) := by decide +kernel
theorem dL_law_818 : decode code 818 = .ok (.iadd, 1) := by decide +kernel
theorem dL_law_819 : decode code 819 = .ok (.iaload, 1) := by decide +kernel
theorem dL_law_820 : decode code 820 = .ok (.invokevirtual 102, 3) := by decide +kernel
theorem dL_law_823 : decode code 823 = .ok (.aload_n 2, 1) := by decide +kernel
theorem dL_law_824 : decode code 824 = .ok (.aload_n 0, 1) := by decide +kernel
theorem dL_law_825 : decode code 825 = .ok (.iload 4, 2) := by decide +kernel
theorem dL_law_827 : decode code 827 = .ok (.iconst 1, 1) := by decide +kernel
theorem dL_law_828 : decode code 828 = .ok (.iadd, 1) := by decide +kernel
theorem dL_law_829 : decode code 829 = .ok (.iaload, 1) := by decide +kernel
theorem dL_law_830 : decode code 830 = .ok (.aload_n 0, 1) := by decide +kernel
theorem dL_law_831 : decode code 831 = .ok (.iload 4, 2) := by decide +kernel
theorem dL_law_833 : decode code 833 = .ok (.iconst 2, 1) := by decide +kernel
theorem dL_law_834 : decode code 834 = .ok (.iadd, 1) := by decide +kernel
theorem dL_law_835 : decode code 835 = .ok (.iaload, 1) := by decide +kernel
theorem dL_law_836 : decode code 836 = .ok (.invokevirtual 105, 3) := by decide +kernel
theorem dL_law_839 : decode code 839 = .ok (.if_icmp .eq 889, 3) := by decide +kernel
theorem LC_17 {κ : Nat → Nat → List Value → List Value → m2M → Prop} {mx D L n i : Nat} {xs : Nat → Int32} {μ : m2M} (h : m2_LW κ mx (D + 1) L xs) (hn : n ≤ mx) (hi : i + 7 ≤ L) (hL : L ≤ 3584) (hD : 420 ≤ D) (hR : REL μ) (k : ∀ μ', REL μ' → κ n 1728 [.ref 1002, .ref kC, .ref kM, .ref kOut, .int (nI i), .null, .null, .null] [] μ') : κ n 807 [.ref 1002, .ref kC, .ref kM, .ref kOut, .int (nI i), .null, .null, .null] [] μ := by
  have hB := h.b hn
  refine m2_aload_n hB dL_law_807 rfl ?_
  refine m2_aload_n hB dL_law_808 rfl ?_
  refine m2_iload hB dL_law_809 rfl ?_
  refine m2_iconst hB dL_law_811 (v := 1) (by decide) ?_
  refine m2_iadd hB dL_law_812 ?_
  refine h.ld (lw_in hi hL (show 1 < 7 by decide)) dL_law_813 ?_
  refine m2_aload_n hB dL_law_814 rfl ?_
  refine m2_iload hB dL_law_815 rfl ?_
  refine m2_iconst hB dL_law_817 (v := 2) (by decide) ?_
  refine m2_iadd hB dL_law_818 ?_
  refine h.ld (lw_in hi hL (show 2 < 7 by decide)) dL_law_819 ?_
  refine m2_inv hB (as := [.int (xs (nI i + 1).toNatClampNeg), .int (xs (nI i + 2).toNatClampNeg)]) (st := []) dL_law_820 mv_L_102 rfl sh_kC rfl (by decide) rfl (T_bars (by omega) μ hR _ _) (fun r μ1 hr hM => ?_)
  obtain ⟨y, rfl⟩ := hr
  refine m2_aload_n hB dL_law_823 rfl ?_
  refine m2_aload_n hB dL_law_824 rfl ?_
  refine m2_iload hB dL_law_825 rfl ?_
  refine m2_iconst hB dL_law_827 (v := 1) (by decide) ?_
  refine m2_iadd hB dL_law_828 ?_
  refine h.ld (lw_in hi hL (show 1 < 7 by decide)) dL_law_829 ?_
  refine m2_aload_n hB dL_law_830 rfl ?_
  refine m2_iload hB dL_law_831 rfl ?_
  refine m2_iconst hB dL_law_833 (v := 2) (by decide) ?_
  refine m2_iadd hB dL_law_834 ?_
  refine h.ld (lw_in hi hL (show 2 < 7 by decide)) dL_law_835 ?_
  refine m2_inv hB (as := [.int (xs (nI i + 1).toNatClampNeg), .int (xs (nI i + 2).toNatClampNeg)]) (st := [.int y]) dL_law_836 mv_L_105 rfl sh_kM rfl (ble rfl) rfl hM (fun r2 μ2 hr2 hq => ?_)
  obtain ⟨rfl, hR2⟩ := hq
  exact m2_icmp_eq hB dL_law_839 (tgt := 1728) (by decide) (fun _ => k μ2 hR2) (fun q => absurd rfl q)
theorem dL_law_844 : decode code 844 = .ok (.aload_n 1, 1) := by decide +kernel
theorem dL_law_845 : decode code 845 = .ok (.aload_n 0, 1) := by decide +kernel
theorem dL_law_846 : decode code 846 = .ok (.iload 4, 2) := by decide +kernel
theorem dL_law_848 : decode code 848 = .ok (.iconst 1, 1) := by decide +kernel
theorem dL_law_849 : decode code 849 = .ok (.iadd, 1) := by decide +kernel
theorem dL_law_850 : decode code 850 = .ok (.iaload, 1) := by decide +kernel
theorem dL_law_851 : decode code 851 = .ok (.aload_n 0, 1) := by decide +kernel
theorem dL_law_852 : decode code 852 = .ok (.iload 4, 2) := by decide +kernel
theorem dL_law_854 : decode code 854 = .ok (.iconst 2, 1) := by decide +kernel
theorem dL_law_855 : decode code 855 = .ok (.iadd, 1) := by decide +kernel
theorem dL_law_856 : decode code 856 = .ok (.iaload, 1) := by decide +kernel
theorem dL_law_857 : decode code 857 = .ok (.aload_n 0, 1) := by decide +kernel
theorem dL_law_858 : decode code 858 = .ok (.iload 4, 2) := by decide +kernel
theorem dL_law_860 : decode code 860 = .ok (.iconst 3, 1) := by decide +kernel
theorem dL_law_861 : decode code 861 = .ok (.iadd, 1) := by decide +kernel
theorem dL_law_862 : decode code 862 = .ok (.iaload, 1) := by decide +kernel
theorem dL_law_863 : decode code 863 = .ok (.invokevirtual 106, 3) := by decide +kernel
theorem dL_law_866 : decode code 866 = .ok (.aload_n 2, 1) := by decide +kernel
theorem dL_law_867 : decode code 867 = .ok (.aload_n 0, 1) := by decide +kernel
theorem dL_law_868 : decode code 868 = .ok (.iload 4, 2) := by decide +kernel
theorem dL_law_870 : decode code 870 = .ok (.iconst 1, 1) := by decide +kernel
theorem dL_law_871 : decode code 871 = .ok (.iadd, 1) := by decide +kernel
theorem dL_law_872 : decode code 872 = .ok (.iaload, 1) := by decide +kernel
theorem dL_law_873 : decode code 873 = .ok (.aload_n 0, 1) := by decide +kernel
theorem dL_law_874 : decode code 874 = .ok (.iload 4, 2) := by decide +kernel
theorem dL_law_876 : decode code 876 = .ok (.iconst 2, 1) := by decide +kernel
theorem dL_law_877 : decode code 877 = .ok (.iadd, 1) := by decide +kernel
theorem dL_law_878 : decode code 878 = .ok (.iaload, 1) := by decide +kernel
theorem dL_law_879 : decode code 879 = .ok (.aload_n 0, 1) := by decide +kernel
theorem dL_law_880 : decode code 880 = .ok (.iload 4, 2) := by decide +kernel
theorem dL_law_882 : decode code 882 = .ok (.iconst 3, 1) := by decide +kernel
theorem dL_law_883 : decode code 883 = .ok (.iadd, 1) := by decide +kernel
theorem dL_law_884 : decode code 884 = .ok (.iaload, 1) := by decide +kernel
theorem dL_law_885 : decode code 885 = .ok (.invokevirtual 110, 3) := by decide +kernel
theorem dL_law_888 : decode code 888 = .ok (.if_icmp .eq 840, 3) := by decide +kernel
theorem LC_18 {κ : Nat → Nat → List Value → List Value → m2M → Prop} {mx D L n i : Nat} {xs : Nat → Int32} {μ : m2M} (h : m2_LW κ mx (D + 1) L xs) (hn : n ≤ mx) (hi : i + 7 ≤ L) (hL : L ≤ 3584) (hD : 420 ≤ D) (hR : REL μ) (k : ∀ μ', REL μ' → κ n 1728 [.ref 1002, .ref kC, .ref kM, .ref kOut, .int (nI i), .null, .null, .null] [] μ') : κ n 844 [.ref 1002, .ref kC, .ref kM, .ref kOut, .int (nI i), .null, .null, .null] [] μ := by
  have hB := h.b hn
  refine m2_aload_n hB dL_law_844 rfl ?_
  refine m2_aload_n hB dL_law_845 rfl ?_
  refine m2_iload hB dL_law_846 rfl ?_
  refine m2_iconst hB dL_law_848 (v := 1) (by decide) ?_
  refine m2_iadd hB dL_law_849 ?_
  refine h.ld (lw_in hi hL (show 1 < 7 by decide)) dL_law_850 ?_
  refine m2_aload_n hB dL_law_851 rfl ?_
  refine m2_iload hB dL_law_852 rfl ?_
  refine m2_iconst hB dL_law_854 (v := 2) (by decide) ?_
  refine m2_iadd hB dL_law_855 ?_
  refine h.ld (lw_in hi hL (show 2 < 7 by decide)) dL_law_856 ?_
  refine m2_aload_n hB dL_law_857 rfl ?_
  refine m2_iload hB dL_law_858 rfl ?_
  refine m2_iconst hB dL_law_860 (v := 3) (by decide) ?_
  refine m2_iadd hB dL_law_861 ?_
  refine h.ld (lw_in hi hL (show 3 < 7 by decide)) dL_law_862 ?_
  refine m2_inv hB (as := [.int (xs (nI i + 1).toNatClampNeg), .int (xs (nI i + 2).toNatClampNeg), .int (xs (nI i + 3).toNatClampNeg)]) (st := []) dL_law_863 mv_L_106 rfl sh_kC rfl (by decide) rfl (T_counts (by omega) μ hR _ _ _) (fun r μ1 hr hM => ?_)
  obtain ⟨y, rfl⟩ := hr
  refine m2_aload_n hB dL_law_866 rfl ?_
  refine m2_aload_n hB dL_law_867 rfl ?_
  refine m2_iload hB dL_law_868 rfl ?_
  refine m2_iconst hB dL_law_870 (v := 1) (by decide) ?_
  refine m2_iadd hB dL_law_871 ?_
  refine h.ld (lw_in hi hL (show 1 < 7 by decide)) dL_law_872 ?_
  refine m2_aload_n hB dL_law_873 rfl ?_
  refine m2_iload hB dL_law_874 rfl ?_
  refine m2_iconst hB dL_law_876 (v := 2) (by decide) ?_
  refine m2_iadd hB dL_law_877 ?_
  refine h.ld (lw_in hi hL (show 2 < 7 by decide)) dL_law_878 ?_
  refine m2_aload_n hB dL_law_879 rfl ?_
  refine m2_iload hB dL_law_880 rfl ?_
  refine m2_iconst hB dL_law_882 (v := 3) (by decide) ?_
  refine m2_iadd hB dL_law_883 ?_
  refine h.ld (lw_in hi hL (show 3 < 7 by decide)) dL_law_884 ?_
  refine m2_inv hB (as := [.int (xs (nI i + 1).toNatClampNeg), .int (xs (nI i + 2).toNatClampNeg), .int (xs (nI i + 3).toNatClampNeg)]) (st := [.int y]) dL_law_885 mv_L_110 rfl sh_kM rfl (ble rfl) rfl hM (fun r2 μ2 hr2 hq => ?_)
  obtain ⟨rfl, hR2⟩ := hq
  exact m2_icmp_eq hB dL_law_888 (tgt := 1728) (by decide) (fun _ => k μ2 hR2) (fun q => absurd rfl q)
theorem dL_law_893 : decode code 893 = .ok (.aload_n 1, 1) := by decide +kernel
theorem dL_law_894 : decode code 894 = .ok (.aload_n 0, 1) := by decide +kernel
theorem dL_law_895 : decode code 895 = .ok (.iload 4, 2) := by decide +kernel
theorem dL_law_897 : decode code 897 = .ok (.iconst 1, 1) := by decide +kernel
theorem dL_law_898 : decode code 898 = .ok (.iadd, 1) := by decide +kernel
theorem dL_law_899 : decode code 899 = .ok (.iaload, 1) := by decide +kernel
theorem dL_law_900 : decode code 900 = .ok (.invokevirtual 111, 3) := by decide +kernel
theorem dL_law_903 : decode code 903 = .ok (.aload_n 2, 1) := by decide +kernel
theorem dL_law_904 : decode code 904 = .ok (.aload_n 0, 1) := by decide +kernel
theorem dL_law_905 : decode code 905 = .ok (.iload 4, 2) := by decide +kernel
theorem dL_law_907 : decode code 907 = .ok (.iconst 1, 1) := by decide +kernel
theorem dL_law_908 : decode code 908 = .ok (.iadd, 1) := by decide +kernel
theorem dL_law_909 : decode code 909 = .ok (.iaload, 1) := by decide +kernel
theorem dL_law_910 : decode code 910 = .ok (.invokevirtual 114, 3) := by decide +kernel
theorem dL_law_913 : decode code 913 = .ok (.if_icmp .eq 815, 3) := by decide +kernel
theorem LC_19 {κ : Nat → Nat → List Value → List Value → m2M → Prop} {mx D L n i : Nat} {xs : Nat → Int32} {μ : m2M} (h : m2_LW κ mx (D + 1) L xs) (hn : n ≤ mx) (hi : i + 7 ≤ L) (hL : L ≤ 3584) (hD : 420 ≤ D) (hR : REL μ) (k : ∀ μ', REL μ' → κ n 1728 [.ref 1002, .ref kC, .ref kM, .ref kOut, .int (nI i), .null, .null, .null] [] μ') : κ n 893 [.ref 1002, .ref kC, .ref kM, .ref kOut, .int (nI i), .null, .null, .null] [] μ := by
  have hB := h.b hn
  refine m2_aload_n hB dL_law_893 rfl ?_
  refine m2_aload_n hB dL_law_894 rfl ?_
  refine m2_iload hB dL_law_895 rfl ?_
  refine m2_iconst hB dL_law_897 (v := 1) (by decide) ?_
  refine m2_iadd hB dL_law_898 ?_
  refine h.ld (lw_in hi hL (show 1 < 7 by decide)) dL_law_899 ?_
  refine m2_inv hB (as := [.int (xs (nI i + 1).toNatClampNeg)]) (st := []) dL_law_900 mv_L_111 rfl sh_kC rfl (by decide) rfl (T_more (by omega) μ hR _) (fun r μ1 hr hM => ?_)
  obtain ⟨y, rfl⟩ := hr
  refine m2_aload_n hB dL_law_903 rfl ?_
  refine m2_aload_n hB dL_law_904 rfl ?_
  refine m2_iload hB dL_law_905 rfl ?_
  refine m2_iconst hB dL_law_907 (v := 1) (by decide) ?_
  refine m2_iadd hB dL_law_908 ?_
  refine h.ld (lw_in hi hL (show 1 < 7 by decide)) dL_law_909 ?_
  refine m2_inv hB (as := [.int (xs (nI i + 1).toNatClampNeg)]) (st := [.int y]) dL_law_910 mv_L_114 rfl sh_kM rfl (ble rfl) rfl hM (fun r2 μ2 hr2 hq => ?_)
  obtain ⟨rfl, hR2⟩ := hq
  exact m2_icmp_eq hB dL_law_913 (tgt := 1728) (by decide) (fun _ => k μ2 hR2) (fun q => absurd rfl q)
theorem dL_law_918 : decode code 918 = .ok (.aload_n 1, 1) := by decide +kernel
theorem dL_law_919 : decode code 919 = .ok (.aload_n 0, 1) := by decide +kernel
theorem dL_law_920 : decode code 920 = .ok (.iload 4, 2) := by decide +kernel
theorem dL_law_922 : decode code 922 = .ok (.iconst 1, 1) := by decide +kernel
theorem dL_law_923 : decode code 923 = .ok (.iadd, 1) := by decide +kernel
theorem dL_law_924 : decode code 924 = .ok (.iaload, 1) := by decide +kernel
theorem dL_law_925 : decode code 925 = .ok (.aload_n 0, 1) := by decide +kernel
theorem dL_law_926 : decode code 926 = .ok (.iload 4, 2) := by decide +kernel
theorem dL_law_928 : decode code 928 = .ok (.iconst 2, 1) := by decide +kernel
theorem dL_law_929 : decode code 929 = .ok (.iadd, 1) := by decide +kernel
theorem dL_law_930 : decode code 930 = .ok (.iaload, 1) := by decide +kernel
theorem dL_law_931 : decode code 931 = .ok (.aload_n 0, 1) := by decide +kernel
theorem dL_law_932 : decode code 932 = .ok (.iload 4, 2) := by decide +kernel
theorem dL_law_934 : decode code 934 = .ok (.iconst 3, 1) := by decide +kernel
theorem dL_law_935 : decode code 935 = .ok (.iadd, 1) := by decide +kernel
theorem dL_law_936 : decode code 936 = .ok (.iaload, 1) := by decide +kernel
theorem dL_law_937 : decode code 937 = .ok (.aload_n 0, 1) := by decide +kernel
theorem dL_law_938 : decode code 938 = .ok (.iload 4, 2) := by decide +kernel
theorem dL_law_940 : decode code 940 = .ok (.iconst 4, 1) := by decide +kernel
theorem dL_law_941 : decode code 941 = .ok (.iadd, 1) := by decide +kernel
theorem dL_law_942 : decode code 942 = .ok (.iaload, 1) := by decide +kernel
theorem dL_law_943 : decode code 943 = .ok (.invokevirtual 115, 3) := by decide +kernel
theorem dL_law_946 : decode code 946 = .ok (.aload_n 2, 1) := by decide +kernel
theorem dL_law_947 : decode code 947 = .ok (.aload_n 0, 1) := by decide +kernel
theorem dL_law_948 : decode code 948 = .ok (.iload 4, 2) := by decide +kernel
theorem dL_law_950 : decode code 950 = .ok (.iconst 1, 1) := by decide +kernel
theorem dL_law_951 : decode code 951 = .ok (.iadd, 1) := by decide +kernel
theorem dL_law_952 : decode code 952 = .ok (.iaload, 1) := by decide +kernel
theorem dL_law_953 : decode code 953 = .ok (.aload_n 0, 1) := by decide +kernel
theorem dL_law_954 : decode code 954 = .ok (.iload 4, 2) := by decide +kernel
theorem dL_law_956 : decode code 956 = .ok (.iconst 2, 1) := by decide +kernel
theorem dL_law_957 : decode code 957 = .ok (.iadd, 1) := by decide +kernel
theorem dL_law_958 : decode code 958 = .ok (.iaload, 1) := by decide +kernel
theorem dL_law_959 : decode code 959 = .ok (.aload_n 0, 1) := by decide +kernel
theorem dL_law_960 : decode code 960 = .ok (.iload 4, 2) := by decide +kernel
theorem dL_law_962 : decode code 962 = .ok (.iconst 3, 1) := by decide +kernel
theorem dL_law_963 : decode code 963 = .ok (.iadd, 1) := by decide +kernel
theorem dL_law_964 : decode code 964 = .ok (.iaload, 1) := by decide +kernel
theorem dL_law_965 : decode code 965 = .ok (.aload_n 0, 1) := by decide +kernel
theorem dL_law_966 : decode code 966 = .ok (.iload 4, 2) := by decide +kernel
theorem dL_law_968 : decode code 968 = .ok (.iconst 4, 1) := by decide +kernel
theorem dL_law_969 : decode code 969 = .ok (.iadd, 1) := by decide +kernel
theorem dL_law_970 : decode code 970 = .ok (.iaload, 1) := by decide +kernel
theorem dL_law_971 : decode code 971 = .ok (.invokevirtual 118, 3) := by decide +kernel
theorem dL_law_974 : decode code 974 = .ok (.if_icmp .eq 754, 3) := by decide +kernel
theorem LC_20 {κ : Nat → Nat → List Value → List Value → m2M → Prop} {mx D L n i : Nat} {xs : Nat → Int32} {μ : m2M} (h : m2_LW κ mx (D + 1) L xs) (hn : n ≤ mx) (hi : i + 7 ≤ L) (hL : L ≤ 3584) (hD : 420 ≤ D) (hR : REL μ) (k : ∀ μ', REL μ' → κ n 1728 [.ref 1002, .ref kC, .ref kM, .ref kOut, .int (nI i), .null, .null, .null] [] μ') : κ n 918 [.ref 1002, .ref kC, .ref kM, .ref kOut, .int (nI i), .null, .null, .null] [] μ := by
  have hB := h.b hn
  refine m2_aload_n hB dL_law_918 rfl ?_
  refine m2_aload_n hB dL_law_919 rfl ?_
  refine m2_iload hB dL_law_920 rfl ?_
  refine m2_iconst hB dL_law_922 (v := 1) (by decide) ?_
  refine m2_iadd hB dL_law_923 ?_
  refine h.ld (lw_in hi hL (show 1 < 7 by decide)) dL_law_924 ?_
  refine m2_aload_n hB dL_law_925 rfl ?_
  refine m2_iload hB dL_law_926 rfl ?_
  refine m2_iconst hB dL_law_928 (v := 2) (by decide) ?_
  refine m2_iadd hB dL_law_929 ?_
  refine h.ld (lw_in hi hL (show 2 < 7 by decide)) dL_law_930 ?_
  refine m2_aload_n hB dL_law_931 rfl ?_
  refine m2_iload hB dL_law_932 rfl ?_
  refine m2_iconst hB dL_law_934 (v := 3) (by decide) ?_
  refine m2_iadd hB dL_law_935 ?_
  refine h.ld (lw_in hi hL (show 3 < 7 by decide)) dL_law_936 ?_
  refine m2_aload_n hB dL_law_937 rfl ?_
  refine m2_iload hB dL_law_938 rfl ?_
  refine m2_iconst hB dL_law_940 (v := 4) (by decide) ?_
  refine m2_iadd hB dL_law_941 ?_
  refine h.ld (lw_in hi hL (show 4 < 7 by decide)) dL_law_942 ?_
  refine m2_inv hB (as := [.int (xs (nI i + 1).toNatClampNeg), .int (xs (nI i + 2).toNatClampNeg), .int (xs (nI i + 3).toNatClampNeg), .int (xs (nI i + 4).toNatClampNeg)]) (st := []) dL_law_943 mv_L_115 rfl sh_kC rfl (by decide) rfl (T_build (by omega) μ hR _ _ _ _) (fun r μ1 hr hM => ?_)
  obtain ⟨y, rfl⟩ := hr
  refine m2_aload_n hB dL_law_946 rfl ?_
  refine m2_aload_n hB dL_law_947 rfl ?_
  refine m2_iload hB dL_law_948 rfl ?_
  refine m2_iconst hB dL_law_950 (v := 1) (by decide) ?_
  refine m2_iadd hB dL_law_951 ?_
  refine h.ld (lw_in hi hL (show 1 < 7 by decide)) dL_law_952 ?_
  refine m2_aload_n hB dL_law_953 rfl ?_
  refine m2_iload hB dL_law_954 rfl ?_
  refine m2_iconst hB dL_law_956 (v := 2) (by decide) ?_
  refine m2_iadd hB dL_law_957 ?_
  refine h.ld (lw_in hi hL (show 2 < 7 by decide)) dL_law_958 ?_
  refine m2_aload_n hB dL_law_959 rfl ?_
  refine m2_iload hB dL_law_960 rfl ?_
  refine m2_iconst hB dL_law_962 (v := 3) (by decide) ?_
  refine m2_iadd hB dL_law_963 ?_
  refine h.ld (lw_in hi hL (show 3 < 7 by decide)) dL_law_964 ?_
  refine m2_aload_n hB dL_law_965 rfl ?_
  refine m2_iload hB dL_law_966 rfl ?_
  refine m2_iconst hB dL_law_968 (v := 4) (by decide) ?_
  refine m2_iadd hB dL_law_969 ?_
  refine h.ld (lw_in hi hL (show 4 < 7 by decide)) dL_law_970 ?_
  refine m2_inv hB (as := [.int (xs (nI i + 1).toNatClampNeg), .int (xs (nI i + 2).toNatClampNeg), .int (xs (nI i + 3).toNatClampNeg), .int (xs (nI i + 4).toNatClampNeg)]) (st := [.int y]) dL_law_971 mv_L_118 rfl sh_kM rfl (ble rfl) rfl hM (fun r2 μ2 hr2 hq => ?_)
  obtain ⟨rfl, hR2⟩ := hq
  exact m2_icmp_eq hB dL_law_974 (tgt := 1728) (by decide) (fun _ => k μ2 hR2) (fun q => absurd rfl q)
theorem dL_law_979 : decode code 979 = .ok (.aload_n 1, 1) := by decide +kernel
theorem dL_law_980 : decode code 980 = .ok (.aload_n 0, 1) := by decide +kernel
theorem dL_law_981 : decode code 981 = .ok (.iload 4, 2) := by decide +kernel
theorem dL_law_983 : decode code 983 = .ok (.iconst 1, 1) := by decide +kernel
theorem dL_law_984 : decode code 984 = .ok (.iadd, 1) := by decide +kernel
theorem dL_law_985 : decode code 985 = .ok (.iaload, 1) := by decide +kernel
theorem dL_law_986 : decode code 986 = .ok (.aload_n 0, 1) := by decide +kernel
theorem dL_law_987 : decode code 987 = .ok (.iload 4, 2) := by decide +kernel
theorem dL_law_989 : decode code 989 = .ok (.iconst 2, 1) := by decide +kernel
theorem dL_law_990 : decode code 990 = .ok (.iadd, 1) := by decide +kernel
theorem dL_law_991 : decode code 991 = .ok (.iaload, 1) := by decide +kernel
theorem dL_law_992 : decode code 992 = .ok (.aload_n 0, 1) := by decide +kernel
theorem dL_law_993 : decode code 993 = .ok (.iload 4, 2) := by decide +kernel
theorem dL_law_995 : decode code 995 = .ok (.iconst 3, 1) := by decide +kernel
theorem dL_law_996 : decode code 996 = .ok (.iadd, 1) := by decide +kernel
theorem dL_law_997 : decode code 997 = .ok (.iaload, 1) := by decide +kernel
theorem dL_law_998 : decode code 998 = .ok (.invokevirtual 119, 3) := by decide +kernel
theorem dL_law_1001 : decode code 1001 = .ok (.aload_n 2, 1) := by decide +kernel
theorem dL_law_1002 : decode code 1002 = .ok (.aload_n 0, 1) := by decide +kernel
theorem dL_law_1003 : decode code 1003 = .ok (.iload 4, 2) := by decide +kernel
theorem dL_law_1005 : decode code 1005 = .ok (.iconst 1, 1) := by decide +kernel
theorem dL_law_1006 : decode code 1006 = .ok (.iadd, 1) := by decide +kernel
theorem dL_law_1007 : decode code 1007 = .ok (.iaload, 1) := by decide +kernel
theorem dL_law_1008 : decode code 1008 = .ok (.aload_n 0, 1) := by decide +kernel
theorem dL_law_1009 : decode code 1009 = .ok (.iload 4, 2) := by decide +kernel
theorem dL_law_1011 : decode code 1011 = .ok (.iconst 2, 1) := by decide +kernel
theorem dL_law_1012 : decode code 1012 = .ok (.iadd, 1) := by decide +kernel
theorem dL_law_1013 : decode code 1013 = .ok (.iaload, 1) := by decide +kernel
theorem dL_law_1014 : decode code 1014 = .ok (.aload_n 0, 1) := by decide +kernel
theorem dL_law_1015 : decode code 1015 = .ok (.iload 4, 2) := by decide +kernel
theorem dL_law_1017 : decode code 1017 = .ok (.iconst 3, 1) := by decide +kernel
theorem dL_law_1018 : decode code 1018 = .ok (.iadd, 1) := by decide +kernel
theorem dL_law_1019 : decode code 1019 = .ok (.iaload, 1) := by decide +kernel
theorem dL_law_1020 : decode code 1020 = .ok (.invokevirtual 122, 3) := by decide +kernel
theorem dL_law_1023 : decode code 1023 = .ok (.if_icmp .eq 705, 3) := by decide +kernel
theorem LC_21 {κ : Nat → Nat → List Value → List Value → m2M → Prop} {mx D L n i : Nat} {xs : Nat → Int32} {μ : m2M} (h : m2_LW κ mx (D + 1) L xs) (hn : n ≤ mx) (hi : i + 7 ≤ L) (hL : L ≤ 3584) (hD : 420 ≤ D) (hR : REL μ) (k : ∀ μ', REL μ' → κ n 1728 [.ref 1002, .ref kC, .ref kM, .ref kOut, .int (nI i), .null, .null, .null] [] μ') : κ n 979 [.ref 1002, .ref kC, .ref kM, .ref kOut, .int (nI i), .null, .null, .null] [] μ := by
  have hB := h.b hn
  refine m2_aload_n hB dL_law_979 rfl ?_
  refine m2_aload_n hB dL_law_980 rfl ?_
  refine m2_iload hB dL_law_981 rfl ?_
  refine m2_iconst hB dL_law_983 (v := 1) (by decide) ?_
  refine m2_iadd hB dL_law_984 ?_
  refine h.ld (lw_in hi hL (show 1 < 7 by decide)) dL_law_985 ?_
  refine m2_aload_n hB dL_law_986 rfl ?_
  refine m2_iload hB dL_law_987 rfl ?_
  refine m2_iconst hB dL_law_989 (v := 2) (by decide) ?_
  refine m2_iadd hB dL_law_990 ?_
  refine h.ld (lw_in hi hL (show 2 < 7 by decide)) dL_law_991 ?_
  refine m2_aload_n hB dL_law_992 rfl ?_
  refine m2_iload hB dL_law_993 rfl ?_
  refine m2_iconst hB dL_law_995 (v := 3) (by decide) ?_
  refine m2_iadd hB dL_law_996 ?_
  refine h.ld (lw_in hi hL (show 3 < 7 by decide)) dL_law_997 ?_
  refine m2_inv hB (as := [.int (xs (nI i + 1).toNatClampNeg), .int (xs (nI i + 2).toNatClampNeg), .int (xs (nI i + 3).toNatClampNeg)]) (st := []) dL_law_998 mv_L_119 rfl sh_kC rfl (by decide) rfl (T_never (by omega) μ hR _ _ _) (fun r μ1 hr hM => ?_)
  obtain ⟨y, rfl⟩ := hr
  refine m2_aload_n hB dL_law_1001 rfl ?_
  refine m2_aload_n hB dL_law_1002 rfl ?_
  refine m2_iload hB dL_law_1003 rfl ?_
  refine m2_iconst hB dL_law_1005 (v := 1) (by decide) ?_
  refine m2_iadd hB dL_law_1006 ?_
  refine h.ld (lw_in hi hL (show 1 < 7 by decide)) dL_law_1007 ?_
  refine m2_aload_n hB dL_law_1008 rfl ?_
  refine m2_iload hB dL_law_1009 rfl ?_
  refine m2_iconst hB dL_law_1011 (v := 2) (by decide) ?_
  refine m2_iadd hB dL_law_1012 ?_
  refine h.ld (lw_in hi hL (show 2 < 7 by decide)) dL_law_1013 ?_
  refine m2_aload_n hB dL_law_1014 rfl ?_
  refine m2_iload hB dL_law_1015 rfl ?_
  refine m2_iconst hB dL_law_1017 (v := 3) (by decide) ?_
  refine m2_iadd hB dL_law_1018 ?_
  refine h.ld (lw_in hi hL (show 3 < 7 by decide)) dL_law_1019 ?_
  refine m2_inv hB (as := [.int (xs (nI i + 1).toNatClampNeg), .int (xs (nI i + 2).toNatClampNeg), .int (xs (nI i + 3).toNatClampNeg)]) (st := [.int y]) dL_law_1020 mv_L_122 rfl sh_kM rfl (ble rfl) rfl hM (fun r2 μ2 hr2 hq => ?_)
  obtain ⟨rfl, hR2⟩ := hq
  exact m2_icmp_eq hB dL_law_1023 (tgt := 1728) (by decide) (fun _ => k μ2 hR2) (fun q => absurd rfl q)
theorem dL_law_1028 : decode code 1028 = .ok (.aload_n 1, 1) := by decide +kernel
theorem dL_law_1029 : decode code 1029 = .ok (.aload_n 0, 1) := by decide +kernel
theorem dL_law_1030 : decode code 1030 = .ok (.iload 4, 2) := by decide +kernel
theorem dL_law_1032 : decode code 1032 = .ok (.iconst 1, 1) := by decide +kernel
theorem dL_law_1033 : decode code 1033 = .ok (.iadd, 1) := by decide +kernel
theorem dL_law_1034 : decode code 1034 = .ok (.iaload, 1) := by decide +kernel
theorem dL_law_1035 : decode code 1035 = .ok (.invokevirtual 123, 3) := by decide +kernel
theorem dL_law_1038 : decode code 1038 = .ok (.aload_n 2, 1) := by decide +kernel
theorem dL_law_1039 : decode code 1039 = .ok (.aload_n 0, 1) := by decide +kernel
theorem dL_law_1040 : decode code 1040 = .ok (.iload 4, 2) := by decide +kernel
theorem dL_law_1042 : decode code 1042 = .ok (.iconst 1, 1) := by decide +kernel
theorem dL_law_1043 : decode code 1043 = .ok (.iadd, 1) := by decide +kernel
theorem dL_law_1044 : decode code 1044 = .ok (.iaload, 1) := by decide +kernel
theorem dL_law_1045 : decode code 1045 = .ok (.invokevirtual 126, 3) := by decide +kernel
theorem dL_law_1048 : decode code 1048 = .ok (.if_icmp .eq 680, 3) := by decide +kernel
theorem LC_22 {κ : Nat → Nat → List Value → List Value → m2M → Prop} {mx D L n i : Nat} {xs : Nat → Int32} {μ : m2M} (h : m2_LW κ mx (D + 1) L xs) (hn : n ≤ mx) (hi : i + 7 ≤ L) (hL : L ≤ 3584) (hD : 420 ≤ D) (hR : REL μ) (k : ∀ μ', REL μ' → κ n 1728 [.ref 1002, .ref kC, .ref kM, .ref kOut, .int (nI i), .null, .null, .null] [] μ') : κ n 1028 [.ref 1002, .ref kC, .ref kM, .ref kOut, .int (nI i), .null, .null, .null] [] μ := by
  have hB := h.b hn
  refine m2_aload_n hB dL_law_1028 rfl ?_
  refine m2_aload_n hB dL_law_1029 rfl ?_
  refine m2_iload hB dL_law_1030 rfl ?_
  refine m2_iconst hB dL_law_1032 (v := 1) (by decide) ?_
  refine m2_iadd hB dL_law_1033 ?_
  refine h.ld (lw_in hi hL (show 1 < 7 by decide)) dL_law_1034 ?_
  refine m2_inv hB (as := [.int (xs (nI i + 1).toNatClampNeg)]) (st := []) dL_law_1035 mv_L_123 rfl sh_kC rfl (by decide) rfl (T_home (by omega) μ hR _) (fun r μ1 hr hM => ?_)
  obtain ⟨y, rfl⟩ := hr
  refine m2_aload_n hB dL_law_1038 rfl ?_
  refine m2_aload_n hB dL_law_1039 rfl ?_
  refine m2_iload hB dL_law_1040 rfl ?_
  refine m2_iconst hB dL_law_1042 (v := 1) (by decide) ?_
  refine m2_iadd hB dL_law_1043 ?_
  refine h.ld (lw_in hi hL (show 1 < 7 by decide)) dL_law_1044 ?_
  refine m2_inv hB (as := [.int (xs (nI i + 1).toNatClampNeg)]) (st := [.int y]) dL_law_1045 mv_L_126 rfl sh_kM rfl (ble rfl) rfl hM (fun r2 μ2 hr2 hq => ?_)
  obtain ⟨rfl, hR2⟩ := hq
  exact m2_icmp_eq hB dL_law_1048 (tgt := 1728) (by decide) (fun _ => k μ2 hR2) (fun q => absurd rfl q)
theorem dL_law_1053 : decode code 1053 = .ok (.aload_n 1, 1) := by decide +kernel
theorem dL_law_1054 : decode code 1054 = .ok (.aload_n 0, 1) := by decide +kernel
theorem dL_law_1055 : decode code 1055 = .ok (.iload 4, 2) := by decide +kernel
theorem dL_law_1057 : decode code 1057 = .ok (.iconst 1, 1) := by decide +kernel
theorem dL_law_1058 : decode code 1058 = .ok (.iadd, 1) := by decide +kernel
theorem dL_law_1059 : decode code 1059 = .ok (.iaload, 1) := by decide +kernel
theorem dL_law_1060 : decode code 1060 = .ok (.invokevirtual 127, 3) := by decide +kernel
theorem dL_law_1063 : decode code 1063 = .ok (.aload_n 2, 1) := by decide +kernel
theorem dL_law_1064 : decode code 1064 = .ok (.aload_n 0, 1) := by decide +kernel
theorem dL_law_1065 : decode code 1065 = .ok (.iload 4, 2) := by decide +kernel
theorem dL_law_1067 : decode code 1067 = .ok (.iconst 1, 1) := by decide +kernel
theorem dL_law_1068 : decode code 1068 = .ok (.iadd, 1) := by decide +kernel
theorem dL_law_1069 : decode code 1069 = .ok (.iaload, 1) := by decide +kernel
theorem dL_law_1070 : decode code 1070 = .ok (.invokevirtual 130, 3) := by decide +kernel
theorem dL_law_1073 : decode code 1073 = .ok (.if_icmp .eq 655, 3) := by decide +kernel
theorem LC_23 {κ : Nat → Nat → List Value → List Value → m2M → Prop} {mx D L n i : Nat} {xs : Nat → Int32} {μ : m2M} (h : m2_LW κ mx (D + 1) L xs) (hn : n ≤ mx) (hi : i + 7 ≤ L) (hL : L ≤ 3584) (hD : 420 ≤ D) (hR : REL μ) (k : ∀ μ', REL μ' → κ n 1728 [.ref 1002, .ref kC, .ref kM, .ref kOut, .int (nI i), .null, .null, .null] [] μ') : κ n 1053 [.ref 1002, .ref kC, .ref kM, .ref kOut, .int (nI i), .null, .null, .null] [] μ := by
  have hB := h.b hn
  refine m2_aload_n hB dL_law_1053 rfl ?_
  refine m2_aload_n hB dL_law_1054 rfl ?_
  refine m2_iload hB dL_law_1055 rfl ?_
  refine m2_iconst hB dL_law_1057 (v := 1) (by decide) ?_
  refine m2_iadd hB dL_law_1058 ?_
  refine h.ld (lw_in hi hL (show 1 < 7 by decide)) dL_law_1059 ?_
  refine m2_inv hB (as := [.int (xs (nI i + 1).toNatClampNeg)]) (st := []) dL_law_1060 mv_L_127 rfl sh_kC rfl (by decide) rfl (T_fire (by omega) μ hR _) (fun r μ1 hr hM => ?_)
  obtain ⟨y, rfl⟩ := hr
  refine m2_aload_n hB dL_law_1063 rfl ?_
  refine m2_aload_n hB dL_law_1064 rfl ?_
  refine m2_iload hB dL_law_1065 rfl ?_
  refine m2_iconst hB dL_law_1067 (v := 1) (by decide) ?_
  refine m2_iadd hB dL_law_1068 ?_
  refine h.ld (lw_in hi hL (show 1 < 7 by decide)) dL_law_1069 ?_
  refine m2_inv hB (as := [.int (xs (nI i + 1).toNatClampNeg)]) (st := [.int y]) dL_law_1070 mv_L_130 rfl sh_kM rfl (ble rfl) rfl hM (fun r2 μ2 hr2 hq => ?_)
  obtain ⟨rfl, hR2⟩ := hq
  exact m2_icmp_eq hB dL_law_1073 (tgt := 1728) (by decide) (fun _ => k μ2 hR2) (fun q => absurd rfl q)
theorem dL_law_1078 : decode code 1078 = .ok (.aload_n 1, 1) := by decide +kernel
theorem dL_law_1079 : decode code 1079 = .ok (.aload_n 0, 1) := by decide +kernel
theorem dL_law_1080 : decode code 1080 = .ok (.iload 4, 2) := by decide +kernel
theorem dL_law_1082 : decode code 1082 = .ok (.iconst 1, 1) := by decide +kernel
theorem dL_law_1083 : decode code 1083 = .ok (.iadd, 1) := by decide +kernel
theorem dL_law_1084 : decode code 1084 = .ok (.iaload, 1) := by decide +kernel
theorem dL_law_1085 : decode code 1085 = .ok (.invokevirtual 131, 3) := by decide +kernel
theorem dL_law_1088 : decode code 1088 = .ok (.aload_n 2, 1) := by decide +kernel
theorem dL_law_1089 : decode code 1089 = .ok (.aload_n 0, 1) := by decide +kernel
theorem dL_law_1090 : decode code 1090 = .ok (.iload 4, 2) := by decide +kernel
theorem dL_law_1092 : decode code 1092 = .ok (.iconst 1, 1) := by decide +kernel
theorem dL_law_1093 : decode code 1093 = .ok (.iadd, 1) := by decide +kernel
theorem dL_law_1094 : decode code 1094 = .ok (.iaload, 1) := by decide +kernel
theorem dL_law_1095 : decode code 1095 = .ok (.invokevirtual 134, 3) := by decide +kernel
theorem dL_law_1098 : decode code 1098 = .ok (.if_icmp .eq 630, 3) := by decide +kernel
theorem LC_24 {κ : Nat → Nat → List Value → List Value → m2M → Prop} {mx D L n i : Nat} {xs : Nat → Int32} {μ : m2M} (h : m2_LW κ mx (D + 1) L xs) (hn : n ≤ mx) (hi : i + 7 ≤ L) (hL : L ≤ 3584) (hD : 420 ≤ D) (hR : REL μ) (k : ∀ μ', REL μ' → κ n 1728 [.ref 1002, .ref kC, .ref kM, .ref kOut, .int (nI i), .null, .null, .null] [] μ') : κ n 1078 [.ref 1002, .ref kC, .ref kM, .ref kOut, .int (nI i), .null, .null, .null] [] μ := by
  have hB := h.b hn
  refine m2_aload_n hB dL_law_1078 rfl ?_
  refine m2_aload_n hB dL_law_1079 rfl ?_
  refine m2_iload hB dL_law_1080 rfl ?_
  refine m2_iconst hB dL_law_1082 (v := 1) (by decide) ?_
  refine m2_iadd hB dL_law_1083 ?_
  refine h.ld (lw_in hi hL (show 1 < 7 by decide)) dL_law_1084 ?_
  refine m2_inv hB (as := [.int (xs (nI i + 1).toNatClampNeg)]) (st := []) dL_law_1085 mv_L_131 rfl sh_kC rfl (by decide) rfl (T_late (by omega) _ μ hR) (fun r μ1 hr hM => ?_)
  obtain ⟨y, rfl⟩ := hr
  refine m2_aload_n hB dL_law_1088 rfl ?_
  refine m2_aload_n hB dL_law_1089 rfl ?_
  refine m2_iload hB dL_law_1090 rfl ?_
  refine m2_iconst hB dL_law_1092 (v := 1) (by decide) ?_
  refine m2_iadd hB dL_law_1093 ?_
  refine h.ld (lw_in hi hL (show 1 < 7 by decide)) dL_law_1094 ?_
  refine m2_inv hB (as := [.int (xs (nI i + 1).toNatClampNeg)]) (st := [.int y]) dL_law_1095 mv_L_134 rfl sh_kM rfl (ble rfl) rfl hM (fun r2 μ2 hr2 hq => ?_)
  obtain ⟨rfl, hR2⟩ := hq
  exact m2_icmp_eq hB dL_law_1098 (tgt := 1728) (by decide) (fun _ => k μ2 hR2) (fun q => absurd rfl q)
theorem dL_law_1103 : decode code 1103 = .ok (.aload_n 1, 1) := by decide +kernel
theorem dL_law_1104 : decode code 1104 = .ok (.aload_n 0, 1) := by decide +kernel
theorem dL_law_1105 : decode code 1105 = .ok (.iload 4, 2) := by decide +kernel
theorem dL_law_1107 : decode code 1107 = .ok (.iconst 1, 1) := by decide +kernel
theorem dL_law_1108 : decode code 1108 = .ok (.iadd, 1) := by decide +kernel
theorem dL_law_1109 : decode code 1109 = .ok (.iaload, 1) := by decide +kernel
theorem dL_law_1110 : decode code 1110 = .ok (.invokevirtual 135, 3) := by decide +kernel
theorem dL_law_1113 : decode code 1113 = .ok (.aload_n 2, 1) := by decide +kernel
theorem dL_law_1114 : decode code 1114 = .ok (.aload_n 0, 1) := by decide +kernel
theorem dL_law_1115 : decode code 1115 = .ok (.iload 4, 2) := by decide +kernel
theorem dL_law_1117 : decode code 1117 = .ok (.iconst 1, 1) := by decide +kernel
theorem dL_law_1118 : decode code 1118 = .ok (.iadd, 1) := by decide +kernel
theorem dL_law_1119 : decode code 1119 = .ok (.iaload, 1) := by decide +kernel
theorem dL_law_1120 : decode code 1120 = .ok (.invokevirtual 138, 3) := by decide +kernel
theorem dL_law_1123 : decode code 1123 = .ok (.if_icmp .eq 605, 3) := by decide +kernel
theorem LC_25 {κ : Nat → Nat → List Value → List Value → m2M → Prop} {mx D L n i : Nat} {xs : Nat → Int32} {μ : m2M} (h : m2_LW κ mx (D + 1) L xs) (hn : n ≤ mx) (hi : i + 7 ≤ L) (hL : L ≤ 3584) (hD : 420 ≤ D) (hR : REL μ) (k : ∀ μ', REL μ' → κ n 1728 [.ref 1002, .ref kC, .ref kM, .ref kOut, .int (nI i), .null, .null, .null] [] μ') : κ n 1103 [.ref 1002, .ref kC, .ref kM, .ref kOut, .int (nI i), .null, .null, .null] [] μ := by
  have hB := h.b hn
  refine m2_aload_n hB dL_law_1103 rfl ?_
  refine m2_aload_n hB dL_law_1104 rfl ?_
  refine m2_iload hB dL_law_1105 rfl ?_
  refine m2_iconst hB dL_law_1107 (v := 1) (by decide) ?_
  refine m2_iadd hB dL_law_1108 ?_
  refine h.ld (lw_in hi hL (show 1 < 7 by decide)) dL_law_1109 ?_
  refine m2_inv hB (as := [.int (xs (nI i + 1).toNatClampNeg)]) (st := []) dL_law_1110 mv_L_135 rfl sh_kC rfl (by decide) rfl (T_day (by omega) _ μ hR) (fun r μ1 hr hM => ?_)
  obtain ⟨y, rfl⟩ := hr
  refine m2_aload_n hB dL_law_1113 rfl ?_
  refine m2_aload_n hB dL_law_1114 rfl ?_
  refine m2_iload hB dL_law_1115 rfl ?_
  refine m2_iconst hB dL_law_1117 (v := 1) (by decide) ?_
  refine m2_iadd hB dL_law_1118 ?_
  refine h.ld (lw_in hi hL (show 1 < 7 by decide)) dL_law_1119 ?_
  refine m2_inv hB (as := [.int (xs (nI i + 1).toNatClampNeg)]) (st := [.int y]) dL_law_1120 mv_L_138 rfl sh_kM rfl (ble rfl) rfl hM (fun r2 μ2 hr2 hq => ?_)
  obtain ⟨rfl, hR2⟩ := hq
  exact m2_icmp_eq hB dL_law_1123 (tgt := 1728) (by decide) (fun _ => k μ2 hR2) (fun q => absurd rfl q)
theorem dL_law_1128 : decode code 1128 = .ok (.aload_n 1, 1) := by decide +kernel
theorem dL_law_1129 : decode code 1129 = .ok (.aload_n 0, 1) := by decide +kernel
theorem dL_law_1130 : decode code 1130 = .ok (.iload 4, 2) := by decide +kernel
theorem dL_law_1132 : decode code 1132 = .ok (.iconst 1, 1) := by decide +kernel
theorem dL_law_1133 : decode code 1133 = .ok (.iadd, 1) := by decide +kernel
theorem dL_law_1134 : decode code 1134 = .ok (.iaload, 1) := by decide +kernel
theorem dL_law_1135 : decode code 1135 = .ok (.invokevirtual 139, 3) := by decide +kernel
theorem dL_law_1138 : decode code 1138 = .ok (.aload_n 2, 1) := by decide +kernel
theorem dL_law_1139 : decode code 1139 = .ok (.aload_n 0, 1) := by decide +kernel
theorem dL_law_1140 : decode code 1140 = .ok (.iload 4, 2) := by decide +kernel
theorem dL_law_1142 : decode code 1142 = .ok (.iconst 1, 1) := by decide +kernel
theorem dL_law_1143 : decode code 1143 = .ok (.iadd, 1) := by decide +kernel
theorem dL_law_1144 : decode code 1144 = .ok (.iaload, 1) := by decide +kernel
theorem dL_law_1145 : decode code 1145 = .ok (.invokevirtual 142, 3) := by decide +kernel
theorem dL_law_1148 : decode code 1148 = .ok (.if_icmp .eq 580, 3) := by decide +kernel
theorem LC_26 {κ : Nat → Nat → List Value → List Value → m2M → Prop} {mx D L n i : Nat} {xs : Nat → Int32} {μ : m2M} (h : m2_LW κ mx (D + 1) L xs) (hn : n ≤ mx) (hi : i + 7 ≤ L) (hL : L ≤ 3584) (hD : 420 ≤ D) (hR : REL μ) (k : ∀ μ', REL μ' → κ n 1728 [.ref 1002, .ref kC, .ref kM, .ref kOut, .int (nI i), .null, .null, .null] [] μ') : κ n 1128 [.ref 1002, .ref kC, .ref kM, .ref kOut, .int (nI i), .null, .null, .null] [] μ := by
  have hB := h.b hn
  refine m2_aload_n hB dL_law_1128 rfl ?_
  refine m2_aload_n hB dL_law_1129 rfl ?_
  refine m2_iload hB dL_law_1130 rfl ?_
  refine m2_iconst hB dL_law_1132 (v := 1) (by decide) ?_
  refine m2_iadd hB dL_law_1133 ?_
  refine h.ld (lw_in hi hL (show 1 < 7 by decide)) dL_law_1134 ?_
  refine m2_inv hB (as := [.int (xs (nI i + 1).toNatClampNeg)]) (st := []) dL_law_1135 mv_L_139 rfl sh_kC rfl (by decide) rfl (T_would (by omega) _ μ hR) (fun r μ1 hr hM => ?_)
  obtain ⟨y, rfl⟩ := hr
  refine m2_aload_n hB dL_law_1138 rfl ?_
  refine m2_aload_n hB dL_law_1139 rfl ?_
  refine m2_iload hB dL_law_1140 rfl ?_
  refine m2_iconst hB dL_law_1142 (v := 1) (by decide) ?_
  refine m2_iadd hB dL_law_1143 ?_
  refine h.ld (lw_in hi hL (show 1 < 7 by decide)) dL_law_1144 ?_
  refine m2_inv hB (as := [.int (xs (nI i + 1).toNatClampNeg)]) (st := [.int y]) dL_law_1145 mv_L_142 rfl sh_kM rfl (ble rfl) rfl hM (fun r2 μ2 hr2 hq => ?_)
  obtain ⟨rfl, hR2⟩ := hq
  exact m2_icmp_eq hB dL_law_1148 (tgt := 1728) (by decide) (fun _ => k μ2 hR2) (fun q => absurd rfl q)
theorem dL_law_1153 : decode code 1153 = .ok (.aload_n 1, 1) := by decide +kernel
theorem dL_law_1154 : decode code 1154 = .ok (.invokevirtual 143, 3) := by decide +kernel
theorem dL_law_1157 : decode code 1157 = .ok (.aload_n 2, 1) := by decide +kernel
theorem dL_law_1158 : decode code 1158 = .ok (.invokevirtual 146, 3) := by decide +kernel
theorem dL_law_1161 : decode code 1161 = .ok (.if_icmp .eq 567, 3) := by decide +kernel
theorem LC_27 {κ : Nat → Nat → List Value → List Value → m2M → Prop} {mx D L n i : Nat} {xs : Nat → Int32} {μ : m2M} (h : m2_LW κ mx (D + 1) L xs) (hn : n ≤ mx) (hi : i + 7 ≤ L) (hL : L ≤ 3584) (hD : 420 ≤ D) (hR : REL μ) (k : ∀ μ', REL μ' → κ n 1728 [.ref 1002, .ref kC, .ref kM, .ref kOut, .int (nI i), .null, .null, .null] [] μ') : κ n 1153 [.ref 1002, .ref kC, .ref kM, .ref kOut, .int (nI i), .null, .null, .null] [] μ := by
  have hB := h.b hn
  refine m2_aload_n hB dL_law_1153 rfl ?_
  refine m2_inv hB (as := []) (st := []) dL_law_1154 mv_L_143 rfl sh_kC rfl (by decide) rfl (T_plan (by omega) μ hR) (fun r μ1 hr hM => ?_)
  obtain ⟨y, rfl⟩ := hr
  refine m2_aload_n hB dL_law_1157 rfl ?_
  refine m2_inv hB (as := []) (st := [.int y]) dL_law_1158 mv_L_146 rfl sh_kM rfl (ble rfl) rfl hM (fun r2 μ2 hr2 hq => ?_)
  obtain ⟨rfl, hR2⟩ := hq
  exact m2_icmp_eq hB dL_law_1161 (tgt := 1728) (by decide) (fun _ => k μ2 hR2) (fun q => absurd rfl q)
theorem dL_law_1166 : decode code 1166 = .ok (.aload_n 1, 1) := by decide +kernel
theorem dL_law_1167 : decode code 1167 = .ok (.aload_n 0, 1) := by decide +kernel
theorem dL_law_1168 : decode code 1168 = .ok (.iload 4, 2) := by decide +kernel
theorem dL_law_1170 : decode code 1170 = .ok (.iconst 1, 1) := by decide +kernel
theorem dL_law_1171 : decode code 1171 = .ok (.iadd, 1) := by decide +kernel
theorem dL_law_1172 : decode code 1172 = .ok (.iaload, 1) := by decide +kernel
theorem dL_law_1173 : decode code 1173 = .ok (.invokevirtual 147, 3) := by decide +kernel
theorem dL_law_1176 : decode code 1176 = .ok (.aload_n 2, 1) := by decide +kernel
theorem dL_law_1177 : decode code 1177 = .ok (.aload_n 0, 1) := by decide +kernel
theorem dL_law_1178 : decode code 1178 = .ok (.iload 4, 2) := by decide +kernel
theorem dL_law_1180 : decode code 1180 = .ok (.iconst 1, 1) := by decide +kernel
theorem dL_law_1181 : decode code 1181 = .ok (.iadd, 1) := by decide +kernel
theorem dL_law_1182 : decode code 1182 = .ok (.iaload, 1) := by decide +kernel
theorem dL_law_1183 : decode code 1183 = .ok (.invokevirtual 150, 3) := by decide +kernel
theorem dL_law_1186 : decode code 1186 = .ok (.if_icmp .eq 542, 3) := by decide +kernel
theorem LC_28 {κ : Nat → Nat → List Value → List Value → m2M → Prop} {mx D L n i : Nat} {xs : Nat → Int32} {μ : m2M} (h : m2_LW κ mx (D + 1) L xs) (hn : n ≤ mx) (hi : i + 7 ≤ L) (hL : L ≤ 3584) (hD : 420 ≤ D) (hR : REL μ) (k : ∀ μ', REL μ' → κ n 1728 [.ref 1002, .ref kC, .ref kM, .ref kOut, .int (nI i), .null, .null, .null] [] μ') : κ n 1166 [.ref 1002, .ref kC, .ref kM, .ref kOut, .int (nI i), .null, .null, .null] [] μ := by
  have hB := h.b hn
  refine m2_aload_n hB dL_law_1166 rfl ?_
  refine m2_aload_n hB dL_law_1167 rfl ?_
  refine m2_iload hB dL_law_1168 rfl ?_
  refine m2_iconst hB dL_law_1170 (v := 1) (by decide) ?_
  refine m2_iadd hB dL_law_1171 ?_
  refine h.ld (lw_in hi hL (show 1 < 7 by decide)) dL_law_1172 ?_
  refine m2_inv hB (as := [.int (xs (nI i + 1).toNatClampNeg)]) (st := []) dL_law_1173 mv_L_147 rfl sh_kC rfl (by decide) rfl (T_order (by omega) _ μ hR) (fun r μ1 hr hM => ?_)
  obtain ⟨y, rfl⟩ := hr
  refine m2_aload_n hB dL_law_1176 rfl ?_
  refine m2_aload_n hB dL_law_1177 rfl ?_
  refine m2_iload hB dL_law_1178 rfl ?_
  refine m2_iconst hB dL_law_1180 (v := 1) (by decide) ?_
  refine m2_iadd hB dL_law_1181 ?_
  refine h.ld (lw_in hi hL (show 1 < 7 by decide)) dL_law_1182 ?_
  refine m2_inv hB (as := [.int (xs (nI i + 1).toNatClampNeg)]) (st := [.int y]) dL_law_1183 mv_L_150 rfl sh_kM rfl (ble rfl) rfl hM (fun r2 μ2 hr2 hq => ?_)
  obtain ⟨rfl, hR2⟩ := hq
  exact m2_icmp_eq hB dL_law_1186 (tgt := 1728) (by decide) (fun _ => k μ2 hR2) (fun q => absurd rfl q)
