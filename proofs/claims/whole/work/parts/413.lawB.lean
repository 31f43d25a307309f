section LWS
variable {nm : String} {D : Dat} {nT i a1 a2 kc ks : Nat} {nd nd2 : Nat → Option Nat} {c : Nat → pE} {ad ad2 : Nat → Nat} {fi : Nat → Int32} {fa : Nat → Nat → Int32} {Q : Option Value → Mem → Prop}
theorem LW_pays (hS : LwS nT nd nd2 ad ad2 c fi fa a1 a2) (hi : i + 6 ≤ sN D) (hN : sN D ≤ 384) (hk : LwK D nm i a1 a2 nd2 ad2 kc ks Q) : V D 140 (IL nm) 864 (lwL D a1 a2 i) [] (mun (MM nd c) (MR nd2 ad2 fi fa)) (kc + 3) (ks + 188) Q := by
  obtain ⟨hL, hR, h, ha, rfl, rfl⟩ := hS
  obtain ⟨r, e, fj, fb, hx, hy, hI⟩ := L_pays hL hR h (sX D (i + 1)) (sX D (i + 2)) (sX D (i + 3))
  have s1 : sld D (nI i + 1) = some (sX D (i + 1)) := sld_at (k := 1) (by omega) hN
  have s2 : sld D (nI i + 2) = some (sX D (i + 2)) := sld_at (k := 2) (by omega) hN
  have s3 : sld D (nI i + 3) = some (sX D (i + 3)) := sld_at (k := 3) (by omega) hN
  refine V_kc (kc2 := kc) (ks2 := ks) (by omega) (by omega) ?_
  refine V_aload_n (pc2 := 865) dL_law_864 1 rfl rfl ?_
  refine V_aload_n (pc2 := 866) dL_law_865 0 rfl rfl ?_
  refine V_iload_n (pc2 := 867) dL_law_866 3 rfl rfl ?_
  refine V_iconst (v := 1) (pc2 := 868) dL_law_867 (by decide) ?_
  refine V_iadd (pc2 := 869) dL_law_868 ?_
  refine V_sld (pc2 := 870) s1 dL_law_869 ?_
  refine V_aload_n (pc2 := 871) dL_law_870 0 rfl rfl ?_
  refine V_iload_n (pc2 := 872) dL_law_871 3 rfl rfl ?_
  refine V_iconst (v := 2) (pc2 := 873) dL_law_872 (by decide) ?_
  refine V_iadd (pc2 := 874) dL_law_873 ?_
  refine V_sld (pc2 := 875) s2 dL_law_874 ?_
  refine V_aload_n (pc2 := 876) dL_law_875 0 rfl rfl ?_
  refine V_iload_n (pc2 := 877) dL_law_876 3 rfl rfl ?_
  refine V_iconst (v := 3) (pc2 := 878) dL_law_877 (by decide) ?_
  refine V_iadd (pc2 := 879) dL_law_878 ?_
  refine V_sld (pc2 := 880) s3 dL_law_879 ?_
  refine V_c7 (pc2 := 883) [.int (sX D (i + 1)), .int (sX D (i + 2)), .int (sX D (i + 3))] (st := []) (tX7_pays hx) ha (cls_at hL h) dL_law_880 wV_ParcelRingLaw_105 (by decide) rfl (Nat.le_of_ble_eq_true rfl) (fun ha1 => ?_)
  refine V_aload_n (pc2 := 884) dL_law_883 2 rfl rfl ?_
  refine V_aload_n (pc2 := 885) dL_law_884 0 rfl rfl ?_
  refine V_iload_n (pc2 := 886) dL_law_885 3 rfl rfl ?_
  refine V_iconst (v := 1) (pc2 := 887) dL_law_886 (by decide) ?_
  refine V_iadd (pc2 := 888) dL_law_887 ?_
  refine V_sld (pc2 := 889) s1 dL_law_888 ?_
  refine V_aload_n (pc2 := 890) dL_law_889 0 rfl rfl ?_
  refine V_iload_n (pc2 := 891) dL_law_890 3 rfl rfl ?_
  refine V_iconst (v := 2) (pc2 := 892) dL_law_891 (by decide) ?_
  refine V_iadd (pc2 := 893) dL_law_892 ?_
  refine V_sld (pc2 := 894) s2 dL_law_893 ?_
  refine V_aload_n (pc2 := 895) dL_law_894 0 rfl rfl ?_
  refine V_iload_n (pc2 := 896) dL_law_895 3 rfl rfl ?_
  refine V_iconst (v := 3) (pc2 := 897) dL_law_896 (by decide) ?_
  refine V_iadd (pc2 := 898) dL_law_897 ?_
  refine V_sld (pc2 := 899) s3 dL_law_898 ?_
  refine V_c8 (pc2 := 902) [.int (sX D (i + 1)), .int (sX D (i + 2)), .int (sX D (i + 3))] (st := [.int r]) (tX8_pays hy) ha1 (ref_at hR) dL_law_899 wV_ParcelRingLaw_108 (by decide) rfl (Nat.le_of_ble_eq_true rfl) (fun ha2 => ?_)
  refine V_icmp_eq (pc2 := 905) (tgt := 1563) dL_law_902 (fun _ => ?_) (fun z => absurd rfl z)
  exact hk nT nd ad e fj fb ⟨hL, hR, hI, ha2, rfl, rfl⟩
theorem LW_worst (hS : LwS nT nd nd2 ad ad2 c fi fa a1 a2) (hi : i + 6 ≤ sN D) (hN : sN D ≤ 384) (hk : LwK D nm i a1 a2 nd2 ad2 kc ks Q) : V D 140 (IL nm) 907 (lwL D a1 a2 i) [] (mun (MM nd c) (MR nd2 ad2 fi fa)) (kc + 3) (ks + 188) Q := by
  obtain ⟨hL, hR, h, ha, rfl, rfl⟩ := hS
  obtain ⟨r, e, fj, fb, hx, hy, hI⟩ := L_worst hL hR h (sX D (i + 1)) (sX D (i + 2))
  have s1 : sld D (nI i + 1) = some (sX D (i + 1)) := sld_at (k := 1) (by omega) hN
  have s2 : sld D (nI i + 2) = some (sX D (i + 2)) := sld_at (k := 2) (by omega) hN
  refine V_kc (kc2 := kc) (ks2 := ks) (by omega) (by omega) ?_
  refine V_aload_n (pc2 := 908) dL_law_907 1 rfl rfl ?_
  refine V_aload_n (pc2 := 909) dL_law_908 0 rfl rfl ?_
  refine V_iload_n (pc2 := 910) dL_law_909 3 rfl rfl ?_
  refine V_iconst (v := 1) (pc2 := 911) dL_law_910 (by decide) ?_
  refine V_iadd (pc2 := 912) dL_law_911 ?_
  refine V_sld (pc2 := 913) s1 dL_law_912 ?_
  refine V_aload_n (pc2 := 914) dL_law_913 0 rfl rfl ?_
  refine V_iload_n (pc2 := 915) dL_law_914 3 rfl rfl ?_
  refine V_iconst (v := 2) (pc2 := 916) dL_law_915 (by decide) ?_
  refine V_iadd (pc2 := 917) dL_law_916 ?_
  refine V_sld (pc2 := 918) s2 dL_law_917 ?_
  refine V_c7 (pc2 := 921) [.int (sX D (i + 1)), .int (sX D (i + 2))] (st := []) (tX7_worst hx) ha (cls_at hL h) dL_law_918 wV_ParcelRingLaw_109 (by decide) rfl (Nat.le_of_ble_eq_true rfl) (fun ha1 => ?_)
  refine V_aload_n (pc2 := 922) dL_law_921 2 rfl rfl ?_
  refine V_aload_n (pc2 := 923) dL_law_922 0 rfl rfl ?_
  refine V_iload_n (pc2 := 924) dL_law_923 3 rfl rfl ?_
  refine V_iconst (v := 1) (pc2 := 925) dL_law_924 (by decide) ?_
  refine V_iadd (pc2 := 926) dL_law_925 ?_
  refine V_sld (pc2 := 927) s1 dL_law_926 ?_
  refine V_aload_n (pc2 := 928) dL_law_927 0 rfl rfl ?_
  refine V_iload_n (pc2 := 929) dL_law_928 3 rfl rfl ?_
  refine V_iconst (v := 2) (pc2 := 930) dL_law_929 (by decide) ?_
  refine V_iadd (pc2 := 931) dL_law_930 ?_
  refine V_sld (pc2 := 932) s2 dL_law_931 ?_
  refine V_c8 (pc2 := 935) [.int (sX D (i + 1)), .int (sX D (i + 2))] (st := [.int r]) (tX8_worst hy) ha1 (ref_at hR) dL_law_932 wV_ParcelRingLaw_112 (by decide) rfl (Nat.le_of_ble_eq_true rfl) (fun ha2 => ?_)
  refine V_icmp_eq (pc2 := 938) (tgt := 1563) dL_law_935 (fun _ => ?_) (fun z => absurd rfl z)
  exact hk nT nd ad e fj fb ⟨hL, hR, hI, ha2, rfl, rfl⟩
theorem LW_filmed (hS : LwS nT nd nd2 ad ad2 c fi fa a1 a2) (hi : i + 6 ≤ sN D) (hN : sN D ≤ 384) (hk : LwK D nm i a1 a2 nd2 ad2 kc ks Q) : V D 140 (IL nm) 940 (lwL D a1 a2 i) [] (mun (MM nd c) (MR nd2 ad2 fi fa)) (kc + 3) (ks + 188) Q := by
  obtain ⟨hL, hR, h, ha, rfl, rfl⟩ := hS
  obtain ⟨r, e, fj, fb, hx, hy, hI⟩ := L_filmed hL hR h (sX D (i + 1)) (sX D (i + 2))
  have s1 : sld D (nI i + 1) = some (sX D (i + 1)) := sld_at (k := 1) (by omega) hN
  have s2 : sld D (nI i + 2) = some (sX D (i + 2)) := sld_at (k := 2) (by omega) hN
  refine V_kc (kc2 := kc) (ks2 := ks) (by omega) (by omega) ?_
  refine V_aload_n (pc2 := 941) dL_law_940 1 rfl rfl ?_
  refine V_aload_n (pc2 := 942) dL_law_941 0 rfl rfl ?_
  refine V_iload_n (pc2 := 943) dL_law_942 3 rfl rfl ?_
  refine V_iconst (v := 1) (pc2 := 944) dL_law_943 (by decide) ?_
  refine V_iadd (pc2 := 945) dL_law_944 ?_
  refine V_sld (pc2 := 946) s1 dL_law_945 ?_
  refine V_aload_n (pc2 := 947) dL_law_946 0 rfl rfl ?_
  refine V_iload_n (pc2 := 948) dL_law_947 3 rfl rfl ?_
  refine V_iconst (v := 2) (pc2 := 949) dL_law_948 (by decide) ?_
  refine V_iadd (pc2 := 950) dL_law_949 ?_
  refine V_sld (pc2 := 951) s2 dL_law_950 ?_
  refine V_c7 (pc2 := 954) [.int (sX D (i + 1)), .int (sX D (i + 2))] (st := []) (tX7_filmed hx) ha (cls_at hL h) dL_law_951 wV_ParcelRingLaw_113 (by decide) rfl (Nat.le_of_ble_eq_true rfl) (fun ha1 => ?_)
  refine V_aload_n (pc2 := 955) dL_law_954 2 rfl rfl ?_
  refine V_aload_n (pc2 := 956) dL_law_955 0 rfl rfl ?_
  refine V_iload_n (pc2 := 957) dL_law_956 3 rfl rfl ?_
  refine V_iconst (v := 1) (pc2 := 958) dL_law_957 (by decide) ?_
  refine V_iadd (pc2 := 959) dL_law_958 ?_
  refine V_sld (pc2 := 960) s1 dL_law_959 ?_
  refine V_aload_n (pc2 := 961) dL_law_960 0 rfl rfl ?_
  refine V_iload_n (pc2 := 962) dL_law_961 3 rfl rfl ?_
  refine V_iconst (v := 2) (pc2 := 963) dL_law_962 (by decide) ?_
  refine V_iadd (pc2 := 964) dL_law_963 ?_
  refine V_sld (pc2 := 965) s2 dL_law_964 ?_
  refine V_c8 (pc2 := 968) [.int (sX D (i + 1)), .int (sX D (i + 2))] (st := [.int r]) (tX8_filmed hy) ha1 (ref_at hR) dL_law_965 wV_ParcelRingLaw_116 (by decide) rfl (Nat.le_of_ble_eq_true rfl) (fun ha2 => ?_)
  refine V_icmp_eq (pc2 := 971) (tgt := 1563) dL_law_968 (fun _ => ?_) (fun z => absurd rfl z)
  exact hk nT nd ad e fj fb ⟨hL, hR, hI, ha2, rfl, rfl⟩
theorem LW_fine (hS : LwS nT nd nd2 ad ad2 c fi fa a1 a2) (hi : i + 6 ≤ sN D) (hN : sN D ≤ 384) (hk : LwK D nm i a1 a2 nd2 ad2 kc ks Q) : V D 140 (IL nm) 973 (lwL D a1 a2 i) [] (mun (MM nd c) (MR nd2 ad2 fi fa)) (kc + 3) (ks + 188) Q := by
  obtain ⟨hL, hR, h, ha, rfl, rfl⟩ := hS
  obtain ⟨r, e, fj, fb, hx, hy, hI⟩ := L_fine hL hR h (sX D (i + 1))
  have s1 : sld D (nI i + 1) = some (sX D (i + 1)) := sld_at (k := 1) (by omega) hN
  refine V_kc (kc2 := kc) (ks2 := ks) (by omega) (by omega) ?_
  refine V_aload_n (pc2 := 974) dL_law_973 1 rfl rfl ?_
  refine V_aload_n (pc2 := 975) dL_law_974 0 rfl rfl ?_
  refine V_iload_n (pc2 := 976) dL_law_975 3 rfl rfl ?_
  refine V_iconst (v := 1) (pc2 := 977) dL_law_976 (by decide) ?_
  refine V_iadd (pc2 := 978) dL_law_977 ?_
  refine V_sld (pc2 := 979) s1 dL_law_978 ?_
  refine V_c7 (pc2 := 982) [.int (sX D (i + 1))] (st := []) (tX7_fine hx) ha (cls_at hL h) dL_law_979 wV_ParcelRingLaw_117 (by decide) rfl (Nat.le_of_ble_eq_true rfl) (fun ha1 => ?_)
  refine V_aload_n (pc2 := 983) dL_law_982 2 rfl rfl ?_
  refine V_aload_n (pc2 := 984) dL_law_983 0 rfl rfl ?_
  refine V_iload_n (pc2 := 985) dL_law_984 3 rfl rfl ?_
  refine V_iconst (v := 1) (pc2 := 986) dL_law_985 (by decide) ?_
  refine V_iadd (pc2 := 987) dL_law_986 ?_
  refine V_sld (pc2 := 988) s1 dL_law_987 ?_
  refine V_c8 (pc2 := 991) [.int (sX D (i + 1))] (st := [.int r]) (tX8_fine hy) ha1 (ref_at hR) dL_law_988 wV_ParcelRingLaw_120 (by decide) rfl (Nat.le_of_ble_eq_true rfl) (fun ha2 => ?_)
  refine V_icmp_eq (pc2 := 994) (tgt := 1563) dL_law_991 (fun _ => ?_) (fun z => absurd rfl z)
  exact hk nT nd ad e fj fb ⟨hL, hR, hI, ha2, rfl, rfl⟩
theorem LW_feed (hS : LwS nT nd nd2 ad ad2 c fi fa a1 a2) (hi : i + 6 ≤ sN D) (hN : sN D ≤ 384) (hk : LwK D nm i a1 a2 nd2 ad2 kc ks Q) : V D 140 (IL nm) 996 (lwL D a1 a2 i) [] (mun (MM nd c) (MR nd2 ad2 fi fa)) (kc + 3) (ks + 188) Q := by
  obtain ⟨hL, hR, h, ha, rfl, rfl⟩ := hS
  obtain ⟨r, e, fj, fb, hx, hy, hI⟩ := L_feed hL hR h (sX D (i + 1)) (sX D (i + 2)) (sX D (i + 3))
  have s1 : sld D (nI i + 1) = some (sX D (i + 1)) := sld_at (k := 1) (by omega) hN
  have s2 : sld D (nI i + 2) = some (sX D (i + 2)) := sld_at (k := 2) (by omega) hN
  have s3 : sld D (nI i + 3) = some (sX D (i + 3)) := sld_at (k := 3) (by omega) hN
  refine V_kc (kc2 := kc) (ks2 := ks) (by omega) (by omega) ?_
  refine V_aload_n (pc2 := 997) dL_law_996 1 rfl rfl ?_
  refine V_aload_n (pc2 := 998) dL_law_997 0 rfl rfl ?_
  refine V_iload_n (pc2 := 999) dL_law_998 3 rfl rfl ?_
  refine V_iconst (v := 1) (pc2 := 1000) dL_law_999 (by decide) ?_
  refine V_iadd (pc2 := 1001) dL_law_1000 ?_
  refine V_sld (pc2 := 1002) s1 dL_law_1001 ?_
  refine V_aload_n (pc2 := 1003) dL_law_1002 0 rfl rfl ?_
  refine V_iload_n (pc2 := 1004) dL_law_1003 3 rfl rfl ?_
  refine V_iconst (v := 2) (pc2 := 1005) dL_law_1004 (by decide) ?_
  refine V_iadd (pc2 := 1006) dL_law_1005 ?_
  refine V_sld (pc2 := 1007) s2 dL_law_1006 ?_
  refine V_aload_n (pc2 := 1008) dL_law_1007 0 rfl rfl ?_
  refine V_iload_n (pc2 := 1009) dL_law_1008 3 rfl rfl ?_
  refine V_iconst (v := 3) (pc2 := 1010) dL_law_1009 (by decide) ?_
  refine V_iadd (pc2 := 1011) dL_law_1010 ?_
  refine V_sld (pc2 := 1012) s3 dL_law_1011 ?_
  refine V_c7 (pc2 := 1015) [.int (sX D (i + 1)), .int (sX D (i + 2)), .int (sX D (i + 3))] (st := []) (tX7_feed hx) ha (cls_at hL h) dL_law_1012 wV_ParcelRingLaw_121 (by decide) rfl (Nat.le_of_ble_eq_true rfl) (fun ha1 => ?_)
  refine V_aload_n (pc2 := 1016) dL_law_1015 2 rfl rfl ?_
  refine V_aload_n (pc2 := 1017) dL_law_1016 0 rfl rfl ?_
  refine V_iload_n (pc2 := 1018) dL_law_1017 3 rfl rfl ?_
  refine V_iconst (v := 1) (pc2 := 1019) dL_law_1018 (by decide) ?_
  refine V_iadd (pc2 := 1020) dL_law_1019 ?_
  refine V_sld (pc2 := 1021) s1 dL_law_1020 ?_
  refine V_aload_n (pc2 := 1022) dL_law_1021 0 rfl rfl ?_
  refine V_iload_n (pc2 := 1023) dL_law_1022 3 rfl rfl ?_
  refine V_iconst (v := 2) (pc2 := 1024) dL_law_1023 (by decide) ?_
  refine V_iadd (pc2 := 1025) dL_law_1024 ?_
  refine V_sld (pc2 := 1026) s2 dL_law_1025 ?_
  refine V_aload_n (pc2 := 1027) dL_law_1026 0 rfl rfl ?_
  refine V_iload_n (pc2 := 1028) dL_law_1027 3 rfl rfl ?_
  refine V_iconst (v := 3) (pc2 := 1029) dL_law_1028 (by decide) ?_
  refine V_iadd (pc2 := 1030) dL_law_1029 ?_
  refine V_sld (pc2 := 1031) s3 dL_law_1030 ?_
  refine V_c8 (pc2 := 1034) [.int (sX D (i + 1)), .int (sX D (i + 2)), .int (sX D (i + 3))] (st := [.int r]) (tX8_feed hy) ha1 (ref_at hR) dL_law_1031 wV_ParcelRingLaw_124 (by decide) rfl (Nat.le_of_ble_eq_true rfl) (fun ha2 => ?_)
  refine V_icmp_eq (pc2 := 1037) (tgt := 1563) dL_law_1034 (fun _ => ?_) (fun z => absurd rfl z)
  exact hk nT nd ad e fj fb ⟨hL, hR, hI, ha2, rfl, rfl⟩
theorem LW_trim (hS : LwS nT nd nd2 ad ad2 c fi fa a1 a2) (hi : i + 6 ≤ sN D) (hN : sN D ≤ 384) (hk : LwK D nm i a1 a2 nd2 ad2 kc ks Q) : V D 140 (IL nm) 1039 (lwL D a1 a2 i) [] (mun (MM nd c) (MR nd2 ad2 fi fa)) (kc + 3) (ks + 188) Q := by
  obtain ⟨hL, hR, h, ha, rfl, rfl⟩ := hS
  obtain ⟨r, e, fj, fb, hx, hy, hI⟩ := L_trim hL hR h (sX D (i + 1))
  have s1 : sld D (nI i + 1) = some (sX D (i + 1)) := sld_at (k := 1) (by omega) hN
  refine V_kc (kc2 := kc) (ks2 := ks) (by omega) (by omega) ?_
  refine V_aload_n (pc2 := 1040) dL_law_1039 1 rfl rfl ?_
  refine V_aload_n (pc2 := 1041) dL_law_1040 0 rfl rfl ?_
  refine V_iload_n (pc2 := 1042) dL_law_1041 3 rfl rfl ?_
  refine V_iconst (v := 1) (pc2 := 1043) dL_law_1042 (by decide) ?_
  refine V_iadd (pc2 := 1044) dL_law_1043 ?_
  refine V_sld (pc2 := 1045) s1 dL_law_1044 ?_
  refine V_c7 (pc2 := 1048) [.int (sX D (i + 1))] (st := []) (tX7_trim hx) ha (cls_at hL h) dL_law_1045 wV_ParcelRingLaw_125 (by decide) rfl (Nat.le_of_ble_eq_true rfl) (fun ha1 => ?_)
  refine V_aload_n (pc2 := 1049) dL_law_1048 2 rfl rfl ?_
  refine V_aload_n (pc2 := 1050) dL_law_1049 0 rfl rfl ?_
  refine V_iload_n (pc2 := 1051) dL_law_1050 3 rfl rfl ?_
  refine V_iconst (v := 1) (pc2 := 1052) dL_law_1051 (by decide) ?_
  refine V_iadd (pc2 := 1053) dL_law_1052 ?_
  refine V_sld (pc2 := 1054) s1 dL_law_1053 ?_
  refine V_c8 (pc2 := 1057) [.int (sX D (i + 1))] (st := [.int r]) (tX8_trim hy) ha1 (ref_at hR) dL_law_1054 wV_ParcelRingLaw_128 (by decide) rfl (Nat.le_of_ble_eq_true rfl) (fun ha2 => ?_)
  refine V_icmp_eq (pc2 := 1060) (tgt := 1563) dL_law_1057 (fun _ => ?_) (fun z => absurd rfl z)
  exact hk nT nd ad e fj fb ⟨hL, hR, hI, ha2, rfl, rfl⟩
theorem LW_text (hS : LwS nT nd nd2 ad ad2 c fi fa a1 a2) (hi : i + 6 ≤ sN D) (hN : sN D ≤ 384) (hk : LwK D nm i a1 a2 nd2 ad2 kc ks Q) : V D 140 (IL nm) 1062 (lwL D a1 a2 i) [] (mun (MM nd c) (MR nd2 ad2 fi fa)) (kc + 3) (ks + 188) Q := by
  obtain ⟨hL, hR, h, ha, rfl, rfl⟩ := hS
  obtain ⟨r, fj, fb, hy, hx⟩ := L_text (D := D) hL hR h
  refine V_aload_n (pc2 := 1063) dL_law_1062 1 rfl rfl ?_
  refine V_c7t (pc2 := 1066) [] (st := []) hx ha (cls_at hL h) dL_law_1063 wV_ParcelRingLaw_129 (by decide) rfl (Nat.le_of_ble_eq_true rfl) (fun m9 ha1 hE => ?_)
  obtain ⟨nT2, nd3, ad3, e, rfl, a3, hL3, hI⟩ := hE
  refine V_aload_n (pc2 := 1067) dL_law_1066 2 rfl rfl ?_
  refine V_c8 (pc2 := 1070) [] (st := [.int r]) (tX8_text hy) ha1 (ref_at hR) dL_law_1067 wV_ParcelRingLaw_132 (by decide) rfl (Nat.le_of_ble_eq_true rfl) (fun ha2 => ?_)
  refine V_icmp_eq (pc2 := 1073) (tgt := 1563) dL_law_1070 (fun _ => ?_) (fun z => absurd rfl z)
  exact hk nT2 nd3 ad3 e fj fb ⟨hL3, hR, hI, ha2, a3, rfl⟩
theorem LW_textTold (hS : LwS nT nd nd2 ad ad2 c fi fa a1 a2) (hi : i + 6 ≤ sN D) (hN : sN D ≤ 384) (hk : LwK D nm i a1 a2 nd2 ad2 kc ks Q) : V D 140 (IL nm) 1075 (lwL D a1 a2 i) [] (mun (MM nd c) (MR nd2 ad2 fi fa)) (kc + 3) (ks + 188) Q := by
  obtain ⟨hL, hR, h, ha, rfl, rfl⟩ := hS
  obtain ⟨r, hx, hy⟩ := L_textTold hL hR h (sX D (i + 1)) (sX D (i + 2))
  have s1 : sld D (nI i + 1) = some (sX D (i + 1)) := sld_at (k := 1) (by omega) hN
  have s2 : sld D (nI i + 2) = some (sX D (i + 2)) := sld_at (k := 2) (by omega) hN
  refine V_kc (kc2 := kc) (ks2 := ks) (by omega) (by omega) ?_
  refine V_aload_n (pc2 := 1076) dL_law_1075 1 rfl rfl ?_
  refine V_aload_n (pc2 := 1077) dL_law_1076 0 rfl rfl ?_
  refine V_iload_n (pc2 := 1078) dL_law_1077 3 rfl rfl ?_
  refine V_iconst (v := 1) (pc2 := 1079) dL_law_1078 (by decide) ?_
  refine V_iadd (pc2 := 1080) dL_law_1079 ?_
  refine V_sld (pc2 := 1081) s1 dL_law_1080 ?_
  refine V_aload_n (pc2 := 1082) dL_law_1081 0 rfl rfl ?_
  refine V_iload_n (pc2 := 1083) dL_law_1082 3 rfl rfl ?_
  refine V_iconst (v := 2) (pc2 := 1084) dL_law_1083 (by decide) ?_
  refine V_iadd (pc2 := 1085) dL_law_1084 ?_
  refine V_sld (pc2 := 1086) s2 dL_law_1085 ?_
  refine V_c7 (pc2 := 1089) [.int (sX D (i + 1)), .int (sX D (i + 2))] (st := []) (tX7_textTold hx) ha (cls_at hL h) dL_law_1086 wV_ParcelRingLaw_133 (by decide) rfl (Nat.le_of_ble_eq_true rfl) (fun ha1 => ?_)
  refine V_aload_n (pc2 := 1090) dL_law_1089 2 rfl rfl ?_
  refine V_aload_n (pc2 := 1091) dL_law_1090 0 rfl rfl ?_
  refine V_iload_n (pc2 := 1092) dL_law_1091 3 rfl rfl ?_
  refine V_iconst (v := 1) (pc2 := 1093) dL_law_1092 (by decide) ?_
  refine V_iadd (pc2 := 1094) dL_law_1093 ?_
  refine V_sld (pc2 := 1095) s1 dL_law_1094 ?_
  refine V_aload_n (pc2 := 1096) dL_law_1095 0 rfl rfl ?_
  refine V_iload_n (pc2 := 1097) dL_law_1096 3 rfl rfl ?_
  refine V_iconst (v := 2) (pc2 := 1098) dL_law_1097 (by decide) ?_
  refine V_iadd (pc2 := 1099) dL_law_1098 ?_
  refine V_sld (pc2 := 1100) s2 dL_law_1099 ?_
  refine V_c8 (pc2 := 1103) [.int (sX D (i + 1)), .int (sX D (i + 2))] (st := [.int r]) (tX8_textTold hy) ha1 (ref_at hR) dL_law_1100 wV_ParcelRingLaw_136 (by decide) rfl (Nat.le_of_ble_eq_true rfl) (fun ha2 => ?_)
  refine V_icmp_eq (pc2 := 1106) (tgt := 1563) dL_law_1103 (fun _ => ?_) (fun z => absurd rfl z)
  exact hk nT nd ad c fi fa ⟨hL, hR, h, ha2, rfl, rfl⟩
theorem LW_why (hS : LwS nT nd nd2 ad ad2 c fi fa a1 a2) (hi : i + 6 ≤ sN D) (hN : sN D ≤ 384) (hk : LwK D nm i a1 a2 nd2 ad2 kc ks Q) : V D 140 (IL nm) 1108 (lwL D a1 a2 i) [] (mun (MM nd c) (MR nd2 ad2 fi fa)) (kc + 3) (ks + 188) Q := by
  obtain ⟨hL, hR, h, ha, rfl, rfl⟩ := hS
  obtain ⟨r, hx, hy⟩ := L_why hL hR h (sX D (i + 1))
  have s1 : sld D (nI i + 1) = some (sX D (i + 1)) := sld_at (k := 1) (by omega) hN
  refine V_kc (kc2 := kc) (ks2 := ks) (by omega) (by omega) ?_
  refine V_aload_n (pc2 := 1109) dL_law_1108 1 rfl rfl ?_
  refine V_aload_n (pc2 := 1110) dL_law_1109 0 rfl rfl ?_
  refine V_iload_n (pc2 := 1111) dL_law_1110 3 rfl rfl ?_
  refine V_iconst (v := 1) (pc2 := 1112) dL_law_1111 (by decide) ?_
  refine V_iadd (pc2 := 1113) dL_law_1112 ?_
  refine V_sld (pc2 := 1114) s1 dL_law_1113 ?_
  refine V_c7 (pc2 := 1117) [.int (sX D (i + 1))] (st := []) (tX7_why hx) ha (cls_at hL h) dL_law_1114 wV_ParcelRingLaw_137 (by decide) rfl (Nat.le_of_ble_eq_true rfl) (fun ha1 => ?_)
  refine V_aload_n (pc2 := 1118) dL_law_1117 2 rfl rfl ?_
  refine V_aload_n (pc2 := 1119) dL_law_1118 0 rfl rfl ?_
  refine V_iload_n (pc2 := 1120) dL_law_1119 3 rfl rfl ?_
  refine V_iconst (v := 1) (pc2 := 1121) dL_law_1120 (by decide) ?_
  refine V_iadd (pc2 := 1122) dL_law_1121 ?_
  refine V_sld (pc2 := 1123) s1 dL_law_1122 ?_
  refine V_c8 (pc2 := 1126) [.int (sX D (i + 1))] (st := [.int r]) (tX8_why hy) ha1 (ref_at hR) dL_law_1123 wV_ParcelRingLaw_140 (by decide) rfl (Nat.le_of_ble_eq_true rfl) (fun ha2 => ?_)
  refine V_icmp_eq (pc2 := 1129) (tgt := 1563) dL_law_1126 (fun _ => ?_) (fun z => absurd rfl z)
  exact hk nT nd ad c fi fa ⟨hL, hR, h, ha2, rfl, rfl⟩
theorem LW_sheet (hS : LwS nT nd nd2 ad ad2 c fi fa a1 a2) (hi : i + 6 ≤ sN D) (hN : sN D ≤ 384) (hk : LwK D nm i a1 a2 nd2 ad2 kc ks Q) : V D 140 (IL nm) 1131 (lwL D a1 a2 i) [] (mun (MM nd c) (MR nd2 ad2 fi fa)) (kc + 3) (ks + 188) Q := by
  obtain ⟨hL, hR, h, ha, rfl, rfl⟩ := hS
  obtain ⟨r, e, fj, fb, hx, hy, hI⟩ := L_sheet hL hR h (sX D (i + 1)) (sX D (i + 2)) (sX D (i + 3))
  have s1 : sld D (nI i + 1) = some (sX D (i + 1)) := sld_at (k := 1) (by omega) hN
  have s2 : sld D (nI i + 2) = some (sX D (i + 2)) := sld_at (k := 2) (by omega) hN
  have s3 : sld D (nI i + 3) = some (sX D (i + 3)) := sld_at (k := 3) (by omega) hN
  refine V_kc (kc2 := kc) (ks2 := ks) (by omega) (by omega) ?_
  refine V_aload_n (pc2 := 1132) dL_law_1131 1 rfl rfl ?_
  refine V_aload_n (pc2 := 1133) dL_law_1132 0 rfl rfl ?_
  refine V_iload_n (pc2 := 1134) dL_law_1133 3 rfl rfl ?_
  refine V_iconst (v := 1) (pc2 := 1135) dL_law_1134 (by decide) ?_
  refine V_iadd (pc2 := 1136) dL_law_1135 ?_
  refine V_sld (pc2 := 1137) s1 dL_law_1136 ?_
  refine V_aload_n (pc2 := 1138) dL_law_1137 0 rfl rfl ?_
  refine V_iload_n (pc2 := 1139) dL_law_1138 3 rfl rfl ?_
  refine V_iconst (v := 2) (pc2 := 1140) dL_law_1139 (by decide) ?_
  refine V_iadd (pc2 := 1141) dL_law_1140 ?_
  refine V_sld (pc2 := 1142) s2 dL_law_1141 ?_
  refine V_aload_n (pc2 := 1143) dL_law_1142 0 rfl rfl ?_
  refine V_iload_n (pc2 := 1144) dL_law_1143 3 rfl rfl ?_
  refine V_iconst (v := 3) (pc2 := 1145) dL_law_1144 (by decide) ?_
  refine V_iadd (pc2 := 1146) dL_law_1145 ?_
  refine V_sld (pc2 := 1147) s3 dL_law_1146 ?_
  refine V_c7 (pc2 := 1150) [.int (sX D (i + 1)), .int (sX D (i + 2)), .int (sX D (i + 3))] (st := []) (tX7_sheet hx) ha (cls_at hL h) dL_law_1147 wV_ParcelRingLaw_141 (by decide) rfl (Nat.le_of_ble_eq_true rfl) (fun ha1 => ?_)
  refine V_aload_n (pc2 := 1151) dL_law_1150 2 rfl rfl ?_
  refine V_aload_n (pc2 := 1152) dL_law_1151 0 rfl rfl ?_
  refine V_iload_n (pc2 := 1153) dL_law_1152 3 rfl rfl ?_
  refine V_iconst (v := 1) (pc2 := 1154) dL_law_1153 (by decide) ?_
  refine V_iadd (pc2 := 1155) dL_law_1154 ?_
  refine V_sld (pc2 := 1156) s1 dL_law_1155 ?_
  refine V_aload_n (pc2 := 1157) dL_law_1156 0 rfl rfl ?_
  refine V_iload_n (pc2 := 1158) dL_law_1157 3 rfl rfl ?_
  refine V_iconst (v := 2) (pc2 := 1159) dL_law_1158 (by decide) ?_
  refine V_iadd (pc2 := 1160) dL_law_1159 ?_
  refine V_sld (pc2 := 1161) s2 dL_law_1160 ?_
  refine V_aload_n (pc2 := 1162) dL_law_1161 0 rfl rfl ?_
  refine V_iload_n (pc2 := 1163) dL_law_1162 3 rfl rfl ?_
  refine V_iconst (v := 3) (pc2 := 1164) dL_law_1163 (by decide) ?_
  refine V_iadd (pc2 := 1165) dL_law_1164 ?_
  refine V_sld (pc2 := 1166) s3 dL_law_1165 ?_
  refine V_c8 (pc2 := 1169) [.int (sX D (i + 1)), .int (sX D (i + 2)), .int (sX D (i + 3))] (st := [.int r]) (tX8_sheet hy) ha1 (ref_at hR) dL_law_1166 wV_ParcelRingLaw_144 (by decide) rfl (Nat.le_of_ble_eq_true rfl) (fun ha2 => ?_)
  refine V_icmp_eq (pc2 := 1172) (tgt := 1563) dL_law_1169 (fun _ => ?_) (fun z => absurd rfl z)
  exact hk nT nd ad e fj fb ⟨hL, hR, hI, ha2, rfl, rfl⟩
theorem LW_mark (hS : LwS nT nd nd2 ad ad2 c fi fa a1 a2) (hi : i + 6 ≤ sN D) (hN : sN D ≤ 384) (hk : LwK D nm i a1 a2 nd2 ad2 kc ks Q) : V D 140 (IL nm) 1174 (lwL D a1 a2 i) [] (mun (MM nd c) (MR nd2 ad2 fi fa)) (kc + 3) (ks + 188) Q := by
  obtain ⟨hL, hR, h, ha, rfl, rfl⟩ := hS
  obtain ⟨r, e, fj, fb, hx, hy, hI⟩ := L_mark hL hR h (sX D (i + 1)) (sX D (i + 2)) (sX D (i + 3))
  have s1 : sld D (nI i + 1) = some (sX D (i + 1)) := sld_at (k := 1) (by omega) hN
  have s2 : sld D (nI i + 2) = some (sX D (i + 2)) := sld_at (k := 2) (by omega) hN
  have s3 : sld D (nI i + 3) = some (sX D (i + 3)) := sld_at (k := 3) (by omega) hN
  refine V_kc (kc2 := kc) (ks2 := ks) (by omega) (by omega) ?_
  refine V_aload_n (pc2 := 1175) dL_law_1174 1 rfl rfl ?_
  refine V_aload_n (pc2 := 1176) dL_law_1175 0 rfl rfl ?_
  refine V_iload_n (pc2 := 1177) dL_law_1176 3 rfl rfl ?_
  refine V_iconst (v := 1) (pc2 := 1178) dL_law_1177 (by decide) ?_
  refine V_iadd (pc2 := 1179) dL_law_1178 ?_
  refine V_sld (pc2 := 1180) s1 dL_law_1179 ?_
  refine V_aload_n (pc2 := 1181) dL_law_1180 0 rfl rfl ?_
  refine V_iload_n (pc2 := 1182) dL_law_1181 3 rfl rfl ?_
  refine V_iconst (v := 2) (pc2 := 1183) dL_law_1182 (by decide) ?_
  refine V_iadd (pc2 := 1184) dL_law_1183 ?_
  refine V_sld (pc2 := 1185) s2 dL_law_1184 ?_
  refine V_aload_n (pc2 := 1186) dL_law_1185 0 rfl rfl ?_
  refine V_iload_n (pc2 := 1187) dL_law_1186 3 rfl rfl ?_
  refine V_iconst (v := 3) (pc2 := 1188) dL_law_1187 (by decide) ?_
  refine V_iadd (pc2 := 1189) dL_law_1188 ?_
  refine V_sld (pc2 := 1190) s3 dL_law_1189 ?_
  refine V_c7 (pc2 := 1193) [.int (sX D (i + 1)), .int (sX D (i + 2)), .int (sX D (i + 3))] (st := []) (tX7_mark hx) ha (cls_at hL h) dL_law_1190 wV_ParcelRingLaw_145 (by decide) rfl (Nat.le_of_ble_eq_true rfl) (fun ha1 => ?_)
  refine V_aload_n (pc2 := 1194) dL_law_1193 2 rfl rfl ?_
  refine V_aload_n (pc2 := 1195) dL_law_1194 0 rfl rfl ?_
  refine V_iload_n (pc2 := 1196) dL_law_1195 3 rfl rfl ?_
  refine V_iconst (v := 1) (pc2 := 1197) dL_law_1196 (by decide) ?_
  refine V_iadd (pc2 := 1198) dL_law_1197 ?_
  refine V_sld (pc2 := 1199) s1 dL_law_1198 ?_
  refine V_aload_n (pc2 := 1200) dL_law_1199 0 rfl rfl ?_
  refine V_iload_n (pc2 := 1201) dL_law_1200 3 rfl rfl ?_
  refine V_iconst (v := 2) (pc2 := 1202) dL_law_1201 (by decide) ?_
  refine V_iadd (pc2 := 1203) dL_law_1202 ?_
  refine V_sld (pc2 := 1204) s2 dL_law_1203 ?_
  refine V_aload_n (pc2 := 1205) dL_law_1204 0 rfl rfl ?_
  refine V_iload_n (pc2 := 1206) dL_law_1205 3 rfl rfl ?_
  refine V_iconst (v := 3) (pc2 := 1207) dL_law_1206 (by decide) ?_
  refine V_iadd (pc2 := 1208) dL_law_1207 ?_
  refine V_sld (pc2 := 1209) s3 dL_law_1208 ?_
  refine V_c8 (pc2 := 1212) [.int (sX D (i + 1)), .int (sX D (i + 2)), .int (sX D (i + 3))] (st := [.int r]) (tX8_mark hy) ha1 (ref_at hR) dL_law_1209 wV_ParcelRingLaw_148 (by decide) rfl (Nat.le_of_ble_eq_true rfl) (fun ha2 => ?_)
  refine V_icmp_eq (pc2 := 1215) (tgt := 1563) dL_law_1212 (fun _ => ?_) (fun z => absurd rfl z)
  exact hk nT nd ad e fj fb ⟨hL, hR, hI, ha2, rfl, rfl⟩
theorem LW_pour (hS : LwS nT nd nd2 ad ad2 c fi fa a1 a2) (hi : i + 6 ≤ sN D) (hN : sN D ≤ 384) (hk : LwK D nm i a1 a2 nd2 ad2 kc ks Q) : V D 140 (IL nm) 1217 (lwL D a1 a2 i) [] (mun (MM nd c) (MR nd2 ad2 fi fa)) (kc + 3) (ks + 188) Q := by
  obtain ⟨hL, hR, h, ha, rfl, rfl⟩ := hS
  obtain ⟨r, e, fj, fb, hx, hy, hI⟩ := L_pour hL hR h (sX D (i + 1))
  have s1 : sld D (nI i + 1) = some (sX D (i + 1)) := sld_at (k := 1) (by omega) hN
  refine V_kc (kc2 := kc) (ks2 := ks) (by omega) (by omega) ?_
  refine V_aload_n (pc2 := 1218) dL_law_1217 1 rfl rfl ?_
  refine V_aload_n (pc2 := 1219) dL_law_1218 0 rfl rfl ?_
  refine V_iload_n (pc2 := 1220) dL_law_1219 3 rfl rfl ?_
  refine V_iconst (v := 1) (pc2 := 1221) dL_law_1220 (by decide) ?_
  refine V_iadd (pc2 := 1222) dL_law_1221 ?_
  refine V_sld (pc2 := 1223) s1 dL_law_1222 ?_
  refine V_c7 (pc2 := 1226) [.int (sX D (i + 1))] (st := []) (tX7_pour hx) ha (cls_at hL h) dL_law_1223 wV_ParcelRingLaw_149 (by decide) rfl (Nat.le_of_ble_eq_true rfl) (fun ha1 => ?_)
  refine V_aload_n (pc2 := 1227) dL_law_1226 2 rfl rfl ?_
  refine V_aload_n (pc2 := 1228) dL_law_1227 0 rfl rfl ?_
  refine V_iload_n (pc2 := 1229) dL_law_1228 3 rfl rfl ?_
  refine V_iconst (v := 1) (pc2 := 1230) dL_law_1229 (by decide) ?_
  refine V_iadd (pc2 := 1231) dL_law_1230 ?_
  refine V_sld (pc2 := 1232) s1 dL_law_1231 ?_
  refine V_c8 (pc2 := 1235) [.int (sX D (i + 1))] (st := [.int r]) (tX8_pour hy) ha1 (ref_at hR) dL_law_1232 wV_ParcelRingLaw_152 (by decide) rfl (Nat.le_of_ble_eq_true rfl) (fun ha2 => ?_)
  refine V_icmp_eq (pc2 := 1238) (tgt := 1563) dL_law_1235 (fun _ => ?_) (fun z => absurd rfl z)
  exact hk nT nd ad e fj fb ⟨hL, hR, hI, ha2, rfl, rfl⟩
theorem LW_reads (hS : LwS nT nd nd2 ad ad2 c fi fa a1 a2) (hi : i + 6 ≤ sN D) (hN : sN D ≤ 384) (hk : LwK D nm i a1 a2 nd2 ad2 kc ks Q) : V D 140 (IL nm) 1240 (lwL D a1 a2 i) [] (mun (MM nd c) (MR nd2 ad2 fi fa)) (kc + 3) (ks + 188) Q := by
  obtain ⟨hL, hR, h, ha, rfl, rfl⟩ := hS
  obtain ⟨r, hx, hy⟩ := L_reads hL hR h (sX D (i + 1))
  have s1 : sld D (nI i + 1) = some (sX D (i + 1)) := sld_at (k := 1) (by omega) hN
  refine V_kc (kc2 := kc) (ks2 := ks) (by omega) (by omega) ?_
  refine V_aload_n (pc2 := 1241) dL_law_1240 1 rfl rfl ?_
  refine V_aload_n (pc2 := 1242) dL_law_1241 0 rfl rfl ?_
  refine V_iload_n (pc2 := 1243) dL_law_1242 3 rfl rfl ?_
  refine V_iconst (v := 1) (pc2 := 1244) dL_law_1243 (by decide) ?_
  refine V_iadd (pc2 := 1245) dL_law_1244 ?_
  refine V_sld (pc2 := 1246) s1 dL_law_1245 ?_
  refine V_c7 (pc2 := 1249) [.int (sX D (i + 1))] (st := []) (tX7_reads hx) ha (cls_at hL h) dL_law_1246 wV_ParcelRingLaw_153 (by decide) rfl (Nat.le_of_ble_eq_true rfl) (fun ha1 => ?_)
  refine V_aload_n (pc2 := 1250) dL_law_1249 2 rfl rfl ?_
  refine V_aload_n (pc2 := 1251) dL_law_1250 0 rfl rfl ?_
  refine V_iload_n (pc2 := 1252) dL_law_1251 3 rfl rfl ?_
  refine V_iconst (v := 1) (pc2 := 1253) dL_law_1252 (by decide) ?_
  refine V_iadd (pc2 := 1254) dL_law_1253 ?_
  refine V_sld (pc2 := 1255) s1 dL_law_1254 ?_
  refine V_c8 (pc2 := 1258) [.int (sX D (i + 1))] (st := [.int r]) (tX8_reads hy) ha1 (ref_at hR) dL_law_1255 wV_ParcelRingLaw_156 (by decide) rfl (Nat.le_of_ble_eq_true rfl) (fun ha2 => ?_)
  refine V_icmp_eq (pc2 := 1261) (tgt := 1563) dL_law_1258 (fun _ => ?_) (fun z => absurd rfl z)
  exact hk nT nd ad c fi fa ⟨hL, hR, h, ha2, rfl, rfl⟩
theorem LW_copy (hS : LwS nT nd nd2 ad ad2 c fi fa a1 a2) (hi : i + 6 ≤ sN D) (hN : sN D ≤ 384) (hk : LwK D nm i a1 a2 nd2 ad2 kc ks Q) : V D 140 (IL nm) 1263 (lwL D a1 a2 i) [] (mun (MM nd c) (MR nd2 ad2 fi fa)) (kc + 3) (ks + 188) Q := by
  obtain ⟨hL, hR, h, ha, rfl, rfl⟩ := hS
  obtain ⟨r, e, fj, fb, hx, hy, hI⟩ := L_copy hL hR h (sX D (i + 1)) (sX D (i + 2)) (sX D (i + 3)) (sX D (i + 4)) (sX D (i + 5))
  have s1 : sld D (nI i + 1) = some (sX D (i + 1)) := sld_at (k := 1) (by omega) hN
  have s2 : sld D (nI i + 2) = some (sX D (i + 2)) := sld_at (k := 2) (by omega) hN
  have s3 : sld D (nI i + 3) = some (sX D (i + 3)) := sld_at (k := 3) (by omega) hN
  have s4 : sld D (nI i + 4) = some (sX D (i + 4)) := sld_at (k := 4) (by omega) hN
  have s5 : sld D (nI i + 5) = some (sX D (i + 5)) := sld_at (k := 5) (by omega) hN
  refine V_kc (kc2 := kc) (ks2 := ks) (by omega) (by omega) ?_
  refine V_aload_n (pc2 := 1264) dL_law_1263 1 rfl rfl ?_
  refine V_aload_n (pc2 := 1265) dL_law_1264 0 rfl rfl ?_
  refine V_iload_n (pc2 := 1266) dL_law_1265 3 rfl rfl ?_
  refine V_iconst (v := 1) (pc2 := 1267) dL_law_1266 (by decide) ?_
  refine V_iadd (pc2 := 1268) dL_law_1267 ?_
  refine V_sld (pc2 := 1269) s1 dL_law_1268 ?_
  refine V_aload_n (pc2 := 1270) dL_law_1269 0 rfl rfl ?_
  refine V_iload_n (pc2 := 1271) dL_law_1270 3 rfl rfl ?_
  refine V_iconst (v := 2) (pc2 := 1272) dL_law_1271 (by decide) ?_
  refine V_iadd (pc2 := 1273) dL_law_1272 ?_
  refine V_sld (pc2 := 1274) s2 dL_law_1273 ?_
  refine V_aload_n (pc2 := 1275) dL_law_1274 0 rfl rfl ?_
  refine V_iload_n (pc2 := 1276) dL_law_1275 3 rfl rfl ?_
  refine V_iconst (v := 3) (pc2 := 1277) dL_law_1276 (by decide) ?_
  refine V_iadd (pc2 := 1278) dL_law_1277 ?_
  refine V_sld (pc2 := 1279) s3 dL_law_1278 ?_
  refine V_aload_n (pc2 := 1280) dL_law_1279 0 rfl rfl ?_
  refine V_iload_n (pc2 := 1281) dL_law_1280 3 rfl rfl ?_
  refine V_iconst (v := 4) (pc2 := 1282) dL_law_1281 (by decide) ?_
  refine V_iadd (pc2 := 1283) dL_law_1282 ?_
  refine V_sld (pc2 := 1284) s4 dL_law_1283 ?_
  refine V_aload_n (pc2 := 1285) dL_law_1284 0 rfl rfl ?_
  refine V_iload_n (pc2 := 1286) dL_law_1285 3 rfl rfl ?_
  refine V_iconst (v := 5) (pc2 := 1287) dL_law_1286 (by decide) ?_
  refine V_iadd (pc2 := 1288) dL_law_1287 ?_
  refine V_sld (pc2 := 1289) s5 dL_law_1288 ?_
  refine V_c7 (pc2 := 1292) [.int (sX D (i + 1)), .int (sX D (i + 2)), .int (sX D (i + 3)), .int (sX D (i + 4)), .int (sX D (i + 5))] (st := []) (tX7_copy hx) ha (cls_at hL h) dL_law_1289 wV_ParcelRingLaw_157 (by decide) rfl (Nat.le_of_ble_eq_true rfl) (fun ha1 => ?_)
  refine V_aload_n (pc2 := 1293) dL_law_1292 2 rfl rfl ?_
  refine V_aload_n (pc2 := 1294) dL_law_1293 0 rfl rfl ?_
  refine V_iload_n (pc2 := 1295) dL_law_1294 3 rfl rfl ?_
  refine V_iconst (v := 1) (pc2 := 1296) dL_law_1295 (by decide) ?_
  refine V_iadd (pc2 := 1297) dL_law_1296 ?_
  refine V_sld (pc2 := 1298) s1 dL_law_1297 ?_
  refine V_aload_n (pc2 := 1299) dL_law_1298 0 rfl rfl ?_
  refine V_iload_n (pc2 := 1300) dL_law_1299 3 rfl rfl ?_
  refine V_iconst (v := 2) (pc2 := 1301) dL_law_1300 (by decide) ?_
  refine V_iadd (pc2 := 1302) dL_law_1301 ?_
  refine V_sld (pc2 := 1303) s2 dL_law_1302 ?_
  refine V_aload_n (pc2 := 1304) dL_law_1303 0 rfl rfl ?_
  refine V_iload_n (pc2 := 1305) dL_law_1304 3 rfl rfl ?_
  refine V_iconst (v := 3) (pc2 := 1306) dL_law_1305 (by decide) ?_
  refine V_iadd (pc2 := 1307) dL_law_1306 ?_
  refine V_sld (pc2 := 1308) s3 dL_law_1307 ?_
  refine V_aload_n (pc2 := 1309) dL_law_1308 0 rfl rfl ?_
  refine V_iload_n (pc2 := 1310) dL_law_1309 3 rfl rfl ?_
  refine V_iconst (v := 4) (pc2 := 1311) dL_law_1310 (by decide) ?_
  refine V_iadd (pc2 := 1312) dL_law_1311 ?_
  refine V_sld (pc2 := 1313) s4 dL_law_1312 ?_
  refine V_aload_n (pc2 := 1314) dL_law_1313 0 rfl rfl ?_
  refine V_iload_n (pc2 := 1315) dL_law_1314 3 rfl rfl ?_
  refine V_iconst (v := 5) (pc2 := 1316) dL_law_1315 (by decide) ?_
  refine V_iadd (pc2 := 1317) dL_law_1316 ?_
  refine V_sld (pc2 := 1318) s5 dL_law_1317 ?_
  refine V_c8 (pc2 := 1321) [.int (sX D (i + 1)), .int (sX D (i + 2)), .int (sX D (i + 3)), .int (sX D (i + 4)), .int (sX D (i + 5))] (st := [.int r]) (tX8_copy hy) ha1 (ref_at hR) dL_law_1318 wV_ParcelRingLaw_161 (by decide) rfl (Nat.le_of_ble_eq_true rfl) (fun ha2 => ?_)
  refine V_icmp_eq (pc2 := 1324) (tgt := 1563) dL_law_1321 (fun _ => ?_) (fun z => absurd rfl z)
  exact hk nT nd ad e fj fb ⟨hL, hR, hI, ha2, rfl, rfl⟩
theorem LW_lay (hS : LwS nT nd nd2 ad ad2 c fi fa a1 a2) (hi : i + 6 ≤ sN D) (hN : sN D ≤ 384) (hk : LwK D nm i a1 a2 nd2 ad2 kc ks Q) : V D 140 (IL nm) 1326 (lwL D a1 a2 i) [] (mun (MM nd c) (MR nd2 ad2 fi fa)) (kc + 3) (ks + 188) Q := by
  obtain ⟨hL, hR, h, ha, rfl, rfl⟩ := hS
  obtain ⟨r, e, fj, fb, hx, hy, hI⟩ := L_lay hL hR h (sX D (i + 1)) (sX D (i + 2)) (sX D (i + 3))
  have s1 : sld D (nI i + 1) = some (sX D (i + 1)) := sld_at (k := 1) (by omega) hN
  have s2 : sld D (nI i + 2) = some (sX D (i + 2)) := sld_at (k := 2) (by omega) hN
  have s3 : sld D (nI i + 3) = some (sX D (i + 3)) := sld_at (k := 3) (by omega) hN
  refine V_kc (kc2 := kc) (ks2 := ks) (by omega) (by omega) ?_
  refine V_aload_n (pc2 := 1327) dL_law_1326 1 rfl rfl ?_
  refine V_aload_n (pc2 := 1328) dL_law_1327 0 rfl rfl ?_
  refine V_iload_n (pc2 := 1329) dL_law_1328 3 rfl rfl ?_
  refine V_iconst (v := 1) (pc2 := 1330) dL_law_1329 (by decide) ?_
  refine V_iadd (pc2 := 1331) dL_law_1330 ?_
  refine V_sld (pc2 := 1332) s1 dL_law_1331 ?_
  refine V_aload_n (pc2 := 1333) dL_law_1332 0 rfl rfl ?_
  refine V_iload_n (pc2 := 1334) dL_law_1333 3 rfl rfl ?_
  refine V_iconst (v := 2) (pc2 := 1335) dL_law_1334 (by decide) ?_
  refine V_iadd (pc2 := 1336) dL_law_1335 ?_
  refine V_sld (pc2 := 1337) s2 dL_law_1336 ?_
  refine V_aload_n (pc2 := 1338) dL_law_1337 0 rfl rfl ?_
  refine V_iload_n (pc2 := 1339) dL_law_1338 3 rfl rfl ?_
  refine V_iconst (v := 3) (pc2 := 1340) dL_law_1339 (by decide) ?_
  refine V_iadd (pc2 := 1341) dL_law_1340 ?_
  refine V_sld (pc2 := 1342) s3 dL_law_1341 ?_
  refine V_c7 (pc2 := 1345) [.int (sX D (i + 1)), .int (sX D (i + 2)), .int (sX D (i + 3))] (st := []) (tX7_lay hx) ha (cls_at hL h) dL_law_1342 wV_ParcelRingLaw_162 (by decide) rfl (Nat.le_of_ble_eq_true rfl) (fun ha1 => ?_)
  refine V_aload_n (pc2 := 1346) dL_law_1345 2 rfl rfl ?_
  refine V_aload_n (pc2 := 1347) dL_law_1346 0 rfl rfl ?_
  refine V_iload_n (pc2 := 1348) dL_law_1347 3 rfl rfl ?_
  refine V_iconst (v := 1) (pc2 := 1349) dL_law_1348 (by decide) ?_
  refine V_iadd (pc2 := 1350) dL_law_1349 ?_
  refine V_sld (pc2 := 1351) s1 dL_law_1350 ?_
  refine V_aload_n (pc2 := 1352) dL_law_1351 0 rfl rfl ?_
  refine V_iload_n (pc2 := 1353) dL_law_1352 3 rfl rfl ?_
  refine V_iconst (v := 2) (pc2 := 1354) dL_law_1353 (by decide) ?_
  refine V_iadd (pc2 := 1355) dL_law_1354 ?_
  refine V_sld (pc2 := 1356) s2 dL_law_1355 ?_
  refine V_aload_n (pc2 := 1357) dL_law_1356 0 rfl rfl ?_
  refine V_iload_n (pc2 := 1358) dL_law_1357 3 rfl rfl ?_
  refine V_iconst (v := 3) (pc2 := 1359) dL_law_1358 (by decide) ?_
  refine V_iadd (pc2 := 1360) dL_law_1359 ?_
  refine V_sld (pc2 := 1361) s3 dL_law_1360 ?_
  refine V_c8 (pc2 := 1364) [.int (sX D (i + 1)), .int (sX D (i + 2)), .int (sX D (i + 3))] (st := [.int r]) (tX8_lay hy) ha1 (ref_at hR) dL_law_1361 wV_ParcelRingLaw_165 (by decide) rfl (Nat.le_of_ble_eq_true rfl) (fun ha2 => ?_)
  refine V_icmp_eq (pc2 := 1367) (tgt := 1563) dL_law_1364 (fun _ => ?_) (fun z => absurd rfl z)
  exact hk nT nd ad e fj fb ⟨hL, hR, hI, ha2, rfl, rfl⟩
theorem LW_ask (hS : LwS nT nd nd2 ad ad2 c fi fa a1 a2) (hi : i + 6 ≤ sN D) (hN : sN D ≤ 384) (hk : LwK D nm i a1 a2 nd2 ad2 kc ks Q) : V D 140 (IL nm) 1369 (lwL D a1 a2 i) [] (mun (MM nd c) (MR nd2 ad2 fi fa)) (kc + 3) (ks + 188) Q := by
  obtain ⟨hL, hR, h, ha, rfl, rfl⟩ := hS
  obtain ⟨r, hx, hy⟩ := L_ask hL hR h (sX D (i + 1)) (sX D (i + 2))
  have s1 : sld D (nI i + 1) = some (sX D (i + 1)) := sld_at (k := 1) (by omega) hN
  have s2 : sld D (nI i + 2) = some (sX D (i + 2)) := sld_at (k := 2) (by omega) hN
  refine V_kc (kc2 := kc) (ks2 := ks) (by omega) (by omega) ?_
  refine V_aload_n (pc2 := 1370) dL_law_1369 1 rfl rfl ?_
  refine V_aload_n (pc2 := 1371) dL_law_1370 0 rfl rfl ?_
  refine V_iload_n (pc2 := 1372) dL_law_1371 3 rfl rfl ?_
  refine V_iconst (v := 1) (pc2 := 1373) dL_law_1372 (by decide) ?_
  refine V_iadd (pc2 := 1374) dL_law_1373 ?_
  refine V_sld (pc2 := 1375) s1 dL_law_1374 ?_
  refine V_aload_n (pc2 := 1376) dL_law_1375 0 rfl rfl ?_
  refine V_iload_n (pc2 := 1377) dL_law_1376 3 rfl rfl ?_
  refine V_iconst (v := 2) (pc2 := 1378) dL_law_1377 (by decide) ?_
  refine V_iadd (pc2 := 1379) dL_law_1378 ?_
  refine V_sld (pc2 := 1380) s2 dL_law_1379 ?_
  refine V_c7 (pc2 := 1383) [.int (sX D (i + 1)), .int (sX D (i + 2))] (st := []) (tX7_ask hx) ha (cls_at hL h) dL_law_1380 wV_ParcelRingLaw_166 (by decide) rfl (Nat.le_of_ble_eq_true rfl) (fun ha1 => ?_)
  refine V_aload_n (pc2 := 1384) dL_law_1383 2 rfl rfl ?_
  refine V_aload_n (pc2 := 1385) dL_law_1384 0 rfl rfl ?_
  refine V_iload_n (pc2 := 1386) dL_law_1385 3 rfl rfl ?_
  refine V_iconst (v := 1) (pc2 := 1387) dL_law_1386 (by decide) ?_
  refine V_iadd (pc2 := 1388) dL_law_1387 ?_
  refine V_sld (pc2 := 1389) s1 dL_law_1388 ?_
  refine V_aload_n (pc2 := 1390) dL_law_1389 0 rfl rfl ?_
  refine V_iload_n (pc2 := 1391) dL_law_1390 3 rfl rfl ?_
  refine V_iconst (v := 2) (pc2 := 1392) dL_law_1391 (by decide) ?_
  refine V_iadd (pc2 := 1393) dL_law_1392 ?_
  refine V_sld (pc2 := 1394) s2 dL_law_1393 ?_
  refine V_c8 (pc2 := 1397) [.int (sX D (i + 1)), .int (sX D (i + 2))] (st := [.int r]) (tX8_ask hy) ha1 (ref_at hR) dL_law_1394 wV_ParcelRingLaw_169 (by decide) rfl (Nat.le_of_ble_eq_true rfl) (fun ha2 => ?_)
  refine V_icmp_eq (pc2 := 1400) (tgt := 1563) dL_law_1397 (fun _ => ?_) (fun z => absurd rfl z)
  exact hk nT nd ad c fi fa ⟨hL, hR, h, ha2, rfl, rfl⟩
theorem LW_item (hS : LwS nT nd nd2 ad ad2 c fi fa a1 a2) (hi : i + 6 ≤ sN D) (hN : sN D ≤ 384) (hk : LwK D nm i a1 a2 nd2 ad2 kc ks Q) : V D 140 (IL nm) 1402 (lwL D a1 a2 i) [] (mun (MM nd c) (MR nd2 ad2 fi fa)) (kc + 3) (ks + 188) Q := by
  obtain ⟨hL, hR, h, ha, rfl, rfl⟩ := hS
  obtain ⟨r, hx, hy⟩ := L_item hL hR h (sX D (i + 1)) (sX D (i + 2))
  have s1 : sld D (nI i + 1) = some (sX D (i + 1)) := sld_at (k := 1) (by omega) hN
  have s2 : sld D (nI i + 2) = some (sX D (i + 2)) := sld_at (k := 2) (by omega) hN
  refine V_kc (kc2 := kc) (ks2 := ks) (by omega) (by omega) ?_
  refine V_aload_n (pc2 := 1403) dL_law_1402 1 rfl rfl ?_
  refine V_aload_n (pc2 := 1404) dL_law_1403 0 rfl rfl ?_
  refine V_iload_n (pc2 := 1405) dL_law_1404 3 rfl rfl ?_
  refine V_iconst (v := 1) (pc2 := 1406) dL_law_1405 (by decide) ?_
  refine V_iadd (pc2 := 1407) dL_law_1406 ?_
  refine V_sld (pc2 := 1408) s1 dL_law_1407 ?_
  refine V_aload_n (pc2 := 1409) dL_law_1408 0 rfl rfl ?_
  refine V_iload_n (pc2 := 1410) dL_law_1409 3 rfl rfl ?_
  refine V_iconst (v := 2) (pc2 := 1411) dL_law_1410 (by decide) ?_
  refine V_iadd (pc2 := 1412) dL_law_1411 ?_
  refine V_sld (pc2 := 1413) s2 dL_law_1412 ?_
  refine V_c7 (pc2 := 1416) [.int (sX D (i + 1)), .int (sX D (i + 2))] (st := []) (tX7_item hx) ha (cls_at hL h) dL_law_1413 wV_ParcelRingLaw_170 (by decide) rfl (Nat.le_of_ble_eq_true rfl) (fun ha1 => ?_)
  refine V_aload_n (pc2 := 1417) dL_law_1416 2 rfl rfl ?_
  refine V_aload_n (pc2 := 1418) dL_law_1417 0 rfl rfl ?_
  refine V_iload_n (pc2 := 1419) dL_law_1418 3 rfl rfl ?_
  refine V_iconst (v := 1) (pc2 := 1420) dL_law_1419 (by decide) ?_
  refine V_iadd (pc2 := 1421) dL_law_1420 ?_
  refine V_sld (pc2 := 1422) s1 dL_law_1421 ?_
  refine V_aload_n (pc2 := 1423) dL_law_1422 0 rfl rfl ?_
  refine V_iload_n (pc2 := 1424) dL_law_1423 3 rfl rfl ?_
  refine V_iconst (v := 2) (pc2 := 1425) dL_law_1424 (by decide) ?_
  refine V_iadd (pc2 := 1426) dL_law_1425 ?_
  refine V_sld (pc2 := 1427) s2 dL_law_1426 ?_
  refine V_c8 (pc2 := 1430) [.int (sX D (i + 1)), .int (sX D (i + 2))] (st := [.int r]) (tX8_item hy) ha1 (ref_at hR) dL_law_1427 wV_ParcelRingLaw_173 (by decide) rfl (Nat.le_of_ble_eq_true rfl) (fun ha2 => ?_)
  refine V_icmp_eq (pc2 := 1433) (tgt := 1563) dL_law_1430 (fun _ => ?_) (fun z => absurd rfl z)
  exact hk nT nd ad c fi fa ⟨hL, hR, h, ha2, rfl, rfl⟩
theorem LW_rest (hS : LwS nT nd nd2 ad ad2 c fi fa a1 a2) (hi : i + 6 ≤ sN D) (hN : sN D ≤ 384) (hk : LwK D nm i a1 a2 nd2 ad2 kc ks Q) : V D 140 (IL nm) 1435 (lwL D a1 a2 i) [] (mun (MM nd c) (MR nd2 ad2 fi fa)) (kc + 3) (ks + 188) Q := by
  obtain ⟨hL, hR, h, ha, rfl, rfl⟩ := hS
  obtain ⟨r, hx, hy⟩ := L_rest hL hR h (sX D (i + 1)) (sX D (i + 2))
  have s1 : sld D (nI i + 1) = some (sX D (i + 1)) := sld_at (k := 1) (by omega) hN
  have s2 : sld D (nI i + 2) = some (sX D (i + 2)) := sld_at (k := 2) (by omega) hN
  refine V_kc (kc2 := kc) (ks2 := ks) (by omega) (by omega) ?_
  refine V_aload_n (pc2 := 1436) dL_law_1435 1 rfl rfl ?_
  refine V_aload_n (pc2 := 1437) dL_law_1436 0 rfl rfl ?_
  refine V_iload_n (pc2 := 1438) dL_law_1437 3 rfl rfl ?_
  refine V_iconst (v := 1) (pc2 := 1439) dL_law_1438 (by decide) ?_
  refine V_iadd (pc2 := 1440) dL_law_1439 ?_
  refine V_sld (pc2 := 1441) s1 dL_law_1440 ?_
  refine V_aload_n (pc2 := 1442) dL_law_1441 0 rfl rfl ?_
  refine V_iload_n (pc2 := 1443) dL_law_1442 3 rfl rfl ?_
  refine V_iconst (v := 2) (pc2 := 1444) dL_law_1443 (by decide) ?_
  refine V_iadd (pc2 := 1445) dL_law_1444 ?_
  refine V_sld (pc2 := 1446) s2 dL_law_1445 ?_
  refine V_c7 (pc2 := 1449) [.int (sX D (i + 1)), .int (sX D (i + 2))] (st := []) (tX7_rest hx) ha (cls_at hL h) dL_law_1446 wV_ParcelRingLaw_174 (by decide) rfl (Nat.le_of_ble_eq_true rfl) (fun ha1 => ?_)
  refine V_aload_n (pc2 := 1450) dL_law_1449 2 rfl rfl ?_
  refine V_aload_n (pc2 := 1451) dL_law_1450 0 rfl rfl ?_
  refine V_iload_n (pc2 := 1452) dL_law_1451 3 rfl rfl ?_
  refine V_iconst (v := 1) (pc2 := 1453) dL_law_1452 (by decide) ?_
  refine V_iadd (pc2 := 1454) dL_law_1453 ?_
  refine V_sld (pc2 := 1455) s1 dL_law_1454 ?_
  refine V_aload_n (pc2 := 1456) dL_law_1455 0 rfl rfl ?_
  refine V_iload_n (pc2 := 1457) dL_law_1456 3 rfl rfl ?_
  refine V_iconst (v := 2) (pc2 := 1458) dL_law_1457 (by decide) ?_
  refine V_iadd (pc2 := 1459) dL_law_1458 ?_
  refine V_sld (pc2 := 1460) s2 dL_law_1459 ?_
  refine V_c8 (pc2 := 1463) [.int (sX D (i + 1)), .int (sX D (i + 2))] (st := [.int r]) (tX8_rest hy) ha1 (ref_at hR) dL_law_1460 wV_ParcelRingLaw_177 (by decide) rfl (Nat.le_of_ble_eq_true rfl) (fun ha2 => ?_)
  refine V_icmp_eq (pc2 := 1466) (tgt := 1563) dL_law_1463 (fun _ => ?_) (fun z => absurd rfl z)
  exact hk nT nd ad c fi fa ⟨hL, hR, h, ha2, rfl, rfl⟩
theorem LW_tell (hS : LwS nT nd nd2 ad ad2 c fi fa a1 a2) (hi : i + 6 ≤ sN D) (hN : sN D ≤ 384) (hk : LwK D nm i a1 a2 nd2 ad2 kc ks Q) : V D 140 (IL nm) 1468 (lwL D a1 a2 i) [] (mun (MM nd c) (MR nd2 ad2 fi fa)) (kc + 3) (ks + 188) Q := by
  obtain ⟨hL, hR, h, ha, rfl, rfl⟩ := hS
  obtain ⟨r, e, fj, fb, hx, hy, hI⟩ := L_tell hL hR h (sX D (i + 1))
  have s1 : sld D (nI i + 1) = some (sX D (i + 1)) := sld_at (k := 1) (by omega) hN
  refine V_kc (kc2 := kc) (ks2 := ks) (by omega) (by omega) ?_
  refine V_aload_n (pc2 := 1469) dL_law_1468 1 rfl rfl ?_
  refine V_aload_n (pc2 := 1470) dL_law_1469 0 rfl rfl ?_
  refine V_iload_n (pc2 := 1471) dL_law_1470 3 rfl rfl ?_
  refine V_iconst (v := 1) (pc2 := 1472) dL_law_1471 (by decide) ?_
  refine V_iadd (pc2 := 1473) dL_law_1472 ?_
  refine V_sld (pc2 := 1474) s1 dL_law_1473 ?_
  refine V_c7 (pc2 := 1477) [.int (sX D (i + 1))] (st := []) (tX7_tell hx) ha (cls_at hL h) dL_law_1474 wV_ParcelRingLaw_178 (by decide) rfl (Nat.le_of_ble_eq_true rfl) (fun ha1 => ?_)
  refine V_aload_n (pc2 := 1478) dL_law_1477 2 rfl rfl ?_
  refine V_aload_n (pc2 := 1479) dL_law_1478 0 rfl rfl ?_
  refine V_iload_n (pc2 := 1480) dL_law_1479 3 rfl rfl ?_
  refine V_iconst (v := 1) (pc2 := 1481) dL_law_1480 (by decide) ?_
  refine V_iadd (pc2 := 1482) dL_law_1481 ?_
  refine V_sld (pc2 := 1483) s1 dL_law_1482 ?_
  refine V_c8 (pc2 := 1486) [.int (sX D (i + 1))] (st := [.int r]) (tX8_tell hy) ha1 (ref_at hR) dL_law_1483 wV_ParcelRingLaw_181 (by decide) rfl (Nat.le_of_ble_eq_true rfl) (fun ha2 => ?_)
  refine V_icmp_eq (pc2 := 1489) (tgt := 1563) dL_law_1486 (fun _ => ?_) (fun z => absurd rfl z)
  exact hk nT nd ad e fj fb ⟨hL, hR, hI, ha2, rfl, rfl⟩
theorem LW_check (hS : LwS nT nd nd2 ad ad2 c fi fa a1 a2) (hi : i + 6 ≤ sN D) (hN : sN D ≤ 384) (hk : LwK D nm i a1 a2 nd2 ad2 kc ks Q) : V D 140 (IL nm) 1491 (lwL D a1 a2 i) [] (mun (MM nd c) (MR nd2 ad2 fi fa)) (kc + 3) (ks + 188) Q := by
  obtain ⟨hL, hR, h, ha, rfl, rfl⟩ := hS
  obtain ⟨r, e, fj, fb, hx, hy, hI⟩ := L_check hL hR h (sX D (i + 1))
  have s1 : sld D (nI i + 1) = some (sX D (i + 1)) := sld_at (k := 1) (by omega) hN
  refine V_kc (kc2 := kc) (ks2 := ks) (by omega) (by omega) ?_
  refine V_aload_n (pc2 := 1492) dL_law_1491 1 rfl rfl ?_
  refine V_aload_n (pc2 := 1493) dL_law_1492 0 rfl rfl ?_
  refine V_iload_n (pc2 := 1494) dL_law_1493 3 rfl rfl ?_
  refine V_iconst (v := 1) (pc2 := 1495) dL_law_1494 (by decide) ?_
  refine V_iadd (pc2 := 1496) dL_law_1495 ?_
  refine V_sld (pc2 := 1497) s1 dL_law_1496 ?_
  refine V_c7 (pc2 := 1500) [.int (sX D (i + 1))] (st := []) (tX7_check hx) ha (cls_at hL h) dL_law_1497 wV_ParcelRingLaw_182 (by decide) rfl (Nat.le_of_ble_eq_true rfl) (fun ha1 => ?_)
  refine V_aload_n (pc2 := 1501) dL_law_1500 2 rfl rfl ?_
  refine V_aload_n (pc2 := 1502) dL_law_1501 0 rfl rfl ?_
  refine V_iload_n (pc2 := 1503) dL_law_1502 3 rfl rfl ?_
  refine V_iconst (v := 1) (pc2 := 1504) dL_law_1503 (by decide) ?_
  refine V_iadd (pc2 := 1505) dL_law_1504 ?_
  refine V_sld (pc2 := 1506) s1 dL_law_1505 ?_
  refine V_c8 (pc2 := 1509) [.int (sX D (i + 1))] (st := [.int r]) (tX8_check hy) ha1 (ref_at hR) dL_law_1506 wV_ParcelRingLaw_185 (by decide) rfl (Nat.le_of_ble_eq_true rfl) (fun ha2 => ?_)
  refine V_icmp_eq (pc2 := 1512) (tgt := 1563) dL_law_1509 (fun _ => ?_) (fun z => absurd rfl z)
  exact hk nT nd ad e fj fb ⟨hL, hR, hI, ha2, rfl, rfl⟩
theorem LW_keep (hS : LwS nT nd nd2 ad ad2 c fi fa a1 a2) (hi : i + 6 ≤ sN D) (hN : sN D ≤ 384) (hk : LwK D nm i a1 a2 nd2 ad2 kc ks Q) : V D 140 (IL nm) 1514 (lwL D a1 a2 i) [] (mun (MM nd c) (MR nd2 ad2 fi fa)) (kc + 3) (ks + 188) Q := by
  obtain ⟨hL, hR, h, ha, rfl, rfl⟩ := hS
  obtain ⟨r, e, fj, fb, hx, hy, hI⟩ := L_keep hL hR h 
  refine V_kc (kc2 := kc) (ks2 := ks) (by omega) (by omega) ?_
  refine V_aload_n (pc2 := 1515) dL_law_1514 1 rfl rfl ?_
  refine V_c7 (pc2 := 1518) [] (st := []) (tX7_keep hx) ha (cls_at hL h) dL_law_1515 wV_ParcelRingLaw_186 (by decide) rfl (Nat.le_of_ble_eq_true rfl) (fun ha1 => ?_)
  refine V_aload_n (pc2 := 1519) dL_law_1518 2 rfl rfl ?_
  refine V_c8 (pc2 := 1522) [] (st := [.int r]) (tX8_keep hy) ha1 (ref_at hR) dL_law_1519 wV_ParcelRingLaw_189 (by decide) rfl (Nat.le_of_ble_eq_true rfl) (fun ha2 => ?_)
  refine V_icmp_eq (pc2 := 1525) (tgt := 1563) dL_law_1522 (fun _ => ?_) (fun z => absurd rfl z)
  exact hk nT nd ad e fj fb ⟨hL, hR, hI, ha2, rfl, rfl⟩
theorem LW_back (hS : LwS nT nd nd2 ad ad2 c fi fa a1 a2) (hi : i + 6 ≤ sN D) (hN : sN D ≤ 384) (hk : LwK D nm i a1 a2 nd2 ad2 kc ks Q) : V D 140 (IL nm) 1527 (lwL D a1 a2 i) [] (mun (MM nd c) (MR nd2 ad2 fi fa)) (kc + 3) (ks + 188) Q := by
  obtain ⟨hL, hR, h, ha, rfl, rfl⟩ := hS
  obtain ⟨r, e, fj, fb, hx, hy, hI⟩ := L_back hL hR h 
  refine V_kc (kc2 := kc) (ks2 := ks) (by omega) (by omega) ?_
  refine V_aload_n (pc2 := 1528) dL_law_1527 1 rfl rfl ?_
  refine V_c7 (pc2 := 1531) [] (st := []) (tX7_back hx) ha (cls_at hL h) dL_law_1528 wV_ParcelRingLaw_190 (by decide) rfl (Nat.le_of_ble_eq_true rfl) (fun ha1 => ?_)
  refine V_aload_n (pc2 := 1532) dL_law_1531 2 rfl rfl ?_
  refine V_c8 (pc2 := 1535) [] (st := [.int r]) (tX8_back hy) ha1 (ref_at hR) dL_law_1532 wV_ParcelRingLaw_193 (by decide) rfl (Nat.le_of_ble_eq_true rfl) (fun ha2 => ?_)
  refine V_icmp_eq (pc2 := 1538) (tgt := 1563) dL_law_1535 (fun _ => ?_) (fun z => absurd rfl z)
  exact hk nT nd ad e fj fb ⟨hL, hR, hI, ha2, rfl, rfl⟩
theorem LW_count (hS : LwS nT nd nd2 ad ad2 c fi fa a1 a2) (hi : i + 6 ≤ sN D) (hN : sN D ≤ 384) (hk : LwK D nm i a1 a2 nd2 ad2 kc ks Q) : V D 140 (IL nm) 1540 (lwL D a1 a2 i) [] (mun (MM nd c) (MR nd2 ad2 fi fa)) (kc + 3) (ks + 188) Q := by
  obtain ⟨hL, hR, h, ha, rfl, rfl⟩ := hS
  obtain ⟨r, hx, hy⟩ := L_count hL hR h (sX D (i + 1))
  have s1 : sld D (nI i + 1) = some (sX D (i + 1)) := sld_at (k := 1) (by omega) hN
  refine V_kc (kc2 := kc) (ks2 := ks) (by omega) (by omega) ?_
  refine V_aload_n (pc2 := 1541) dL_law_1540 1 rfl rfl ?_
  refine V_aload_n (pc2 := 1542) dL_law_1541 0 rfl rfl ?_
  refine V_iload_n (pc2 := 1543) dL_law_1542 3 rfl rfl ?_
  refine V_iconst (v := 1) (pc2 := 1544) dL_law_1543 (by decide) ?_
  refine V_iadd (pc2 := 1545) dL_law_1544 ?_
  refine V_sld (pc2 := 1546) s1 dL_law_1545 ?_
  refine V_c7 (pc2 := 1549) [.int (sX D (i + 1))] (st := []) (tX7_count hx) ha (cls_at hL h) dL_law_1546 wV_ParcelRingLaw_194 (by decide) rfl (Nat.le_of_ble_eq_true rfl) (fun ha1 => ?_)
  refine V_aload_n (pc2 := 1550) dL_law_1549 2 rfl rfl ?_
  refine V_aload_n (pc2 := 1551) dL_law_1550 0 rfl rfl ?_
  refine V_iload_n (pc2 := 1552) dL_law_1551 3 rfl rfl ?_
  refine V_iconst (v := 1) (pc2 := 1553) dL_law_1552 (by decide) ?_
  refine V_iadd (pc2 := 1554) dL_law_1553 ?_
  refine V_sld (pc2 := 1555) s1 dL_law_1554 ?_
  refine V_c8 (pc2 := 1558) [.int (sX D (i + 1))] (st := [.int r]) (tX8_count hy) ha1 (ref_at hR) dL_law_1555 wV_ParcelRingLaw_197 (by decide) rfl (Nat.le_of_ble_eq_true rfl) (fun ha2 => ?_)
  refine V_icmp_eq (pc2 := 1561) (tgt := 1563) dL_law_1558 (fun _ => ?_) (fun z => absurd rfl z)
  exact hk nT nd ad c fi fa ⟨hL, hR, h, ha2, rfl, rfl⟩
end LWS
