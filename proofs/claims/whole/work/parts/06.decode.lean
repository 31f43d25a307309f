theorem dX7_within_0 : decode prog_1_method_49_code 0 = .ok (.iload_n 0, 1) := by decide +kernel
theorem dX7_within_1 : decode prog_1_method_49_code 1 = .ok (.iload_n 1, 1) := by decide +kernel
theorem dX7_within_2 : decode prog_1_method_49_code 2 = .ok (.if_icmp .lt 12, 3) := by decide +kernel
theorem dX7_within_5 : decode prog_1_method_49_code 5 = .ok (.iload_n 0, 1) := by decide +kernel
theorem dX7_within_6 : decode prog_1_method_49_code 6 = .ok (.iload_n 2, 1) := by decide +kernel
theorem dX7_within_7 : decode prog_1_method_49_code 7 = .ok (.if_icmp .gt 7, 3) := by decide +kernel
theorem dX7_within_10 : decode prog_1_method_49_code 10 = .ok (.iconst 1, 1) := by decide +kernel
theorem dX7_within_11 : decode prog_1_method_49_code 11 = .ok (.goto 4, 3) := by decide +kernel
theorem dX7_within_14 : decode prog_1_method_49_code 14 = .ok (.iconst 0, 1) := by decide +kernel
theorem dX7_within_15 : decode prog_1_method_49_code 15 = .ok (.ireturn, 1) := by decide +kernel
theorem dX7_child_0 : decode prog_1_method_2_code 0 = .ok (.iload_n 1, 1) := by decide +kernel
theorem dX7_child_1 : decode prog_1_method_2_code 1 = .ok (.iconst 1, 1) := by decide +kernel
theorem dX7_child_2 : decode prog_1_method_2_code 2 = .ok (.bipush 9, 2) := by decide +kernel
theorem dX7_child_4 : decode prog_1_method_2_code 4 = .ok (.invokestatic 47, 3) := by decide +kernel
theorem dX7_child_7 : decode prog_1_method_2_code 7 = .ok (.ifCond .ne 6, 3) := by decide +kernel
theorem dX7_child_10 : decode prog_1_method_2_code 10 = .ok (.ldc 51, 2) := by decide +kernel
theorem dX7_child_12 : decode prog_1_method_2_code 12 = .ok (.ireturn, 1) := by decide +kernel
theorem dX7_child_13 : decode prog_1_method_2_code 13 = .ok (.aload_n 0, 1) := by decide +kernel
theorem dX7_child_14 : decode prog_1_method_2_code 14 = .ok (.getfield 10, 3) := by decide +kernel
theorem dX7_child_17 : decode prog_1_method_2_code 17 = .ok (.getfield 52, 3) := by decide +kernel
theorem dX7_child_20 : decode prog_1_method_2_code 20 = .ok (.bipush 10, 2) := by decide +kernel
theorem dX7_child_22 : decode prog_1_method_2_code 22 = .ok (.if_icmp .lt 6, 3) := by decide +kernel
theorem dX7_child_25 : decode prog_1_method_2_code 25 = .ok (.ldc 56, 2) := by decide +kernel
theorem dX7_child_27 : decode prog_1_method_2_code 27 = .ok (.ireturn, 1) := by decide +kernel
theorem dX7_child_28 : decode prog_1_method_2_code 28 = .ok (.aload_n 0, 1) := by decide +kernel
theorem dX7_child_29 : decode prog_1_method_2_code 29 = .ok (.getfield 10, 3) := by decide +kernel
theorem dX7_child_32 : decode prog_1_method_2_code 32 = .ok (.getfield 57, 3) := by decide +kernel
theorem dX7_child_35 : decode prog_1_method_2_code 35 = .ok (.aload_n 0, 1) := by decide +kernel
theorem dX7_child_36 : decode prog_1_method_2_code 36 = .ok (.getfield 10, 3) := by decide +kernel
theorem dX7_child_39 : decode prog_1_method_2_code 39 = .ok (.getfield 52, 3) := by decide +kernel
theorem dX7_child_42 : decode prog_1_method_2_code 42 = .ok (.aaload, 1) := by decide +kernel
theorem dX7_child_43 : decode prog_1_method_2_code 43 = .ok (.astore_n 2, 1) := by decide +kernel
theorem dX7_child_44 : decode prog_1_method_2_code 44 = .ok (.aload_n 2, 1) := by decide +kernel
theorem dX7_child_45 : decode prog_1_method_2_code 45 = .ok (.iload_n 1, 1) := by decide +kernel
theorem dX7_child_46 : decode prog_1_method_2_code 46 = .ok (.putfield 61, 3) := by decide +kernel
theorem dX7_child_49 : decode prog_1_method_2_code 49 = .ok (.aload_n 2, 1) := by decide +kernel
theorem dX7_child_50 : decode prog_1_method_2_code 50 = .ok (.iconst 0, 1) := by decide +kernel
theorem dX7_child_51 : decode prog_1_method_2_code 51 = .ok (.putfield 66, 3) := by decide +kernel
theorem dX7_child_54 : decode prog_1_method_2_code 54 = .ok (.aload_n 2, 1) := by decide +kernel
theorem dX7_child_55 : decode prog_1_method_2_code 55 = .ok (.iconst 0, 1) := by decide +kernel
theorem dX7_child_56 : decode prog_1_method_2_code 56 = .ok (.putfield 69, 3) := by decide +kernel
theorem dX7_child_59 : decode prog_1_method_2_code 59 = .ok (.aload_n 0, 1) := by decide +kernel
theorem dX7_child_60 : decode prog_1_method_2_code 60 = .ok (.getfield 10, 3) := by decide +kernel
theorem dX7_child_63 : decode prog_1_method_2_code 63 = .ok (.dup, 1) := by decide +kernel
theorem dX7_child_64 : decode prog_1_method_2_code 64 = .ok (.getfield 52, 3) := by decide +kernel
theorem dX7_child_67 : decode prog_1_method_2_code 67 = .ok (.iconst 1, 1) := by decide +kernel
theorem dX7_child_68 : decode prog_1_method_2_code 68 = .ok (.iadd, 1) := by decide +kernel
theorem dX7_child_69 : decode prog_1_method_2_code 69 = .ok (.putfield 52, 3) := by decide +kernel
theorem dX7_child_72 : decode prog_1_method_2_code 72 = .ok (.aload_n 0, 1) := by decide +kernel
theorem dX7_child_73 : decode prog_1_method_2_code 73 = .ok (.getfield 10, 3) := by decide +kernel
theorem dX7_child_76 : decode prog_1_method_2_code 76 = .ok (.getfield 52, 3) := by decide +kernel
theorem dX7_child_79 : decode prog_1_method_2_code 79 = .ok (.iconst 1, 1) := by decide +kernel
theorem dX7_child_80 : decode prog_1_method_2_code 80 = .ok (.isub, 1) := by decide +kernel
theorem dX7_child_81 : decode prog_1_method_2_code 81 = .ok (.ireturn, 1) := by decide +kernel
theorem dX2_lawOf_0 : decode prog_4_method_14_code 0 = .ok (.aload_n 0, 1) := by decide +kernel
theorem dX2_lawOf_1 : decode prog_4_method_14_code 1 = .ok (.getfield 33, 3) := by decide +kernel
theorem dX2_lawOf_4 : decode prog_4_method_14_code 4 = .ok (.iload_n 1, 1) := by decide +kernel
theorem dX2_lawOf_5 : decode prog_4_method_14_code 5 = .ok (.iaload, 1) := by decide +kernel
theorem dX2_lawOf_6 : decode prog_4_method_14_code 6 = .ok (.istore_n 2, 1) := by decide +kernel
theorem dX2_lawOf_7 : decode prog_4_method_14_code 7 = .ok (.iload_n 2, 1) := by decide +kernel
theorem dX2_lawOf_8 : decode prog_4_method_14_code 8 = .ok (.iconst 0, 1) := by decide +kernel
theorem dX2_lawOf_9 : decode prog_4_method_14_code 9 = .ok (.aload_n 0, 1) := by decide +kernel
theorem dX2_lawOf_10 : decode prog_4_method_14_code 10 = .ok (.getfield 70, 3) := by decide +kernel
theorem dX2_lawOf_13 : decode prog_4_method_14_code 13 = .ok (.iconst 1, 1) := by decide +kernel
theorem dX2_lawOf_14 : decode prog_4_method_14_code 14 = .ok (.isub, 1) := by decide +kernel
theorem dX2_lawOf_15 : decode prog_4_method_14_code 15 = .ok (.invokestatic 98, 3) := by decide +kernel
theorem dX2_lawOf_18 : decode prog_4_method_14_code 18 = .ok (.ifCond .eq 12, 3) := by decide +kernel
theorem dX2_lawOf_21 : decode prog_4_method_14_code 21 = .ok (.aload_n 0, 1) := by decide +kernel
theorem dX2_lawOf_22 : decode prog_4_method_14_code 22 = .ok (.getfield 29, 3) := by decide +kernel
theorem dX2_lawOf_25 : decode prog_4_method_14_code 25 = .ok (.iload_n 2, 1) := by decide +kernel
theorem dX2_lawOf_26 : decode prog_4_method_14_code 26 = .ok (.aaload, 1) := by decide +kernel
theorem dX2_lawOf_27 : decode prog_4_method_14_code 27 = .ok (.goto 4, 3) := by decide +kernel
theorem dX2_lawOf_30 : decode prog_4_method_14_code 30 = .ok (.aconst_null, 1) := by decide +kernel
theorem dX2_lawOf_31 : decode prog_4_method_14_code 31 = .ok (.areturn, 1) := by decide +kernel
theorem dX2_sortNow_0 : decode prog_4_method_12_code 0 = .ok (.aload_n 0, 1) := by decide +kernel
theorem dX2_sortNow_1 : decode prog_4_method_12_code 1 = .ok (.getfield 73, 3) := by decide +kernel
theorem dX2_sortNow_4 : decode prog_4_method_12_code 4 = .ok (.iconst 0, 1) := by decide +kernel
theorem dX2_sortNow_5 : decode prog_4_method_12_code 5 = .ok (.aload_n 0, 1) := by decide +kernel
theorem dX2_sortNow_6 : decode prog_4_method_12_code 6 = .ok (.getfield 55, 3) := by decide +kernel
theorem dX2_sortNow_9 : decode prog_4_method_12_code 9 = .ok (.iconst 1, 1) := by decide +kernel
theorem dX2_sortNow_10 : decode prog_4_method_12_code 10 = .ok (.isub, 1) := by decide +kernel
theorem dX2_sortNow_11 : decode prog_4_method_12_code 11 = .ok (.invokestatic 98, 3) := by decide +kernel
theorem dX2_sortNow_14 : decode prog_4_method_12_code 14 = .ok (.ifCond .eq 15, 3) := by decide +kernel
theorem dX2_sortNow_17 : decode prog_4_method_12_code 17 = .ok (.aload_n 0, 1) := by decide +kernel
theorem dX2_sortNow_18 : decode prog_4_method_12_code 18 = .ok (.getfield 17, 3) := by decide +kernel
theorem dX2_sortNow_21 : decode prog_4_method_12_code 21 = .ok (.aload_n 0, 1) := by decide +kernel
theorem dX2_sortNow_22 : decode prog_4_method_12_code 22 = .ok (.getfield 73, 3) := by decide +kernel
theorem dX2_sortNow_25 : decode prog_4_method_12_code 25 = .ok (.iaload, 1) := by decide +kernel
theorem dX2_sortNow_26 : decode prog_4_method_12_code 26 = .ok (.goto 4, 3) := by decide +kernel
theorem dX2_sortNow_29 : decode prog_4_method_12_code 29 = .ok (.iconst 0, 1) := by decide +kernel
theorem dX2_sortNow_30 : decode prog_4_method_12_code 30 = .ok (.ireturn, 1) := by decide +kernel
theorem dX6_joined_0 : decode prog_8_method_3_code 0 = .ok (.iload_n 0, 1) := by decide +kernel
theorem dX6_joined_1 : decode prog_8_method_3_code 1 = .ok (.lookupswitch 148 #[(38, 89), (42, 144), (43, 136), (45, 140), (60, 103), (61, 114), (62, 125), (124, 75)], 75) := by decide +kernel
theorem dX6_joined_76 : decode prog_8_method_3_code 76 = .ok (.iload_n 1, 1) := by decide +kernel
theorem dX6_joined_77 : decode prog_8_method_3_code 77 = .ok (.ifCond .ne 7, 3) := by decide +kernel
theorem dX6_joined_80 : decode prog_8_method_3_code 80 = .ok (.iload_n 2, 1) := by decide +kernel
theorem dX6_joined_81 : decode prog_8_method_3_code 81 = .ok (.ifCond .eq 7, 3) := by decide +kernel
theorem dX6_joined_84 : decode prog_8_method_3_code 84 = .ok (.iconst 1, 1) := by decide +kernel
theorem dX6_joined_85 : decode prog_8_method_3_code 85 = .ok (.goto 4, 3) := by decide +kernel
theorem dX6_joined_88 : decode prog_8_method_3_code 88 = .ok (.iconst 0, 1) := by decide +kernel
theorem dX6_joined_89 : decode prog_8_method_3_code 89 = .ok (.ireturn, 1) := by decide +kernel
theorem dX6_joined_90 : decode prog_8_method_3_code 90 = .ok (.iload_n 1, 1) := by decide +kernel
theorem dX6_joined_91 : decode prog_8_method_3_code 91 = .ok (.ifCond .eq 11, 3) := by decide +kernel
theorem dX6_joined_94 : decode prog_8_method_3_code 94 = .ok (.iload_n 2, 1) := by decide +kernel
theorem dX6_joined_95 : decode prog_8_method_3_code 95 = .ok (.ifCond .eq 7, 3) := by decide +kernel
theorem dX6_joined_98 : decode prog_8_method_3_code 98 = .ok (.iconst 1, 1) := by decide +kernel
theorem dX6_joined_99 : decode prog_8_method_3_code 99 = .ok (.goto 4, 3) := by decide +kernel
theorem dX6_joined_102 : decode prog_8_method_3_code 102 = .ok (.iconst 0, 1) := by decide +kernel
theorem dX6_joined_103 : decode prog_8_method_3_code 103 = .ok (.ireturn, 1) := by decide +kernel
theorem dX6_joined_104 : decode prog_8_method_3_code 104 = .ok (.iload_n 1, 1) := by decide +kernel
theorem dX6_joined_105 : decode prog_8_method_3_code 105 = .ok (.iload_n 2, 1) := by decide +kernel
theorem dX6_joined_106 : decode prog_8_method_3_code 106 = .ok (.if_icmp .ge 7, 3) := by decide +kernel
theorem dX6_joined_109 : decode prog_8_method_3_code 109 = .ok (.iconst 1, 1) := by decide +kernel
theorem dX6_joined_110 : decode prog_8_method_3_code 110 = .ok (.goto 4, 3) := by decide +kernel
theorem dX6_joined_113 : decode prog_8_method_3_code 113 = .ok (.iconst 0, 1) := by decide +kernel
theorem dX6_joined_114 : decode prog_8_method_3_code 114 = .ok (.ireturn, 1) := by decide +kernel
theorem dX6_joined_115 : decode prog_8_method_3_code 115 = .ok (.iload_n 1, 1) := by decide +kernel
theorem dX6_joined_116 : decode prog_8_method_3_code 116 = .ok (.iload_n 2, 1) := by decide +kernel
theorem dX6_joined_117 : decode prog_8_method_3_code 117 = .ok (.if_icmp .ne 7, 3) := by decide +kernel
theorem dX6_joined_120 : decode prog_8_method_3_code 120 = .ok (.iconst 1, 1) := by decide +kernel
theorem dX6_joined_121 : decode prog_8_method_3_code 121 = .ok (.goto 4, 3) := by decide +kernel
theorem dX6_joined_124 : decode prog_8_method_3_code 124 = .ok (.iconst 0, 1) := by decide +kernel
theorem dX6_joined_125 : decode prog_8_method_3_code 125 = .ok (.ireturn, 1) := by decide +kernel
theorem dX6_joined_126 : decode prog_8_method_3_code 126 = .ok (.iload_n 1, 1) := by decide +kernel
theorem dX6_joined_127 : decode prog_8_method_3_code 127 = .ok (.iload_n 2, 1) := by decide +kernel
theorem dX6_joined_128 : decode prog_8_method_3_code 128 = .ok (.if_icmp .le 7, 3) := by decide +kernel
theorem dX6_joined_131 : decode prog_8_method_3_code 131 = .ok (.iconst 1, 1) := by decide +kernel
theorem dX6_joined_132 : decode prog_8_method_3_code 132 = .ok (.goto 4, 3) := by decide +kernel
theorem dX6_joined_135 : decode prog_8_method_3_code 135 = .ok (.iconst 0, 1) := by decide +kernel
theorem dX6_joined_136 : decode prog_8_method_3_code 136 = .ok (.ireturn, 1) := by decide +kernel
theorem dX6_joined_137 : decode prog_8_method_3_code 137 = .ok (.iload_n 1, 1) := by decide +kernel
theorem dX6_joined_138 : decode prog_8_method_3_code 138 = .ok (.iload_n 2, 1) := by decide +kernel
theorem dX6_joined_139 : decode prog_8_method_3_code 139 = .ok (.iadd, 1) := by decide +kernel
theorem dX6_joined_140 : decode prog_8_method_3_code 140 = .ok (.ireturn, 1) := by decide +kernel
theorem dX6_joined_141 : decode prog_8_method_3_code 141 = .ok (.iload_n 1, 1) := by decide +kernel
theorem dX6_joined_142 : decode prog_8_method_3_code 142 = .ok (.iload_n 2, 1) := by decide +kernel
theorem dX6_joined_143 : decode prog_8_method_3_code 143 = .ok (.isub, 1) := by decide +kernel
theorem dX6_joined_144 : decode prog_8_method_3_code 144 = .ok (.ireturn, 1) := by decide +kernel
theorem dX6_joined_145 : decode prog_8_method_3_code 145 = .ok (.iload_n 1, 1) := by decide +kernel
theorem dX6_joined_146 : decode prog_8_method_3_code 146 = .ok (.iload_n 2, 1) := by decide +kernel
theorem dX6_joined_147 : decode prog_8_method_3_code 147 = .ok (.imul, 1) := by decide +kernel
theorem dX6_joined_148 : decode prog_8_method_3_code 148 = .ok (.ireturn, 1) := by decide +kernel
theorem dX6_joined_149 : decode prog_8_method_3_code 149 = .ok (.iload_n 2, 1) := by decide +kernel
theorem dX6_joined_150 : decode prog_8_method_3_code 150 = .ok (.ifCond .ne 7, 3) := by decide +kernel
theorem dX6_joined_153 : decode prog_8_method_3_code 153 = .ok (.iconst 0, 1) := by decide +kernel
theorem dX6_joined_154 : decode prog_8_method_3_code 154 = .ok (.goto 6, 3) := by decide +kernel
theorem dX6_joined_157 : decode prog_8_method_3_code 157 = .ok (.iload_n 1, 1) := by decide +kernel
theorem dX6_joined_158 : decode prog_8_method_3_code 158 = .ok (.iload_n 2, 1) := by decide +kernel
theorem dX6_joined_159 : decode prog_8_method_3_code 159 = .ok (.idiv, 1) := by decide +kernel
theorem dX6_joined_160 : decode prog_8_method_3_code 160 = .ok (.ireturn, 1) := by decide +kernel
theorem dX6_value_0 : decode prog_8_method_2_code 0 = .ok (.iconst (-1), 1) := by decide +kernel
theorem dX6_value_1 : decode prog_8_method_2_code 1 = .ok (.istore 4, 2) := by decide +kernel
theorem dX6_value_3 : decode prog_8_method_2_code 3 = .ok (.iconst 0, 1) := by decide +kernel
theorem dX6_value_4 : decode prog_8_method_2_code 4 = .ok (.istore 5, 2) := by decide +kernel
theorem dX6_value_6 : decode prog_8_method_2_code 6 = .ok (.iload 5, 2) := by decide +kernel
theorem dX6_value_8 : decode prog_8_method_2_code 8 = .ok (.aload_n 0, 1) := by decide +kernel
theorem dX6_value_9 : decode prog_8_method_2_code 9 = .ok (.getfield 16, 3) := by decide +kernel
theorem dX6_value_12 : decode prog_8_method_2_code 12 = .ok (.arraylength, 1) := by decide +kernel
theorem dX6_value_13 : decode prog_8_method_2_code 13 = .ok (.if_icmp .ge 161, 3) := by decide +kernel
theorem dX6_value_16 : decode prog_8_method_2_code 16 = .ok (.aload_n 0, 1) := by decide +kernel
theorem dX6_value_17 : decode prog_8_method_2_code 17 = .ok (.getfield 16, 3) := by decide +kernel
theorem dX6_value_20 : decode prog_8_method_2_code 20 = .ok (.iload 5, 2) := by decide +kernel
theorem dX6_value_22 : decode prog_8_method_2_code 22 = .ok (.iaload, 1) := by decide +kernel
theorem dX6_value_23 : decode prog_8_method_2_code 23 = .ok (.istore 6, 2) := by decide +kernel
theorem dX6_value_25 : decode prog_8_method_2_code 25 = .ok (.iload 6, 2) := by decide +kernel
theorem dX6_value_27 : decode prog_8_method_2_code 27 = .ok (.ifCond .lt 66, 3) := by decide +kernel
theorem dX6_value_30 : decode prog_8_method_2_code 30 = .ok (.iload 4, 2) := by decide +kernel
theorem dX6_value_32 : decode prog_8_method_2_code 32 = .ok (.iconst 1, 1) := by decide +kernel
theorem dX6_value_33 : decode prog_8_method_2_code 33 = .ok (.iadd, 1) := by decide +kernel
theorem dX6_value_34 : decode prog_8_method_2_code 34 = .ok (.aload_n 0, 1) := by decide +kernel
theorem dX6_value_35 : decode prog_8_method_2_code 35 = .ok (.getfield 20, 3) := by decide +kernel
theorem dX6_value_38 : decode prog_8_method_2_code 38 = .ok (.arraylength, 1) := by decide +kernel
theorem dX6_value_39 : decode prog_8_method_2_code 39 = .ok (.if_icmp .ge 54, 3) := by decide +kernel
theorem dX6_value_42 : decode prog_8_method_2_code 42 = .ok (.iinc 4 1, 3) := by decide +kernel
theorem dX6_value_45 : decode prog_8_method_2_code 45 = .ok (.aload_n 0, 1) := by decide +kernel
theorem dX6_value_46 : decode prog_8_method_2_code 46 = .ok (.getfield 20, 3) := by decide +kernel
theorem dX6_value_49 : decode prog_8_method_2_code 49 = .ok (.iload 4, 2) := by decide +kernel
theorem dX6_value_51 : decode prog_8_method_2_code 51 = .ok (.iload 6, 2) := by decide +kernel
theorem dX6_value_53 : decode prog_8_method_2_code 53 = .ok (.sipush 10000, 3) := by decide +kernel
theorem dX6_value_56 : decode prog_8_method_2_code 56 = .ok (.if_icmp .ge 8, 3) := by decide +kernel
theorem dX6_value_59 : decode prog_8_method_2_code 59 = .ok (.iload 6, 2) := by decide +kernel
theorem dX6_value_61 : decode prog_8_method_2_code 61 = .ok (.goto 28, 3) := by decide +kernel
theorem dX6_value_64 : decode prog_8_method_2_code 64 = .ok (.iload 6, 2) := by decide +kernel
theorem dX6_value_66 : decode prog_8_method_2_code 66 = .ok (.sipush 10000, 3) := by decide +kernel
theorem dX6_value_69 : decode prog_8_method_2_code 69 = .ok (.if_icmp .ne 7, 3) := by decide +kernel
theorem dX6_value_72 : decode prog_8_method_2_code 72 = .ok (.iload_n 1, 1) := by decide +kernel
theorem dX6_value_73 : decode prog_8_method_2_code 73 = .ok (.goto 16, 3) := by decide +kernel
theorem dX6_value_76 : decode prog_8_method_2_code 76 = .ok (.iload 6, 2) := by decide +kernel
theorem dX6_value_78 : decode prog_8_method_2_code 78 = .ok (.sipush 10001, 3) := by decide +kernel
theorem dX6_value_81 : decode prog_8_method_2_code 81 = .ok (.if_icmp .ne 7, 3) := by decide +kernel
theorem dX6_value_84 : decode prog_8_method_2_code 84 = .ok (.iload_n 2, 1) := by decide +kernel
theorem dX6_value_85 : decode prog_8_method_2_code 85 = .ok (.goto 4, 3) := by decide +kernel
theorem dX6_value_88 : decode prog_8_method_2_code 88 = .ok (.iload_n 3, 1) := by decide +kernel
theorem dX6_value_89 : decode prog_8_method_2_code 89 = .ok (.iastore, 1) := by decide +kernel
theorem dX6_value_90 : decode prog_8_method_2_code 90 = .ok (.goto 78, 3) := by decide +kernel
theorem dX6_value_93 : decode prog_8_method_2_code 93 = .ok (.iload 6, 2) := by decide +kernel
theorem dX6_value_95 : decode prog_8_method_2_code 95 = .ok (.bipush (-33), 2) := by decide +kernel
theorem dX6_value_97 : decode prog_8_method_2_code 97 = .ok (.if_icmp .ne 33, 3) := by decide +kernel
theorem dX6_value_100 : decode prog_8_method_2_code 100 = .ok (.iload 4, 2) := by decide +kernel
theorem dX6_value_102 : decode prog_8_method_2_code 102 = .ok (.ifCond .lt 28, 3) := by decide +kernel
theorem dX6_value_105 : decode prog_8_method_2_code 105 = .ok (.aload_n 0, 1) := by decide +kernel
theorem dX6_value_106 : decode prog_8_method_2_code 106 = .ok (.getfield 20, 3) := by decide +kernel
theorem dX6_value_109 : decode prog_8_method_2_code 109 = .ok (.iload 4, 2) := by decide +kernel
theorem dX6_value_111 : decode prog_8_method_2_code 111 = .ok (.aload_n 0, 1) := by decide +kernel
theorem dX6_value_112 : decode prog_8_method_2_code 112 = .ok (.getfield 20, 3) := by decide +kernel
theorem dX6_value_115 : decode prog_8_method_2_code 115 = .ok (.iload 4, 2) := by decide +kernel
theorem dX6_value_117 : decode prog_8_method_2_code 117 = .ok (.iaload, 1) := by decide +kernel
theorem dX6_value_118 : decode prog_8_method_2_code 118 = .ok (.ifCond .ne 7, 3) := by decide +kernel
theorem dX6_value_121 : decode prog_8_method_2_code 121 = .ok (.iconst 1, 1) := by decide +kernel
theorem dX6_value_122 : decode prog_8_method_2_code 122 = .ok (.goto 4, 3) := by decide +kernel
theorem dX6_value_125 : decode prog_8_method_2_code 125 = .ok (.iconst 0, 1) := by decide +kernel
theorem dX6_value_126 : decode prog_8_method_2_code 126 = .ok (.iastore, 1) := by decide +kernel
theorem dX6_value_127 : decode prog_8_method_2_code 127 = .ok (.goto 41, 3) := by decide +kernel
theorem dX6_value_130 : decode prog_8_method_2_code 130 = .ok (.iload 4, 2) := by decide +kernel
theorem dX6_value_132 : decode prog_8_method_2_code 132 = .ok (.iconst 1, 1) := by decide +kernel
theorem dX6_value_133 : decode prog_8_method_2_code 133 = .ok (.if_icmp .lt 35, 3) := by decide +kernel
theorem dX6_value_136 : decode prog_8_method_2_code 136 = .ok (.iinc 4 (-1), 3) := by decide +kernel
theorem dX6_value_139 : decode prog_8_method_2_code 139 = .ok (.aload_n 0, 1) := by decide +kernel
theorem dX6_value_140 : decode prog_8_method_2_code 140 = .ok (.getfield 20, 3) := by decide +kernel
theorem dX6_value_143 : decode prog_8_method_2_code 143 = .ok (.iload 4, 2) := by decide +kernel
theorem dX6_value_145 : decode prog_8_method_2_code 145 = .ok (.iload 6, 2) := by decide +kernel
theorem dX6_value_147 : decode prog_8_method_2_code 147 = .ok (.ineg, 1) := by decide +kernel
theorem dX6_value_148 : decode prog_8_method_2_code 148 = .ok (.aload_n 0, 1) := by decide +kernel
theorem dX6_value_149 : decode prog_8_method_2_code 149 = .ok (.getfield 20, 3) := by decide +kernel
theorem dX6_value_152 : decode prog_8_method_2_code 152 = .ok (.iload 4, 2) := by decide +kernel
theorem dX6_value_154 : decode prog_8_method_2_code 154 = .ok (.iaload, 1) := by decide +kernel
theorem dX6_value_155 : decode prog_8_method_2_code 155 = .ok (.aload_n 0, 1) := by decide +kernel
theorem dX6_value_156 : decode prog_8_method_2_code 156 = .ok (.getfield 20, 3) := by decide +kernel
theorem dX6_value_159 : decode prog_8_method_2_code 159 = .ok (.iload 4, 2) := by decide +kernel
theorem dX6_value_161 : decode prog_8_method_2_code 161 = .ok (.iconst 1, 1) := by decide +kernel
theorem dX6_value_162 : decode prog_8_method_2_code 162 = .ok (.iadd, 1) := by decide +kernel
theorem dX6_value_163 : decode prog_8_method_2_code 163 = .ok (.iaload, 1) := by decide +kernel
theorem dX6_value_164 : decode prog_8_method_2_code 164 = .ok (.invokestatic 23, 3) := by decide +kernel
theorem dX6_value_167 : decode prog_8_method_2_code 167 = .ok (.iastore, 1) := by decide +kernel
theorem dX6_value_168 : decode prog_8_method_2_code 168 = .ok (.iinc 5 1, 3) := by decide +kernel
theorem dX6_value_171 : decode prog_8_method_2_code 171 = .ok (.goto (-165), 3) := by decide +kernel
theorem dX6_value_174 : decode prog_8_method_2_code 174 = .ok (.iload 4, 2) := by decide +kernel
theorem dX6_value_176 : decode prog_8_method_2_code 176 = .ok (.ifCond .lt 13, 3) := by decide +kernel
theorem dX6_value_179 : decode prog_8_method_2_code 179 = .ok (.aload_n 0, 1) := by decide +kernel
theorem dX6_value_180 : decode prog_8_method_2_code 180 = .ok (.getfield 20, 3) := by decide +kernel
theorem dX6_value_183 : decode prog_8_method_2_code 183 = .ok (.iload 4, 2) := by decide +kernel
theorem dX6_value_185 : decode prog_8_method_2_code 185 = .ok (.iaload, 1) := by decide +kernel
theorem dX6_value_186 : decode prog_8_method_2_code 186 = .ok (.goto 4, 3) := by decide +kernel
theorem dX6_value_189 : decode prog_8_method_2_code 189 = .ok (.iconst 0, 1) := by decide +kernel
theorem dX6_value_190 : decode prog_8_method_2_code 190 = .ok (.ireturn, 1) := by decide +kernel
theorem dJ9_max_7cf53_0 : decode prog_13_method_65_code 0 = .ok (.iload_n 0, 1) := by decide +kernel
theorem dJ9_max_7cf53_1 : decode prog_13_method_65_code 1 = .ok (.iload_n 1, 1) := by decide +kernel
theorem dJ9_max_7cf53_2 : decode prog_13_method_65_code 2 = .ok (.if_icmp .lt 7, 3) := by decide +kernel
theorem dJ9_max_7cf53_5 : decode prog_13_method_65_code 5 = .ok (.iload_n 0, 1) := by decide +kernel
theorem dJ9_max_7cf53_6 : decode prog_13_method_65_code 6 = .ok (.goto 4, 3) := by decide +kernel
theorem dJ9_max_7cf53_9 : decode prog_13_method_65_code 9 = .ok (.iload_n 1, 1) := by decide +kernel
theorem dJ9_max_7cf53_10 : decode prog_13_method_65_code 10 = .ok (.ireturn, 1) := by decide +kernel
theorem dJ9_min_7cf53_0 : decode prog_13_method_69_code 0 = .ok (.iload_n 0, 1) := by decide +kernel
theorem dJ9_min_7cf53_1 : decode prog_13_method_69_code 1 = .ok (.iload_n 1, 1) := by decide +kernel
theorem dJ9_min_7cf53_2 : decode prog_13_method_69_code 2 = .ok (.if_icmp .gt 7, 3) := by decide +kernel
theorem dJ9_min_7cf53_5 : decode prog_13_method_69_code 5 = .ok (.iload_n 0, 1) := by decide +kernel
theorem dJ9_min_7cf53_6 : decode prog_13_method_69_code 6 = .ok (.goto 4, 3) := by decide +kernel
theorem dJ9_min_7cf53_9 : decode prog_13_method_69_code 9 = .ok (.iload_n 1, 1) := by decide +kernel
theorem dJ9_min_7cf53_10 : decode prog_13_method_69_code 10 = .ok (.ireturn, 1) := by decide +kernel
theorem dX7_heldWithin_0 : decode prog_1_method_50_code 0 = .ok (.iload_n 1, 1) := by decide +kernel
theorem dX7_heldWithin_1 : decode prog_1_method_50_code 1 = .ok (.iload_n 2, 1) := by decide +kernel
theorem dX7_heldWithin_2 : decode prog_1_method_50_code 2 = .ok (.iload_n 0, 1) := by decide +kernel
theorem dX7_heldWithin_3 : decode prog_1_method_50_code 3 = .ok (.invokestatic 142, 3) := by decide +kernel
theorem dX7_heldWithin_6 : decode prog_1_method_50_code 6 = .ok (.invokestatic 324, 3) := by decide +kernel
theorem dX7_heldWithin_9 : decode prog_1_method_50_code 9 = .ok (.ireturn, 1) := by decide +kernel
theorem dX2_holdsOf_0 : decode prog_4_method_15_code 0 = .ok (.aload_n 0, 1) := by decide +kernel
theorem dX2_holdsOf_1 : decode prog_4_method_15_code 1 = .ok (.iconst 0, 1) := by decide +kernel
theorem dX2_holdsOf_2 : decode prog_4_method_15_code 2 = .ok (.invokevirtual 130, 3) := by decide +kernel
theorem dX2_holdsOf_5 : decode prog_4_method_15_code 5 = .ok (.astore_n 2, 1) := by decide +kernel
theorem dX2_holdsOf_6 : decode prog_4_method_15_code 6 = .ok (.aload_n 2, 1) := by decide +kernel
theorem dX2_holdsOf_7 : decode prog_4_method_15_code 7 = .ok (.ifnonnull 20, 3) := by decide +kernel
theorem dX2_holdsOf_10 : decode prog_4_method_15_code 10 = .ok (.aload_n 0, 1) := by decide +kernel
theorem dX2_holdsOf_11 : decode prog_4_method_15_code 11 = .ok (.invokevirtual 134, 3) := by decide +kernel
theorem dX2_holdsOf_14 : decode prog_4_method_15_code 14 = .ok (.iconst 2, 1) := by decide +kernel
theorem dX2_holdsOf_15 : decode prog_4_method_15_code 15 = .ok (.if_icmp .ne 7, 3) := by decide +kernel
theorem dX2_holdsOf_18 : decode prog_4_method_15_code 18 = .ok (.iconst 1, 1) := by decide +kernel
theorem dX2_holdsOf_19 : decode prog_4_method_15_code 19 = .ok (.goto 7, 3) := by decide +kernel
theorem dX2_holdsOf_22 : decode prog_4_method_15_code 22 = .ok (.aload_n 1, 1) := by decide +kernel
theorem dX2_holdsOf_23 : decode prog_4_method_15_code 23 = .ok (.getfield 138, 3) := by decide +kernel
theorem dX2_holdsOf_26 : decode prog_4_method_15_code 26 = .ok (.ireturn, 1) := by decide +kernel
theorem dX2_holdsOf_27 : decode prog_4_method_15_code 27 = .ok (.aload_n 2, 1) := by decide +kernel
theorem dX2_holdsOf_28 : decode prog_4_method_15_code 28 = .ok (.aload_n 1, 1) := by decide +kernel
theorem dX2_holdsOf_29 : decode prog_4_method_15_code 29 = .ok (.getfield 138, 3) := by decide +kernel
theorem dX2_holdsOf_32 : decode prog_4_method_15_code 32 = .ok (.aload_n 1, 1) := by decide +kernel
theorem dX2_holdsOf_33 : decode prog_4_method_15_code 33 = .ok (.getfield 102, 3) := by decide +kernel
theorem dX2_holdsOf_36 : decode prog_4_method_15_code 36 = .ok (.aload_n 0, 1) := by decide +kernel
theorem dX2_holdsOf_37 : decode prog_4_method_15_code 37 = .ok (.invokevirtual 134, 3) := by decide +kernel
theorem dX2_holdsOf_40 : decode prog_4_method_15_code 40 = .ok (.invokevirtual 141, 3) := by decide +kernel
theorem dX2_holdsOf_43 : decode prog_4_method_15_code 43 = .ok (.iconst 1, 1) := by decide +kernel
theorem dX2_holdsOf_44 : decode prog_4_method_15_code 44 = .ok (.bipush 99, 2) := by decide +kernel
theorem dX2_holdsOf_46 : decode prog_4_method_15_code 46 = .ok (.invokestatic 145, 3) := by decide +kernel
theorem dX2_holdsOf_49 : decode prog_4_method_15_code 49 = .ok (.ireturn, 1) := by decide +kernel
theorem dX2_isChild_0 : decode prog_4_method_3_code 0 = .ok (.iload_n 1, 1) := by decide +kernel
theorem dX2_isChild_1 : decode prog_4_method_3_code 1 = .ok (.ifCond .lt 15, 3) := by decide +kernel
theorem dX2_isChild_4 : decode prog_4_method_3_code 4 = .ok (.iload_n 1, 1) := by decide +kernel
theorem dX2_isChild_5 : decode prog_4_method_3_code 5 = .ok (.aload_n 0, 1) := by decide +kernel
theorem dX2_isChild_6 : decode prog_4_method_3_code 6 = .ok (.getfield 48, 3) := by decide +kernel
theorem dX2_isChild_9 : decode prog_4_method_3_code 9 = .ok (.if_icmp .ge 7, 3) := by decide +kernel
theorem dX2_isChild_12 : decode prog_4_method_3_code 12 = .ok (.iconst 1, 1) := by decide +kernel
theorem dX2_isChild_13 : decode prog_4_method_3_code 13 = .ok (.goto 4, 3) := by decide +kernel
theorem dX2_isChild_16 : decode prog_4_method_3_code 16 = .ok (.iconst 0, 1) := by decide +kernel
theorem dX2_isChild_17 : decode prog_4_method_3_code 17 = .ok (.ireturn, 1) := by decide +kernel
theorem dX2_isIn_0 : decode prog_4_method_4_code 0 = .ok (.aload_n 0, 1) := by decide +kernel
theorem dX2_isIn_1 : decode prog_4_method_4_code 1 = .ok (.iload_n 1, 1) := by decide +kernel
theorem dX2_isIn_2 : decode prog_4_method_4_code 2 = .ok (.invokevirtual 91, 3) := by decide +kernel
theorem dX2_isIn_5 : decode prog_4_method_4_code 5 = .ok (.ifCond .eq 19, 3) := by decide +kernel
theorem dX2_isIn_8 : decode prog_4_method_4_code 8 = .ok (.aload_n 0, 1) := by decide +kernel
theorem dX2_isIn_9 : decode prog_4_method_4_code 9 = .ok (.getfield 11, 3) := by decide +kernel
theorem dX2_isIn_12 : decode prog_4_method_4_code 12 = .ok (.iload_n 1, 1) := by decide +kernel
theorem dX2_isIn_13 : decode prog_4_method_4_code 13 = .ok (.aaload, 1) := by decide +kernel
theorem dX2_isIn_14 : decode prog_4_method_4_code 14 = .ok (.getfield 95, 3) := by decide +kernel
theorem dX2_isIn_17 : decode prog_4_method_4_code 17 = .ok (.ifCond .ne 7, 3) := by decide +kernel
theorem dX2_isIn_20 : decode prog_4_method_4_code 20 = .ok (.iconst 1, 1) := by decide +kernel
theorem dX2_isIn_21 : decode prog_4_method_4_code 21 = .ok (.goto 4, 3) := by decide +kernel
theorem dX2_isIn_24 : decode prog_4_method_4_code 24 = .ok (.iconst 0, 1) := by decide +kernel
theorem dX2_isIn_25 : decode prog_4_method_4_code 25 = .ok (.ireturn, 1) := by decide +kernel
theorem dX2_stepFrom_0 : decode prog_4_method_18_code 0 = .ok (.aload_n 0, 1) := by decide +kernel
theorem dX2_stepFrom_1 : decode prog_4_method_18_code 1 = .ok (.getfield 39, 3) := by decide +kernel
theorem dX2_stepFrom_4 : decode prog_4_method_18_code 4 = .ok (.iconst 1, 1) := by decide +kernel
theorem dX2_stepFrom_5 : decode prog_4_method_18_code 5 = .ok (.if_icmp .ne 9, 3) := by decide +kernel
theorem dX2_stepFrom_8 : decode prog_4_method_18_code 8 = .ok (.iload_n 1, 1) := by decide +kernel
theorem dX2_stepFrom_9 : decode prog_4_method_18_code 9 = .ok (.iconst 1, 1) := by decide +kernel
theorem dX2_stepFrom_10 : decode prog_4_method_18_code 10 = .ok (.iadd, 1) := by decide +kernel
theorem dX2_stepFrom_11 : decode prog_4_method_18_code 11 = .ok (.goto 6, 3) := by decide +kernel
theorem dX2_stepFrom_14 : decode prog_4_method_18_code 14 = .ok (.iload_n 1, 1) := by decide +kernel
theorem dX2_stepFrom_15 : decode prog_4_method_18_code 15 = .ok (.iconst 1, 1) := by decide +kernel
theorem dX2_stepFrom_16 : decode prog_4_method_18_code 16 = .ok (.isub, 1) := by decide +kernel
theorem dX2_stepFrom_17 : decode prog_4_method_18_code 17 = .ok (.istore_n 2, 1) := by decide +kernel
theorem dX2_stepFrom_18 : decode prog_4_method_18_code 18 = .ok (.iload_n 2, 1) := by decide +kernel
theorem dX2_stepFrom_19 : decode prog_4_method_18_code 19 = .ok (.aload_n 0, 1) := by decide +kernel
theorem dX2_stepFrom_20 : decode prog_4_method_18_code 20 = .ok (.getfield 48, 3) := by decide +kernel
theorem dX2_stepFrom_23 : decode prog_4_method_18_code 23 = .ok (.if_icmp .lt 5, 3) := by decide +kernel
theorem dX2_stepFrom_26 : decode prog_4_method_18_code 26 = .ok (.iconst 0, 1) := by decide +kernel
theorem dX2_stepFrom_27 : decode prog_4_method_18_code 27 = .ok (.ireturn, 1) := by decide +kernel
theorem dX2_stepFrom_28 : decode prog_4_method_18_code 28 = .ok (.iload_n 2, 1) := by decide +kernel
theorem dX2_stepFrom_29 : decode prog_4_method_18_code 29 = .ok (.ifCond .ge 12, 3) := by decide +kernel
theorem dX2_stepFrom_32 : decode prog_4_method_18_code 32 = .ok (.aload_n 0, 1) := by decide +kernel
theorem dX2_stepFrom_33 : decode prog_4_method_18_code 33 = .ok (.getfield 48, 3) := by decide +kernel
theorem dX2_stepFrom_36 : decode prog_4_method_18_code 36 = .ok (.iconst 1, 1) := by decide +kernel
theorem dX2_stepFrom_37 : decode prog_4_method_18_code 37 = .ok (.isub, 1) := by decide +kernel
theorem dX2_stepFrom_38 : decode prog_4_method_18_code 38 = .ok (.goto 4, 3) := by decide +kernel
theorem dX2_stepFrom_41 : decode prog_4_method_18_code 41 = .ok (.iload_n 2, 1) := by decide +kernel
theorem dX2_stepFrom_42 : decode prog_4_method_18_code 42 = .ok (.ireturn, 1) := by decide +kernel
theorem dX2_nextOf_0 : decode prog_4_method_19_code 0 = .ok (.iload_n 1, 1) := by decide +kernel
theorem dX2_nextOf_1 : decode prog_4_method_19_code 1 = .ok (.istore_n 2, 1) := by decide +kernel
theorem dX2_nextOf_2 : decode prog_4_method_19_code 2 = .ok (.iconst 0, 1) := by decide +kernel
theorem dX2_nextOf_3 : decode prog_4_method_19_code 3 = .ok (.istore_n 3, 1) := by decide +kernel
theorem dX2_nextOf_4 : decode prog_4_method_19_code 4 = .ok (.iload_n 3, 1) := by decide +kernel
theorem dX2_nextOf_5 : decode prog_4_method_19_code 5 = .ok (.aload_n 0, 1) := by decide +kernel
theorem dX2_nextOf_6 : decode prog_4_method_19_code 6 = .ok (.getfield 48, 3) := by decide +kernel
theorem dX2_nextOf_9 : decode prog_4_method_19_code 9 = .ok (.if_icmp .ge 25, 3) := by decide +kernel
theorem dX2_nextOf_12 : decode prog_4_method_19_code 12 = .ok (.aload_n 0, 1) := by decide +kernel
theorem dX2_nextOf_13 : decode prog_4_method_19_code 13 = .ok (.iload_n 2, 1) := by decide +kernel
theorem dX2_nextOf_14 : decode prog_4_method_19_code 14 = .ok (.invokevirtual 151, 3) := by decide +kernel
theorem dX2_nextOf_17 : decode prog_4_method_19_code 17 = .ok (.istore_n 2, 1) := by decide +kernel
theorem dX2_nextOf_18 : decode prog_4_method_19_code 18 = .ok (.aload_n 0, 1) := by decide +kernel
theorem dX2_nextOf_19 : decode prog_4_method_19_code 19 = .ok (.iload_n 2, 1) := by decide +kernel
theorem dX2_nextOf_20 : decode prog_4_method_19_code 20 = .ok (.invokevirtual 155, 3) := by decide +kernel
theorem dX2_nextOf_23 : decode prog_4_method_19_code 23 = .ok (.ifCond .eq 5, 3) := by decide +kernel
theorem dX2_nextOf_26 : decode prog_4_method_19_code 26 = .ok (.iload_n 2, 1) := by decide +kernel
theorem dX2_nextOf_27 : decode prog_4_method_19_code 27 = .ok (.ireturn, 1) := by decide +kernel
theorem dX2_nextOf_28 : decode prog_4_method_19_code 28 = .ok (.iinc 3 1, 3) := by decide +kernel
theorem dX2_nextOf_31 : decode prog_4_method_19_code 31 = .ok (.goto (-27), 3) := by decide +kernel
theorem dX2_nextOf_34 : decode prog_4_method_19_code 34 = .ok (.iconst (-1), 1) := by decide +kernel
theorem dX2_nextOf_35 : decode prog_4_method_19_code 35 = .ok (.ireturn, 1) := by decide +kernel
theorem dX7_orNone_0 : decode prog_1_method_54_code 0 = .ok (.iload_n 0, 1) := by decide +kernel
theorem dX7_orNone_1 : decode prog_1_method_54_code 1 = .ok (.ifCond .ge 8, 3) := by decide +kernel
theorem dX7_orNone_4 : decode prog_1_method_54_code 4 = .ok (.ldc 202, 2) := by decide +kernel
theorem dX7_orNone_6 : decode prog_1_method_54_code 6 = .ok (.goto 4, 3) := by decide +kernel
theorem dX7_orNone_9 : decode prog_1_method_54_code 9 = .ok (.iload_n 0, 1) := by decide +kernel
theorem dX7_orNone_10 : decode prog_1_method_54_code 10 = .ok (.ireturn, 1) := by decide +kernel
theorem dX7_childTold_0 : decode prog_1_method_3_code 0 = .ok (.aload_n 0, 1) := by decide +kernel
theorem dX7_childTold_1 : decode prog_1_method_3_code 1 = .ok (.getfield 10, 3) := by decide +kernel
theorem dX7_childTold_4 : decode prog_1_method_3_code 4 = .ok (.iload_n 1, 1) := by decide +kernel
theorem dX7_childTold_5 : decode prog_1_method_3_code 5 = .ok (.invokevirtual 72, 3) := by decide +kernel
theorem dX7_childTold_8 : decode prog_1_method_3_code 8 = .ok (.ifCond .ne 6, 3) := by decide +kernel
theorem dX7_childTold_11 : decode prog_1_method_3_code 11 = .ok (.ldc 51, 2) := by decide +kernel
theorem dX7_childTold_13 : decode prog_1_method_3_code 13 = .ok (.ireturn, 1) := by decide +kernel
theorem dX7_childTold_14 : decode prog_1_method_3_code 14 = .ok (.aload_n 0, 1) := by decide +kernel
theorem dX7_childTold_15 : decode prog_1_method_3_code 15 = .ok (.getfield 10, 3) := by decide +kernel
theorem dX7_childTold_18 : decode prog_1_method_3_code 18 = .ok (.getfield 57, 3) := by decide +kernel
theorem dX7_childTold_21 : decode prog_1_method_3_code 21 = .ok (.iload_n 1, 1) := by decide +kernel
theorem dX7_childTold_22 : decode prog_1_method_3_code 22 = .ok (.aaload, 1) := by decide +kernel
theorem dX7_childTold_23 : decode prog_1_method_3_code 23 = .ok (.astore_n 3, 1) := by decide +kernel
theorem dX7_childTold_24 : decode prog_1_method_3_code 24 = .ok (.iload_n 2, 1) := by decide +kernel
theorem dX7_childTold_25 : decode prog_1_method_3_code 25 = .ok (.tableswitch 71 0 4 #[35, 40, 45, 50, 59], 35) := by decide +kernel
theorem dX7_childTold_60 : decode prog_1_method_3_code 60 = .ok (.aload_n 3, 1) := by decide +kernel
theorem dX7_childTold_61 : decode prog_1_method_3_code 61 = .ok (.getfield 61, 3) := by decide +kernel
theorem dX7_childTold_64 : decode prog_1_method_3_code 64 = .ok (.ireturn, 1) := by decide +kernel
theorem dX7_childTold_65 : decode prog_1_method_3_code 65 = .ok (.aload_n 3, 1) := by decide +kernel
theorem dX7_childTold_66 : decode prog_1_method_3_code 66 = .ok (.getfield 66, 3) := by decide +kernel
theorem dX7_childTold_69 : decode prog_1_method_3_code 69 = .ok (.ireturn, 1) := by decide +kernel
theorem dX7_childTold_70 : decode prog_1_method_3_code 70 = .ok (.aload_n 3, 1) := by decide +kernel
theorem dX7_childTold_71 : decode prog_1_method_3_code 71 = .ok (.getfield 69, 3) := by decide +kernel
theorem dX7_childTold_74 : decode prog_1_method_3_code 74 = .ok (.ireturn, 1) := by decide +kernel
theorem dX7_childTold_75 : decode prog_1_method_3_code 75 = .ok (.aload_n 0, 1) := by decide +kernel
theorem dX7_childTold_76 : decode prog_1_method_3_code 76 = .ok (.getfield 10, 3) := by decide +kernel
theorem dX7_childTold_79 : decode prog_1_method_3_code 79 = .ok (.aload_n 3, 1) := by decide +kernel
theorem dX7_childTold_80 : decode prog_1_method_3_code 80 = .ok (.invokevirtual 76, 3) := by decide +kernel
theorem dX7_childTold_83 : decode prog_1_method_3_code 83 = .ok (.ireturn, 1) := by decide +kernel
theorem dX7_childTold_84 : decode prog_1_method_3_code 84 = .ok (.aload_n 0, 1) := by decide +kernel
theorem dX7_childTold_85 : decode prog_1_method_3_code 85 = .ok (.getfield 10, 3) := by decide +kernel
theorem dX7_childTold_88 : decode prog_1_method_3_code 88 = .ok (.iload_n 1, 1) := by decide +kernel
theorem dX7_childTold_89 : decode prog_1_method_3_code 89 = .ok (.invokevirtual 80, 3) := by decide +kernel
theorem dX7_childTold_92 : decode prog_1_method_3_code 92 = .ok (.invokestatic 84, 3) := by decide +kernel
theorem dX7_childTold_95 : decode prog_1_method_3_code 95 = .ok (.ireturn, 1) := by decide +kernel
theorem dX7_childTold_96 : decode prog_1_method_3_code 96 = .ok (.ldc 51, 2) := by decide +kernel
theorem dX7_childTold_98 : decode prog_1_method_3_code 98 = .ok (.ireturn, 1) := by decide +kernel
theorem dX7_lays_0 : decode prog_1_method_4_code 0 = .ok (.aload_n 0, 1) := by decide +kernel
theorem dX7_lays_1 : decode prog_1_method_4_code 1 = .ok (.getfield 10, 3) := by decide +kernel
theorem dX7_lays_4 : decode prog_1_method_4_code 4 = .ok (.iload_n 1, 1) := by decide +kernel
theorem dX7_lays_5 : decode prog_1_method_4_code 5 = .ok (.invokevirtual 72, 3) := by decide +kernel
theorem dX7_lays_8 : decode prog_1_method_4_code 8 = .ok (.ifCond .ne 6, 3) := by decide +kernel
theorem dX7_lays_11 : decode prog_1_method_4_code 11 = .ok (.ldc 51, 2) := by decide +kernel
theorem dX7_lays_13 : decode prog_1_method_4_code 13 = .ok (.ireturn, 1) := by decide +kernel
theorem dX7_lays_14 : decode prog_1_method_4_code 14 = .ok (.aload_n 0, 1) := by decide +kernel
theorem dX7_lays_15 : decode prog_1_method_4_code 15 = .ok (.getfield 10, 3) := by decide +kernel
theorem dX7_lays_18 : decode prog_1_method_4_code 18 = .ok (.getfield 57, 3) := by decide +kernel
theorem dX7_lays_21 : decode prog_1_method_4_code 21 = .ok (.iload_n 1, 1) := by decide +kernel
theorem dX7_lays_22 : decode prog_1_method_4_code 22 = .ok (.aaload, 1) := by decide +kernel
theorem dX7_lays_23 : decode prog_1_method_4_code 23 = .ok (.astore 4, 2) := by decide +kernel
theorem dX7_lays_25 : decode prog_1_method_4_code 25 = .ok (.ldc 51, 2) := by decide +kernel
theorem dX7_lays_27 : decode prog_1_method_4_code 27 = .ok (.istore 5, 2) := by decide +kernel
theorem dX7_lays_29 : decode prog_1_method_4_code 29 = .ok (.iload_n 2, 1) := by decide +kernel
theorem dX7_lays_30 : decode prog_1_method_4_code 30 = .ok (.ifCond .ne 29, 3) := by decide +kernel
theorem dX7_lays_33 : decode prog_1_method_4_code 33 = .ok (.iload_n 3, 1) := by decide +kernel
theorem dX7_lays_34 : decode prog_1_method_4_code 34 = .ok (.iconst 1, 1) := by decide +kernel
theorem dX7_lays_35 : decode prog_1_method_4_code 35 = .ok (.bipush 9, 2) := by decide +kernel
theorem dX7_lays_37 : decode prog_1_method_4_code 37 = .ok (.invokestatic 47, 3) := by decide +kernel
theorem dX7_lays_40 : decode prog_1_method_4_code 40 = .ok (.ifCond .eq 19, 3) := by decide +kernel
theorem dX7_lays_43 : decode prog_1_method_4_code 43 = .ok (.aload 4, 2) := by decide +kernel
theorem dX7_lays_45 : decode prog_1_method_4_code 45 = .ok (.getfield 61, 3) := by decide +kernel
theorem dX7_lays_48 : decode prog_1_method_4_code 48 = .ok (.istore 5, 2) := by decide +kernel
theorem dX7_lays_50 : decode prog_1_method_4_code 50 = .ok (.aload 4, 2) := by decide +kernel
theorem dX7_lays_52 : decode prog_1_method_4_code 52 = .ok (.iload_n 3, 1) := by decide +kernel
theorem dX7_lays_53 : decode prog_1_method_4_code 53 = .ok (.putfield 61, 3) := by decide +kernel
theorem dX7_lays_56 : decode prog_1_method_4_code 56 = .ok (.goto 61, 3) := by decide +kernel
theorem dX7_lays_59 : decode prog_1_method_4_code 59 = .ok (.iload_n 2, 1) := by decide +kernel
theorem dX7_lays_60 : decode prog_1_method_4_code 60 = .ok (.iconst 1, 1) := by decide +kernel
theorem dX7_lays_61 : decode prog_1_method_4_code 61 = .ok (.if_icmp .ne 29, 3) := by decide +kernel
theorem dX7_lays_64 : decode prog_1_method_4_code 64 = .ok (.iload_n 3, 1) := by decide +kernel
theorem dX7_lays_65 : decode prog_1_method_4_code 65 = .ok (.iconst 0, 1) := by decide +kernel
theorem dX7_lays_66 : decode prog_1_method_4_code 66 = .ok (.bipush 99, 2) := by decide +kernel
theorem dX7_lays_68 : decode prog_1_method_4_code 68 = .ok (.invokestatic 47, 3) := by decide +kernel
theorem dX7_lays_71 : decode prog_1_method_4_code 71 = .ok (.ifCond .eq 19, 3) := by decide +kernel
theorem dX7_lays_74 : decode prog_1_method_4_code 74 = .ok (.aload 4, 2) := by decide +kernel
theorem dX7_lays_76 : decode prog_1_method_4_code 76 = .ok (.getfield 66, 3) := by decide +kernel
theorem dX7_lays_79 : decode prog_1_method_4_code 79 = .ok (.istore 5, 2) := by decide +kernel
theorem dX7_lays_81 : decode prog_1_method_4_code 81 = .ok (.aload 4, 2) := by decide +kernel
theorem dX7_lays_83 : decode prog_1_method_4_code 83 = .ok (.iload_n 3, 1) := by decide +kernel
theorem dX7_lays_84 : decode prog_1_method_4_code 84 = .ok (.putfield 66, 3) := by decide +kernel
theorem dX7_lays_87 : decode prog_1_method_4_code 87 = .ok (.goto 30, 3) := by decide +kernel
theorem dX7_lays_90 : decode prog_1_method_4_code 90 = .ok (.iload_n 2, 1) := by decide +kernel
theorem dX7_lays_91 : decode prog_1_method_4_code 91 = .ok (.iconst 2, 1) := by decide +kernel
theorem dX7_lays_92 : decode prog_1_method_4_code 92 = .ok (.if_icmp .ne 25, 3) := by decide +kernel
theorem dX7_lays_95 : decode prog_1_method_4_code 95 = .ok (.iload_n 3, 1) := by decide +kernel
theorem dX7_lays_96 : decode prog_1_method_4_code 96 = .ok (.iconst 0, 1) := by decide +kernel
theorem dX7_lays_97 : decode prog_1_method_4_code 97 = .ok (.iconst 1, 1) := by decide +kernel
theorem dX7_lays_98 : decode prog_1_method_4_code 98 = .ok (.invokestatic 47, 3) := by decide +kernel
theorem dX7_lays_101 : decode prog_1_method_4_code 101 = .ok (.ifCond .eq 16, 3) := by decide +kernel
theorem dX7_lays_104 : decode prog_1_method_4_code 104 = .ok (.aload 4, 2) := by decide +kernel
theorem dX7_lays_106 : decode prog_1_method_4_code 106 = .ok (.getfield 69, 3) := by decide +kernel
theorem dX7_lays_109 : decode prog_1_method_4_code 109 = .ok (.istore 5, 2) := by decide +kernel
theorem dX7_lays_111 : decode prog_1_method_4_code 111 = .ok (.aload 4, 2) := by decide +kernel
theorem dX7_lays_113 : decode prog_1_method_4_code 113 = .ok (.iload_n 3, 1) := by decide +kernel
theorem dX7_lays_114 : decode prog_1_method_4_code 114 = .ok (.putfield 69, 3) := by decide +kernel
theorem dX7_lays_117 : decode prog_1_method_4_code 117 = .ok (.iload 5, 2) := by decide +kernel
theorem dX7_lays_119 : decode prog_1_method_4_code 119 = .ok (.ireturn, 1) := by decide +kernel
theorem dX7_paper_0 : decode prog_1_method_5_code 0 = .ok (.iload_n 1, 1) := by decide +kernel
theorem dX7_paper_1 : decode prog_1_method_5_code 1 = .ok (.iconst 0, 1) := by decide +kernel
theorem dX7_paper_2 : decode prog_1_method_5_code 2 = .ok (.iconst 2, 1) := by decide +kernel
theorem dX7_paper_3 : decode prog_1_method_5_code 3 = .ok (.invokestatic 47, 3) := by decide +kernel
theorem dX7_paper_6 : decode prog_1_method_5_code 6 = .ok (.ifCond .ne 6, 3) := by decide +kernel
theorem dX7_paper_9 : decode prog_1_method_5_code 9 = .ok (.ldc 51, 2) := by decide +kernel
theorem dX7_paper_11 : decode prog_1_method_5_code 11 = .ok (.ireturn, 1) := by decide +kernel
theorem dX7_paper_12 : decode prog_1_method_5_code 12 = .ok (.aload_n 0, 1) := by decide +kernel
theorem dX7_paper_13 : decode prog_1_method_5_code 13 = .ok (.getfield 10, 3) := by decide +kernel
theorem dX7_paper_16 : decode prog_1_method_5_code 16 = .ok (.getfield 87, 3) := by decide +kernel
theorem dX7_paper_19 : decode prog_1_method_5_code 19 = .ok (.bipush 20, 2) := by decide +kernel
theorem dX7_paper_21 : decode prog_1_method_5_code 21 = .ok (.if_icmp .lt 6, 3) := by decide +kernel
theorem dX7_paper_24 : decode prog_1_method_5_code 24 = .ok (.ldc 56, 2) := by decide +kernel
theorem dX7_paper_26 : decode prog_1_method_5_code 26 = .ok (.ireturn, 1) := by decide +kernel
theorem dX7_paper_27 : decode prog_1_method_5_code 27 = .ok (.aload_n 0, 1) := by decide +kernel
theorem dX7_paper_28 : decode prog_1_method_5_code 28 = .ok (.getfield 10, 3) := by decide +kernel
theorem dX7_paper_31 : decode prog_1_method_5_code 31 = .ok (.getfield 90, 3) := by decide +kernel
theorem dX7_paper_34 : decode prog_1_method_5_code 34 = .ok (.aload_n 0, 1) := by decide +kernel
theorem dX7_paper_35 : decode prog_1_method_5_code 35 = .ok (.getfield 10, 3) := by decide +kernel
theorem dX7_paper_38 : decode prog_1_method_5_code 38 = .ok (.getfield 87, 3) := by decide +kernel
theorem dX7_paper_41 : decode prog_1_method_5_code 41 = .ok (.iload_n 1, 1) := by decide +kernel
theorem dX7_paper_42 : decode prog_1_method_5_code 42 = .ok (.iastore, 1) := by decide +kernel
theorem dX7_paper_43 : decode prog_1_method_5_code 43 = .ok (.aload_n 0, 1) := by decide +kernel
theorem dX7_paper_44 : decode prog_1_method_5_code 44 = .ok (.getfield 10, 3) := by decide +kernel
theorem dX7_paper_47 : decode prog_1_method_5_code 47 = .ok (.dup, 1) := by decide +kernel
theorem dX7_paper_48 : decode prog_1_method_5_code 48 = .ok (.getfield 87, 3) := by decide +kernel
theorem dX7_paper_51 : decode prog_1_method_5_code 51 = .ok (.iconst 1, 1) := by decide +kernel
theorem dX7_paper_52 : decode prog_1_method_5_code 52 = .ok (.iadd, 1) := by decide +kernel
theorem dX7_paper_53 : decode prog_1_method_5_code 53 = .ok (.putfield 87, 3) := by decide +kernel
theorem dX7_paper_56 : decode prog_1_method_5_code 56 = .ok (.aload_n 0, 1) := by decide +kernel
theorem dX7_paper_57 : decode prog_1_method_5_code 57 = .ok (.getfield 10, 3) := by decide +kernel
theorem dX7_paper_60 : decode prog_1_method_5_code 60 = .ok (.getfield 87, 3) := by decide +kernel
theorem dX7_paper_63 : decode prog_1_method_5_code 63 = .ok (.iconst 1, 1) := by decide +kernel
theorem dX7_paper_64 : decode prog_1_method_5_code 64 = .ok (.isub, 1) := by decide +kernel
theorem dX7_paper_65 : decode prog_1_method_5_code 65 = .ok (.ireturn, 1) := by decide +kernel
theorem dX7_sorts_0 : decode prog_1_method_6_code 0 = .ok (.iload_n 1, 1) := by decide +kernel
theorem dX7_sorts_1 : decode prog_1_method_6_code 1 = .ok (.iconst 0, 1) := by decide +kernel
theorem dX7_sorts_2 : decode prog_1_method_6_code 2 = .ok (.aload_n 0, 1) := by decide +kernel
theorem dX7_sorts_3 : decode prog_1_method_6_code 3 = .ok (.getfield 10, 3) := by decide +kernel
theorem dX7_sorts_6 : decode prog_1_method_6_code 6 = .ok (.getfield 87, 3) := by decide +kernel
theorem dX7_sorts_9 : decode prog_1_method_6_code 9 = .ok (.iconst 1, 1) := by decide +kernel
theorem dX7_sorts_10 : decode prog_1_method_6_code 10 = .ok (.isub, 1) := by decide +kernel
theorem dX7_sorts_11 : decode prog_1_method_6_code 11 = .ok (.invokestatic 47, 3) := by decide +kernel
theorem dX7_sorts_14 : decode prog_1_method_6_code 14 = .ok (.ifCond .eq 12, 3) := by decide +kernel
theorem dX7_sorts_17 : decode prog_1_method_6_code 17 = .ok (.iload_n 2, 1) := by decide +kernel
theorem dX7_sorts_18 : decode prog_1_method_6_code 18 = .ok (.iconst 0, 1) := by decide +kernel
theorem dX7_sorts_19 : decode prog_1_method_6_code 19 = .ok (.iconst 2, 1) := by decide +kernel
theorem dX7_sorts_20 : decode prog_1_method_6_code 20 = .ok (.invokestatic 47, 3) := by decide +kernel
theorem dX7_sorts_23 : decode prog_1_method_6_code 23 = .ok (.ifCond .ne 6, 3) := by decide +kernel
theorem dX7_sorts_26 : decode prog_1_method_6_code 26 = .ok (.ldc 51, 2) := by decide +kernel
theorem dX7_sorts_28 : decode prog_1_method_6_code 28 = .ok (.ireturn, 1) := by decide +kernel
theorem dX7_sorts_29 : decode prog_1_method_6_code 29 = .ok (.aload_n 0, 1) := by decide +kernel
theorem dX7_sorts_30 : decode prog_1_method_6_code 30 = .ok (.getfield 10, 3) := by decide +kernel
theorem dX7_sorts_33 : decode prog_1_method_6_code 33 = .ok (.getfield 90, 3) := by decide +kernel
theorem dX7_sorts_36 : decode prog_1_method_6_code 36 = .ok (.iload_n 1, 1) := by decide +kernel
theorem dX7_sorts_37 : decode prog_1_method_6_code 37 = .ok (.iaload, 1) := by decide +kernel
theorem dX7_sorts_38 : decode prog_1_method_6_code 38 = .ok (.istore_n 3, 1) := by decide +kernel
theorem dX7_sorts_39 : decode prog_1_method_6_code 39 = .ok (.aload_n 0, 1) := by decide +kernel
theorem dX7_sorts_40 : decode prog_1_method_6_code 40 = .ok (.getfield 10, 3) := by decide +kernel
theorem dX7_sorts_43 : decode prog_1_method_6_code 43 = .ok (.getfield 90, 3) := by decide +kernel
theorem dX7_sorts_46 : decode prog_1_method_6_code 46 = .ok (.iload_n 1, 1) := by decide +kernel
theorem dX7_sorts_47 : decode prog_1_method_6_code 47 = .ok (.iload_n 2, 1) := by decide +kernel
theorem dX7_sorts_48 : decode prog_1_method_6_code 48 = .ok (.iastore, 1) := by decide +kernel
theorem dX7_sorts_49 : decode prog_1_method_6_code 49 = .ok (.iload_n 3, 1) := by decide +kernel
theorem dX7_sorts_50 : decode prog_1_method_6_code 50 = .ok (.ireturn, 1) := by decide +kernel
theorem dX7_rule_0 : decode prog_1_method_7_code 0 = .ok (.ldc 51, 2) := by decide +kernel
theorem dX7_rule_2 : decode prog_1_method_7_code 2 = .ok (.istore_n 3, 1) := by decide +kernel
theorem dX7_rule_3 : decode prog_1_method_7_code 3 = .ok (.iload_n 1, 1) := by decide +kernel
theorem dX7_rule_4 : decode prog_1_method_7_code 4 = .ok (.ifCond .ne 31, 3) := by decide +kernel
theorem dX7_rule_7 : decode prog_1_method_7_code 7 = .ok (.iload_n 2, 1) := by decide +kernel
theorem dX7_rule_8 : decode prog_1_method_7_code 8 = .ok (.iconst 0, 1) := by decide +kernel
theorem dX7_rule_9 : decode prog_1_method_7_code 9 = .ok (.iconst 1, 1) := by decide +kernel
theorem dX7_rule_10 : decode prog_1_method_7_code 10 = .ok (.invokestatic 47, 3) := by decide +kernel
theorem dX7_rule_13 : decode prog_1_method_7_code 13 = .ok (.ifCond .eq 22, 3) := by decide +kernel
theorem dX7_rule_16 : decode prog_1_method_7_code 16 = .ok (.aload_n 0, 1) := by decide +kernel
theorem dX7_rule_17 : decode prog_1_method_7_code 17 = .ok (.getfield 10, 3) := by decide +kernel
theorem dX7_rule_20 : decode prog_1_method_7_code 20 = .ok (.getfield 93, 3) := by decide +kernel
theorem dX7_rule_23 : decode prog_1_method_7_code 23 = .ok (.istore_n 3, 1) := by decide +kernel
theorem dX7_rule_24 : decode prog_1_method_7_code 24 = .ok (.aload_n 0, 1) := by decide +kernel
theorem dX7_rule_25 : decode prog_1_method_7_code 25 = .ok (.getfield 10, 3) := by decide +kernel
theorem dX7_rule_28 : decode prog_1_method_7_code 28 = .ok (.iload_n 2, 1) := by decide +kernel
theorem dX7_rule_29 : decode prog_1_method_7_code 29 = .ok (.putfield 93, 3) := by decide +kernel
theorem dX7_rule_32 : decode prog_1_method_7_code 32 = .ok (.goto 68, 3) := by decide +kernel
theorem dX7_rule_35 : decode prog_1_method_7_code 35 = .ok (.iload_n 1, 1) := by decide +kernel
theorem dX7_rule_36 : decode prog_1_method_7_code 36 = .ok (.iconst 1, 1) := by decide +kernel
theorem dX7_rule_37 : decode prog_1_method_7_code 37 = .ok (.if_icmp .ne 31, 3) := by decide +kernel
theorem dX7_rule_40 : decode prog_1_method_7_code 40 = .ok (.iload_n 2, 1) := by decide +kernel
theorem dX7_rule_41 : decode prog_1_method_7_code 41 = .ok (.iconst 0, 1) := by decide +kernel
theorem dX7_rule_42 : decode prog_1_method_7_code 42 = .ok (.iconst 1, 1) := by decide +kernel
theorem dX7_rule_43 : decode prog_1_method_7_code 43 = .ok (.invokestatic 47, 3) := by decide +kernel
theorem dX7_rule_46 : decode prog_1_method_7_code 46 = .ok (.ifCond .eq 22, 3) := by decide +kernel
theorem dX7_rule_49 : decode prog_1_method_7_code 49 = .ok (.aload_n 0, 1) := by decide +kernel
theorem dX7_rule_50 : decode prog_1_method_7_code 50 = .ok (.getfield 10, 3) := by decide +kernel
theorem dX7_rule_53 : decode prog_1_method_7_code 53 = .ok (.getfield 96, 3) := by decide +kernel
theorem dX7_rule_56 : decode prog_1_method_7_code 56 = .ok (.istore_n 3, 1) := by decide +kernel
theorem dX7_rule_57 : decode prog_1_method_7_code 57 = .ok (.aload_n 0, 1) := by decide +kernel
theorem dX7_rule_58 : decode prog_1_method_7_code 58 = .ok (.getfield 10, 3) := by decide +kernel
theorem dX7_rule_61 : decode prog_1_method_7_code 61 = .ok (.iload_n 2, 1) := by decide +kernel
theorem dX7_rule_62 : decode prog_1_method_7_code 62 = .ok (.putfield 96, 3) := by decide +kernel
theorem dX7_rule_65 : decode prog_1_method_7_code 65 = .ok (.goto 35, 3) := by decide +kernel
theorem dX7_rule_68 : decode prog_1_method_7_code 68 = .ok (.iload_n 1, 1) := by decide +kernel
theorem dX7_rule_69 : decode prog_1_method_7_code 69 = .ok (.iconst 2, 1) := by decide +kernel
theorem dX7_rule_70 : decode prog_1_method_7_code 70 = .ok (.if_icmp .ne 30, 3) := by decide +kernel
theorem dX7_rule_73 : decode prog_1_method_7_code 73 = .ok (.aload_n 0, 1) := by decide +kernel
theorem dX7_rule_74 : decode prog_1_method_7_code 74 = .ok (.getfield 10, 3) := by decide +kernel
theorem dX7_rule_77 : decode prog_1_method_7_code 77 = .ok (.iload_n 2, 1) := by decide +kernel
theorem dX7_rule_78 : decode prog_1_method_7_code 78 = .ok (.invokevirtual 72, 3) := by decide +kernel
theorem dX7_rule_81 : decode prog_1_method_7_code 81 = .ok (.ifCond .eq 19, 3) := by decide +kernel
theorem dX7_rule_84 : decode prog_1_method_7_code 84 = .ok (.aload_n 0, 1) := by decide +kernel
theorem dX7_rule_85 : decode prog_1_method_7_code 85 = .ok (.getfield 10, 3) := by decide +kernel
theorem dX7_rule_88 : decode prog_1_method_7_code 88 = .ok (.getfield 99, 3) := by decide +kernel
theorem dX7_rule_91 : decode prog_1_method_7_code 91 = .ok (.istore_n 3, 1) := by decide +kernel
theorem dX7_rule_92 : decode prog_1_method_7_code 92 = .ok (.aload_n 0, 1) := by decide +kernel
theorem dX7_rule_93 : decode prog_1_method_7_code 93 = .ok (.getfield 10, 3) := by decide +kernel
theorem dX7_rule_96 : decode prog_1_method_7_code 96 = .ok (.iload_n 2, 1) := by decide +kernel
theorem dX7_rule_97 : decode prog_1_method_7_code 97 = .ok (.putfield 99, 3) := by decide +kernel
theorem dX7_rule_100 : decode prog_1_method_7_code 100 = .ok (.iload_n 3, 1) := by decide +kernel
theorem dX7_rule_101 : decode prog_1_method_7_code 101 = .ok (.ireturn, 1) := by decide +kernel
theorem dX2_addStop_0 : decode prog_4_method_9_code 0 = .ok (.aload_n 0, 1) := by decide +kernel
theorem dX2_addStop_1 : decode prog_4_method_9_code 1 = .ok (.getfield 64, 3) := by decide +kernel
theorem dX2_addStop_4 : decode prog_4_method_9_code 4 = .ok (.bipush 10, 2) := by decide +kernel
theorem dX2_addStop_6 : decode prog_4_method_9_code 6 = .ok (.if_icmp .ge 52, 3) := by decide +kernel
theorem dX2_addStop_9 : decode prog_4_method_9_code 9 = .ok (.aload_n 0, 1) := by decide +kernel
theorem dX2_addStop_10 : decode prog_4_method_9_code 10 = .ok (.getfield 23, 3) := by decide +kernel
theorem dX2_addStop_13 : decode prog_4_method_9_code 13 = .ok (.aload_n 0, 1) := by decide +kernel
theorem dX2_addStop_14 : decode prog_4_method_9_code 14 = .ok (.getfield 64, 3) := by decide +kernel
theorem dX2_addStop_17 : decode prog_4_method_9_code 17 = .ok (.aaload, 1) := by decide +kernel
theorem dX2_addStop_18 : decode prog_4_method_9_code 18 = .ok (.iload_n 1, 1) := by decide +kernel
theorem dX2_addStop_19 : decode prog_4_method_9_code 19 = .ok (.putfield 114, 3) := by decide +kernel
theorem dX2_addStop_22 : decode prog_4_method_9_code 22 = .ok (.aload_n 0, 1) := by decide +kernel
theorem dX2_addStop_23 : decode prog_4_method_9_code 23 = .ok (.getfield 23, 3) := by decide +kernel
theorem dX2_addStop_26 : decode prog_4_method_9_code 26 = .ok (.aload_n 0, 1) := by decide +kernel
theorem dX2_addStop_27 : decode prog_4_method_9_code 27 = .ok (.getfield 64, 3) := by decide +kernel
theorem dX2_addStop_30 : decode prog_4_method_9_code 30 = .ok (.aaload, 1) := by decide +kernel
theorem dX2_addStop_31 : decode prog_4_method_9_code 31 = .ok (.iload_n 2, 1) := by decide +kernel
theorem dX2_addStop_32 : decode prog_4_method_9_code 32 = .ok (.putfield 117, 3) := by decide +kernel
theorem dX2_addStop_35 : decode prog_4_method_9_code 35 = .ok (.aload_n 0, 1) := by decide +kernel
theorem dX2_addStop_36 : decode prog_4_method_9_code 36 = .ok (.getfield 23, 3) := by decide +kernel
theorem dX2_addStop_39 : decode prog_4_method_9_code 39 = .ok (.aload_n 0, 1) := by decide +kernel
theorem dX2_addStop_40 : decode prog_4_method_9_code 40 = .ok (.getfield 64, 3) := by decide +kernel
theorem dX2_addStop_43 : decode prog_4_method_9_code 43 = .ok (.aaload, 1) := by decide +kernel
theorem dX2_addStop_44 : decode prog_4_method_9_code 44 = .ok (.iload_n 3, 1) := by decide +kernel
theorem dX2_addStop_45 : decode prog_4_method_9_code 45 = .ok (.putfield 120, 3) := by decide +kernel
theorem dX2_addStop_48 : decode prog_4_method_9_code 48 = .ok (.aload_n 0, 1) := by decide +kernel
theorem dX2_addStop_49 : decode prog_4_method_9_code 49 = .ok (.dup, 1) := by decide +kernel
theorem dX2_addStop_50 : decode prog_4_method_9_code 50 = .ok (.getfield 64, 3) := by decide +kernel
theorem dX2_addStop_53 : decode prog_4_method_9_code 53 = .ok (.iconst 1, 1) := by decide +kernel
theorem dX2_addStop_54 : decode prog_4_method_9_code 54 = .ok (.iadd, 1) := by decide +kernel
theorem dX2_addStop_55 : decode prog_4_method_9_code 55 = .ok (.putfield 64, 3) := by decide +kernel
theorem dX2_addStop_58 : decode prog_4_method_9_code 58 = .ok (.return_, 1) := by decide +kernel
theorem dX7_isKind_0 : decode prog_1_method_51_code 0 = .ok (.iload_n 0, 1) := by decide +kernel
theorem dX7_isKind_1 : decode prog_1_method_51_code 1 = .ok (.iconst 0, 1) := by decide +kernel
theorem dX7_isKind_2 : decode prog_1_method_51_code 2 = .ok (.getstatic 151, 3) := by decide +kernel
theorem dX7_isKind_5 : decode prog_1_method_51_code 5 = .ok (.arraylength, 1) := by decide +kernel
theorem dX7_isKind_6 : decode prog_1_method_51_code 6 = .ok (.iconst 1, 1) := by decide +kernel
theorem dX7_isKind_7 : decode prog_1_method_51_code 7 = .ok (.isub, 1) := by decide +kernel
theorem dX7_isKind_8 : decode prog_1_method_51_code 8 = .ok (.invokestatic 47, 3) := by decide +kernel
theorem dX7_isKind_11 : decode prog_1_method_51_code 11 = .ok (.ireturn, 1) := by decide +kernel
theorem dX7_stop_0 : decode prog_1_method_8_code 0 = .ok (.iload_n 1, 1) := by decide +kernel
theorem dX7_stop_1 : decode prog_1_method_8_code 1 = .ok (.invokestatic 102, 3) := by decide +kernel
theorem dX7_stop_4 : decode prog_1_method_8_code 4 = .ok (.ifCond .eq 23, 3) := by decide +kernel
theorem dX7_stop_7 : decode prog_1_method_8_code 7 = .ok (.iload_n 2, 1) := by decide +kernel
theorem dX7_stop_8 : decode prog_1_method_8_code 8 = .ok (.iconst 0, 1) := by decide +kernel
theorem dX7_stop_9 : decode prog_1_method_8_code 9 = .ok (.bipush 99, 2) := by decide +kernel
theorem dX7_stop_11 : decode prog_1_method_8_code 11 = .ok (.invokestatic 47, 3) := by decide +kernel
theorem dX7_stop_14 : decode prog_1_method_8_code 14 = .ok (.ifCond .eq 13, 3) := by decide +kernel
theorem dX7_stop_17 : decode prog_1_method_8_code 17 = .ok (.iload_n 3, 1) := by decide +kernel
theorem dX7_stop_18 : decode prog_1_method_8_code 18 = .ok (.iconst 0, 1) := by decide +kernel
theorem dX7_stop_19 : decode prog_1_method_8_code 19 = .ok (.bipush 9, 2) := by decide +kernel
theorem dX7_stop_21 : decode prog_1_method_8_code 21 = .ok (.invokestatic 47, 3) := by decide +kernel
theorem dX7_stop_24 : decode prog_1_method_8_code 24 = .ok (.ifCond .ne 6, 3) := by decide +kernel
theorem dX7_stop_27 : decode prog_1_method_8_code 27 = .ok (.ldc 51, 2) := by decide +kernel
theorem dX7_stop_29 : decode prog_1_method_8_code 29 = .ok (.ireturn, 1) := by decide +kernel
theorem dX7_stop_30 : decode prog_1_method_8_code 30 = .ok (.aload_n 0, 1) := by decide +kernel
theorem dX7_stop_31 : decode prog_1_method_8_code 31 = .ok (.getfield 10, 3) := by decide +kernel
theorem dX7_stop_34 : decode prog_1_method_8_code 34 = .ok (.getfield 105, 3) := by decide +kernel
theorem dX7_stop_37 : decode prog_1_method_8_code 37 = .ok (.bipush 10, 2) := by decide +kernel
theorem dX7_stop_39 : decode prog_1_method_8_code 39 = .ok (.if_icmp .lt 6, 3) := by decide +kernel
theorem dX7_stop_42 : decode prog_1_method_8_code 42 = .ok (.ldc 56, 2) := by decide +kernel
theorem dX7_stop_44 : decode prog_1_method_8_code 44 = .ok (.ireturn, 1) := by decide +kernel
theorem dX7_stop_45 : decode prog_1_method_8_code 45 = .ok (.aload_n 0, 1) := by decide +kernel
theorem dX7_stop_46 : decode prog_1_method_8_code 46 = .ok (.getfield 10, 3) := by decide +kernel
theorem dX7_stop_49 : decode prog_1_method_8_code 49 = .ok (.iload_n 1, 1) := by decide +kernel
theorem dX7_stop_50 : decode prog_1_method_8_code 50 = .ok (.iload_n 2, 1) := by decide +kernel
theorem dX7_stop_51 : decode prog_1_method_8_code 51 = .ok (.iload_n 3, 1) := by decide +kernel
theorem dX7_stop_52 : decode prog_1_method_8_code 52 = .ok (.invokevirtual 108, 3) := by decide +kernel
theorem dX7_stop_55 : decode prog_1_method_8_code 55 = .ok (.aload_n 0, 1) := by decide +kernel
theorem dX7_stop_56 : decode prog_1_method_8_code 56 = .ok (.getfield 10, 3) := by decide +kernel
theorem dX7_stop_59 : decode prog_1_method_8_code 59 = .ok (.getfield 105, 3) := by decide +kernel
theorem dX7_stop_62 : decode prog_1_method_8_code 62 = .ok (.iconst 1, 1) := by decide +kernel
theorem dX7_stop_63 : decode prog_1_method_8_code 63 = .ok (.isub, 1) := by decide +kernel
theorem dX7_stop_64 : decode prog_1_method_8_code 64 = .ok (.ireturn, 1) := by decide +kernel
theorem dX2_isStop_0 : decode prog_4_method_5_code 0 = .ok (.iload_n 1, 1) := by decide +kernel
theorem dX2_isStop_1 : decode prog_4_method_5_code 1 = .ok (.iconst 0, 1) := by decide +kernel
theorem dX2_isStop_2 : decode prog_4_method_5_code 2 = .ok (.aload_n 0, 1) := by decide +kernel
theorem dX2_isStop_3 : decode prog_4_method_5_code 3 = .ok (.getfield 64, 3) := by decide +kernel
theorem dX2_isStop_6 : decode prog_4_method_5_code 6 = .ok (.iconst 1, 1) := by decide +kernel
theorem dX2_isStop_7 : decode prog_4_method_5_code 7 = .ok (.isub, 1) := by decide +kernel
theorem dX2_isStop_8 : decode prog_4_method_5_code 8 = .ok (.invokestatic 98, 3) := by decide +kernel
theorem dX2_isStop_11 : decode prog_4_method_5_code 11 = .ok (.ireturn, 1) := by decide +kernel
theorem dX5_isOf_0 : decode prog_7_method_3_code 0 = .ok (.aload_n 0, 1) := by decide +kernel
theorem dX5_isOf_1 : decode prog_7_method_3_code 1 = .ok (.getfield 9, 3) := by decide +kernel
theorem dX5_isOf_4 : decode prog_7_method_3_code 4 = .ok (.invokestatic 21, 3) := by decide +kernel
theorem dX5_isOf_7 : decode prog_7_method_3_code 7 = .ok (.ifCond .eq 19, 3) := by decide +kernel
theorem dX5_isOf_10 : decode prog_7_method_3_code 10 = .ok (.getstatic 25, 3) := by decide +kernel
theorem dX5_isOf_13 : decode prog_7_method_3_code 13 = .ok (.aload_n 0, 1) := by decide +kernel
theorem dX5_isOf_14 : decode prog_7_method_3_code 14 = .ok (.getfield 9, 3) := by decide +kernel
theorem dX5_isOf_17 : decode prog_7_method_3_code 17 = .ok (.iaload, 1) := by decide +kernel
theorem dX5_isOf_18 : decode prog_7_method_3_code 18 = .ok (.iload_n 1, 1) := by decide +kernel
theorem dX5_isOf_19 : decode prog_7_method_3_code 19 = .ok (.if_icmp .ne 7, 3) := by decide +kernel
theorem dX5_isOf_22 : decode prog_7_method_3_code 22 = .ok (.iconst 1, 1) := by decide +kernel
theorem dX5_isOf_23 : decode prog_7_method_3_code 23 = .ok (.goto 4, 3) := by decide +kernel
theorem dX5_isOf_26 : decode prog_7_method_3_code 26 = .ok (.iconst 0, 1) := by decide +kernel
theorem dX5_isOf_27 : decode prog_7_method_3_code 27 = .ok (.istore_n 2, 1) := by decide +kernel
theorem dX5_isOf_28 : decode prog_7_method_3_code 28 = .ok (.iload_n 1, 1) := by decide +kernel
theorem dX5_isOf_29 : decode prog_7_method_3_code 29 = .ok (.aload_n 0, 1) := by decide +kernel
theorem dX5_isOf_30 : decode prog_7_method_3_code 30 = .ok (.getfield 9, 3) := by decide +kernel
theorem dX5_isOf_33 : decode prog_7_method_3_code 33 = .ok (.if_icmp .eq 11, 3) := by decide +kernel
theorem dX5_isOf_36 : decode prog_7_method_3_code 36 = .ok (.iload_n 2, 1) := by decide +kernel
theorem dX5_isOf_37 : decode prog_7_method_3_code 37 = .ok (.ifCond .ne 7, 3) := by decide +kernel
theorem dX5_isOf_40 : decode prog_7_method_3_code 40 = .ok (.iload_n 1, 1) := by decide +kernel
theorem dX5_isOf_41 : decode prog_7_method_3_code 41 = .ok (.ifCond .ne 7, 3) := by decide +kernel
theorem dX5_isOf_44 : decode prog_7_method_3_code 44 = .ok (.iconst 1, 1) := by decide +kernel
theorem dX5_isOf_45 : decode prog_7_method_3_code 45 = .ok (.goto 4, 3) := by decide +kernel
theorem dX5_isOf_48 : decode prog_7_method_3_code 48 = .ok (.iconst 0, 1) := by decide +kernel
theorem dX5_isOf_49 : decode prog_7_method_3_code 49 = .ok (.ireturn, 1) := by decide +kernel
theorem dX2_lastsBy_0 : decode prog_4_method_17_code 0 = .ok (.aload_n 0, 1) := by decide +kernel
theorem dX2_lastsBy_1 : decode prog_4_method_17_code 1 = .ok (.iconst 1, 1) := by decide +kernel
theorem dX2_lastsBy_2 : decode prog_4_method_17_code 2 = .ok (.invokevirtual 130, 3) := by decide +kernel
theorem dX2_lastsBy_5 : decode prog_4_method_17_code 5 = .ok (.astore_n 3, 1) := by decide +kernel
theorem dX2_lastsBy_6 : decode prog_4_method_17_code 6 = .ok (.aload_n 3, 1) := by decide +kernel
theorem dX2_lastsBy_7 : decode prog_4_method_17_code 7 = .ok (.ifnonnull 10, 3) := by decide +kernel
theorem dX2_lastsBy_10 : decode prog_4_method_17_code 10 = .ok (.aload_n 1, 1) := by decide +kernel
theorem dX2_lastsBy_11 : decode prog_4_method_17_code 11 = .ok (.getfield 117, 3) := by decide +kernel
theorem dX2_lastsBy_14 : decode prog_4_method_17_code 14 = .ok (.goto 26, 3) := by decide +kernel
theorem dX2_lastsBy_17 : decode prog_4_method_17_code 17 = .ok (.aload_n 3, 1) := by decide +kernel
theorem dX2_lastsBy_18 : decode prog_4_method_17_code 18 = .ok (.aload_n 1, 1) := by decide +kernel
theorem dX2_lastsBy_19 : decode prog_4_method_17_code 19 = .ok (.getfield 117, 3) := by decide +kernel
theorem dX2_lastsBy_22 : decode prog_4_method_17_code 22 = .ok (.aload_n 0, 1) := by decide +kernel
theorem dX2_lastsBy_23 : decode prog_4_method_17_code 23 = .ok (.getfield 73, 3) := by decide +kernel
theorem dX2_lastsBy_26 : decode prog_4_method_17_code 26 = .ok (.aload_n 0, 1) := by decide +kernel
theorem dX2_lastsBy_27 : decode prog_4_method_17_code 27 = .ok (.getfield 82, 3) := by decide +kernel
theorem dX2_lastsBy_30 : decode prog_4_method_17_code 30 = .ok (.invokevirtual 141, 3) := by decide +kernel
theorem dX2_lastsBy_33 : decode prog_4_method_17_code 33 = .ok (.iconst 0, 1) := by decide +kernel
theorem dX2_lastsBy_34 : decode prog_4_method_17_code 34 = .ok (.sipush 999, 3) := by decide +kernel
theorem dX2_lastsBy_37 : decode prog_4_method_17_code 37 = .ok (.invokestatic 145, 3) := by decide +kernel
theorem dX2_lastsBy_40 : decode prog_4_method_17_code 40 = .ok (.istore 4, 2) := by decide +kernel
theorem dX2_lastsBy_42 : decode prog_4_method_17_code 42 = .ok (.aload_n 1, 1) := by decide +kernel
theorem dX2_lastsBy_43 : decode prog_4_method_17_code 43 = .ok (.iconst 1, 1) := by decide +kernel
theorem dX2_lastsBy_44 : decode prog_4_method_17_code 44 = .ok (.invokevirtual 148, 3) := by decide +kernel
theorem dX2_lastsBy_47 : decode prog_4_method_17_code 47 = .ok (.ifCond .eq 8, 3) := by decide +kernel
theorem dX2_lastsBy_50 : decode prog_4_method_17_code 50 = .ok (.iload 4, 2) := by decide +kernel
theorem dX2_lastsBy_52 : decode prog_4_method_17_code 52 = .ok (.iload_n 2, 1) := by decide +kernel
theorem dX2_lastsBy_53 : decode prog_4_method_17_code 53 = .ok (.iadd, 1) := by decide +kernel
theorem dX2_lastsBy_54 : decode prog_4_method_17_code 54 = .ok (.ireturn, 1) := by decide +kernel
theorem dX2_lastsBy_55 : decode prog_4_method_17_code 55 = .ok (.aload_n 1, 1) := by decide +kernel
theorem dX2_lastsBy_56 : decode prog_4_method_17_code 56 = .ok (.getfield 114, 3) := by decide +kernel
theorem dX2_lastsBy_59 : decode prog_4_method_17_code 59 = .ok (.iconst 5, 1) := by decide +kernel
theorem dX2_lastsBy_60 : decode prog_4_method_17_code 60 = .ok (.if_icmp .ne 14, 3) := by decide +kernel
theorem dX2_lastsBy_63 : decode prog_4_method_17_code 63 = .ok (.iconst 0, 1) := by decide +kernel
theorem dX2_lastsBy_64 : decode prog_4_method_17_code 64 = .ok (.iload 4, 2) := by decide +kernel
theorem dX2_lastsBy_66 : decode prog_4_method_17_code 66 = .ok (.iconst 1, 1) := by decide +kernel
theorem dX2_lastsBy_67 : decode prog_4_method_17_code 67 = .ok (.isub, 1) := by decide +kernel
theorem dX2_lastsBy_68 : decode prog_4_method_17_code 68 = .ok (.invokestatic 111, 3) := by decide +kernel
theorem dX2_lastsBy_71 : decode prog_4_method_17_code 71 = .ok (.goto 5, 3) := by decide +kernel
theorem dX2_lastsBy_74 : decode prog_4_method_17_code 74 = .ok (.iload 4, 2) := by decide +kernel
theorem dX2_lastsBy_76 : decode prog_4_method_17_code 76 = .ok (.ireturn, 1) := by decide +kernel
theorem dX5_worth_0 : decode prog_7_method_4_code 0 = .ok (.aload_n 0, 1) := by decide +kernel
theorem dX5_worth_1 : decode prog_7_method_4_code 1 = .ok (.getfield 9, 3) := by decide +kernel
theorem dX5_worth_4 : decode prog_7_method_4_code 4 = .ok (.tableswitch 74 1 5 #[36, 54, 44, 62, 72], 36) := by decide +kernel
theorem dX5_worth_40 : decode prog_7_method_4_code 40 = .ok (.aload_n 0, 1) := by decide +kernel
theorem dX5_worth_41 : decode prog_7_method_4_code 41 = .ok (.getfield 15, 3) := by decide +kernel
theorem dX5_worth_44 : decode prog_7_method_4_code 44 = .ok (.bipush 9, 2) := by decide +kernel
theorem dX5_worth_46 : decode prog_7_method_4_code 46 = .ok (.iadd, 1) := by decide +kernel
theorem dX5_worth_47 : decode prog_7_method_4_code 47 = .ok (.ireturn, 1) := by decide +kernel
theorem dX5_worth_48 : decode prog_7_method_4_code 48 = .ok (.iconst 2, 1) := by decide +kernel
theorem dX5_worth_49 : decode prog_7_method_4_code 49 = .ok (.aload_n 0, 1) := by decide +kernel
theorem dX5_worth_50 : decode prog_7_method_4_code 50 = .ok (.getfield 15, 3) := by decide +kernel
theorem dX5_worth_53 : decode prog_7_method_4_code 53 = .ok (.bipush 9, 2) := by decide +kernel
theorem dX5_worth_55 : decode prog_7_method_4_code 55 = .ok (.iadd, 1) := by decide +kernel
theorem dX5_worth_56 : decode prog_7_method_4_code 56 = .ok (.imul, 1) := by decide +kernel
theorem dX5_worth_57 : decode prog_7_method_4_code 57 = .ok (.ireturn, 1) := by decide +kernel
theorem dX5_worth_58 : decode prog_7_method_4_code 58 = .ok (.bipush 99, 2) := by decide +kernel
theorem dX5_worth_60 : decode prog_7_method_4_code 60 = .ok (.aload_n 0, 1) := by decide +kernel
theorem dX5_worth_61 : decode prog_7_method_4_code 61 = .ok (.getfield 15, 3) := by decide +kernel
theorem dX5_worth_64 : decode prog_7_method_4_code 64 = .ok (.isub, 1) := by decide +kernel
theorem dX5_worth_65 : decode prog_7_method_4_code 65 = .ok (.ireturn, 1) := by decide +kernel
theorem dX5_worth_66 : decode prog_7_method_4_code 66 = .ok (.bipush 99, 2) := by decide +kernel
theorem dX5_worth_68 : decode prog_7_method_4_code 68 = .ok (.aload_n 0, 1) := by decide +kernel
theorem dX5_worth_69 : decode prog_7_method_4_code 69 = .ok (.getfield 15, 3) := by decide +kernel
theorem dX5_worth_72 : decode prog_7_method_4_code 72 = .ok (.isub, 1) := by decide +kernel
theorem dX5_worth_73 : decode prog_7_method_4_code 73 = .ok (.iconst 5, 1) := by decide +kernel
theorem dX5_worth_74 : decode prog_7_method_4_code 74 = .ok (.isub, 1) := by decide +kernel
theorem dX5_worth_75 : decode prog_7_method_4_code 75 = .ok (.ireturn, 1) := by decide +kernel
theorem dX5_worth_76 : decode prog_7_method_4_code 76 = .ok (.iconst 4, 1) := by decide +kernel
theorem dX5_worth_77 : decode prog_7_method_4_code 77 = .ok (.ireturn, 1) := by decide +kernel
theorem dX5_worth_78 : decode prog_7_method_4_code 78 = .ok (.aload_n 0, 1) := by decide +kernel
theorem dX5_worth_79 : decode prog_7_method_4_code 79 = .ok (.getfield 15, 3) := by decide +kernel
theorem dX5_worth_82 : decode prog_7_method_4_code 82 = .ok (.ireturn, 1) := by decide +kernel
theorem dX7_told_0 : decode prog_1_method_9_code 0 = .ok (.aload_n 0, 1) := by decide +kernel
theorem dX7_told_1 : decode prog_1_method_9_code 1 = .ok (.getfield 10, 3) := by decide +kernel
theorem dX7_told_4 : decode prog_1_method_9_code 4 = .ok (.iload_n 1, 1) := by decide +kernel
theorem dX7_told_5 : decode prog_1_method_9_code 5 = .ok (.invokevirtual 112, 3) := by decide +kernel
theorem dX7_told_8 : decode prog_1_method_9_code 8 = .ok (.ifCond .ne 6, 3) := by decide +kernel
theorem dX7_told_11 : decode prog_1_method_9_code 11 = .ok (.ldc 51, 2) := by decide +kernel
theorem dX7_told_13 : decode prog_1_method_9_code 13 = .ok (.ireturn, 1) := by decide +kernel
theorem dX7_told_14 : decode prog_1_method_9_code 14 = .ok (.aload_n 0, 1) := by decide +kernel
theorem dX7_told_15 : decode prog_1_method_9_code 15 = .ok (.getfield 10, 3) := by decide +kernel
theorem dX7_told_18 : decode prog_1_method_9_code 18 = .ok (.getfield 115, 3) := by decide +kernel
theorem dX7_told_21 : decode prog_1_method_9_code 21 = .ok (.iload_n 1, 1) := by decide +kernel
theorem dX7_told_22 : decode prog_1_method_9_code 22 = .ok (.aaload, 1) := by decide +kernel
theorem dX7_told_23 : decode prog_1_method_9_code 23 = .ok (.astore_n 3, 1) := by decide +kernel
theorem dX7_told_24 : decode prog_1_method_9_code 24 = .ok (.iload_n 2, 1) := by decide +kernel
theorem dX7_told_25 : decode prog_1_method_9_code 25 = .ok (.tableswitch 80 0 5 #[39, 44, 49, 54, 64, 75], 39) := by decide +kernel
theorem dX7_told_64 : decode prog_1_method_9_code 64 = .ok (.aload_n 3, 1) := by decide +kernel
theorem dX7_told_65 : decode prog_1_method_9_code 65 = .ok (.getfield 119, 3) := by decide +kernel
theorem dX7_told_68 : decode prog_1_method_9_code 68 = .ok (.ireturn, 1) := by decide +kernel
theorem dX7_told_69 : decode prog_1_method_9_code 69 = .ok (.aload_n 3, 1) := by decide +kernel
theorem dX7_told_70 : decode prog_1_method_9_code 70 = .ok (.getfield 124, 3) := by decide +kernel
theorem dX7_told_73 : decode prog_1_method_9_code 73 = .ok (.ireturn, 1) := by decide +kernel
theorem dX7_told_74 : decode prog_1_method_9_code 74 = .ok (.aload_n 3, 1) := by decide +kernel
theorem dX7_told_75 : decode prog_1_method_9_code 75 = .ok (.getfield 127, 3) := by decide +kernel
theorem dX7_told_78 : decode prog_1_method_9_code 78 = .ok (.ireturn, 1) := by decide +kernel
theorem dX7_told_79 : decode prog_1_method_9_code 79 = .ok (.aload_n 0, 1) := by decide +kernel
theorem dX7_told_80 : decode prog_1_method_9_code 80 = .ok (.getfield 10, 3) := by decide +kernel
theorem dX7_told_83 : decode prog_1_method_9_code 83 = .ok (.aload_n 3, 1) := by decide +kernel
theorem dX7_told_84 : decode prog_1_method_9_code 84 = .ok (.iconst 0, 1) := by decide +kernel
theorem dX7_told_85 : decode prog_1_method_9_code 85 = .ok (.invokevirtual 130, 3) := by decide +kernel
theorem dX7_told_88 : decode prog_1_method_9_code 88 = .ok (.ireturn, 1) := by decide +kernel
theorem dX7_told_89 : decode prog_1_method_9_code 89 = .ok (.aload_n 0, 1) := by decide +kernel
theorem dX7_told_90 : decode prog_1_method_9_code 90 = .ok (.getfield 10, 3) := by decide +kernel
theorem dX7_told_93 : decode prog_1_method_9_code 93 = .ok (.aload_n 3, 1) := by decide +kernel
theorem dX7_told_94 : decode prog_1_method_9_code 94 = .ok (.bipush 9, 2) := by decide +kernel
theorem dX7_told_96 : decode prog_1_method_9_code 96 = .ok (.invokevirtual 130, 3) := by decide +kernel
theorem dX7_told_99 : decode prog_1_method_9_code 99 = .ok (.ireturn, 1) := by decide +kernel
theorem dX7_told_100 : decode prog_1_method_9_code 100 = .ok (.aload_n 3, 1) := by decide +kernel
theorem dX7_told_101 : decode prog_1_method_9_code 101 = .ok (.invokevirtual 134, 3) := by decide +kernel
theorem dX7_told_104 : decode prog_1_method_9_code 104 = .ok (.ireturn, 1) := by decide +kernel
theorem dX7_told_105 : decode prog_1_method_9_code 105 = .ok (.ldc 51, 2) := by decide +kernel
theorem dX7_told_107 : decode prog_1_method_9_code 107 = .ok (.ireturn, 1) := by decide +kernel
theorem dX7_as_0 : decode prog_1_method_10_code 0 = .ok (.aload_n 0, 1) := by decide +kernel
theorem dX7_as_1 : decode prog_1_method_10_code 1 = .ok (.getfield 10, 3) := by decide +kernel
theorem dX7_as_4 : decode prog_1_method_10_code 4 = .ok (.iload_n 1, 1) := by decide +kernel
theorem dX7_as_5 : decode prog_1_method_10_code 5 = .ok (.invokevirtual 112, 3) := by decide +kernel
theorem dX7_as_8 : decode prog_1_method_10_code 8 = .ok (.ifCond .eq 10, 3) := by decide +kernel
theorem dX7_as_11 : decode prog_1_method_10_code 11 = .ok (.iload_n 2, 1) := by decide +kernel
theorem dX7_as_12 : decode prog_1_method_10_code 12 = .ok (.invokestatic 102, 3) := by decide +kernel
theorem dX7_as_15 : decode prog_1_method_10_code 15 = .ok (.ifCond .ne 6, 3) := by decide +kernel
theorem dX7_as_18 : decode prog_1_method_10_code 18 = .ok (.ldc 51, 2) := by decide +kernel
theorem dX7_as_20 : decode prog_1_method_10_code 20 = .ok (.ireturn, 1) := by decide +kernel
theorem dX7_as_21 : decode prog_1_method_10_code 21 = .ok (.aload_n 0, 1) := by decide +kernel
theorem dX7_as_22 : decode prog_1_method_10_code 22 = .ok (.getfield 10, 3) := by decide +kernel
theorem dX7_as_25 : decode prog_1_method_10_code 25 = .ok (.getfield 115, 3) := by decide +kernel
theorem dX7_as_28 : decode prog_1_method_10_code 28 = .ok (.iload_n 1, 1) := by decide +kernel
theorem dX7_as_29 : decode prog_1_method_10_code 29 = .ok (.aaload, 1) := by decide +kernel
theorem dX7_as_30 : decode prog_1_method_10_code 30 = .ok (.astore_n 3, 1) := by decide +kernel
theorem dX7_as_31 : decode prog_1_method_10_code 31 = .ok (.aload_n 3, 1) := by decide +kernel
theorem dX7_as_32 : decode prog_1_method_10_code 32 = .ok (.iload_n 2, 1) := by decide +kernel
theorem dX7_as_33 : decode prog_1_method_10_code 33 = .ok (.invokevirtual 138, 3) := by decide +kernel
theorem dX7_as_36 : decode prog_1_method_10_code 36 = .ok (.ifCond .eq 10, 3) := by decide +kernel
theorem dX7_as_39 : decode prog_1_method_10_code 39 = .ok (.aload_n 3, 1) := by decide +kernel
theorem dX7_as_40 : decode prog_1_method_10_code 40 = .ok (.getfield 124, 3) := by decide +kernel
theorem dX7_as_43 : decode prog_1_method_10_code 43 = .ok (.goto 5, 3) := by decide +kernel
theorem dX7_as_46 : decode prog_1_method_10_code 46 = .ok (.ldc 141, 2) := by decide +kernel
theorem dX7_as_48 : decode prog_1_method_10_code 48 = .ok (.ireturn, 1) := by decide +kernel
theorem dX7_turns_0 : decode prog_1_method_11_code 0 = .ok (.aload_n 0, 1) := by decide +kernel
theorem dX7_turns_1 : decode prog_1_method_11_code 1 = .ok (.getfield 10, 3) := by decide +kernel
theorem dX7_turns_4 : decode prog_1_method_11_code 4 = .ok (.iload_n 1, 1) := by decide +kernel
theorem dX7_turns_5 : decode prog_1_method_11_code 5 = .ok (.invokevirtual 112, 3) := by decide +kernel
theorem dX7_turns_8 : decode prog_1_method_11_code 8 = .ok (.ifCond .eq 10, 3) := by decide +kernel
theorem dX7_turns_11 : decode prog_1_method_11_code 11 = .ok (.iload_n 2, 1) := by decide +kernel
theorem dX7_turns_12 : decode prog_1_method_11_code 12 = .ok (.invokestatic 102, 3) := by decide +kernel
theorem dX7_turns_15 : decode prog_1_method_11_code 15 = .ok (.ifCond .ne 6, 3) := by decide +kernel
theorem dX7_turns_18 : decode prog_1_method_11_code 18 = .ok (.ldc 51, 2) := by decide +kernel
theorem dX7_turns_20 : decode prog_1_method_11_code 20 = .ok (.ireturn, 1) := by decide +kernel
theorem dX7_turns_21 : decode prog_1_method_11_code 21 = .ok (.aload_n 0, 1) := by decide +kernel
theorem dX7_turns_22 : decode prog_1_method_11_code 22 = .ok (.getfield 10, 3) := by decide +kernel
theorem dX7_turns_25 : decode prog_1_method_11_code 25 = .ok (.getfield 115, 3) := by decide +kernel
theorem dX7_turns_28 : decode prog_1_method_11_code 28 = .ok (.iload_n 1, 1) := by decide +kernel
theorem dX7_turns_29 : decode prog_1_method_11_code 29 = .ok (.aaload, 1) := by decide +kernel
theorem dX7_turns_30 : decode prog_1_method_11_code 30 = .ok (.getfield 119, 3) := by decide +kernel
theorem dX7_turns_33 : decode prog_1_method_11_code 33 = .ok (.istore_n 3, 1) := by decide +kernel
theorem dX7_turns_34 : decode prog_1_method_11_code 34 = .ok (.aload_n 0, 1) := by decide +kernel
theorem dX7_turns_35 : decode prog_1_method_11_code 35 = .ok (.getfield 10, 3) := by decide +kernel
theorem dX7_turns_38 : decode prog_1_method_11_code 38 = .ok (.getfield 115, 3) := by decide +kernel
theorem dX7_turns_41 : decode prog_1_method_11_code 41 = .ok (.iload_n 1, 1) := by decide +kernel
theorem dX7_turns_42 : decode prog_1_method_11_code 42 = .ok (.aaload, 1) := by decide +kernel
theorem dX7_turns_43 : decode prog_1_method_11_code 43 = .ok (.iload_n 2, 1) := by decide +kernel
theorem dX7_turns_44 : decode prog_1_method_11_code 44 = .ok (.putfield 119, 3) := by decide +kernel
theorem dX7_turns_47 : decode prog_1_method_11_code 47 = .ok (.iload_n 3, 1) := by decide +kernel
theorem dX7_turns_48 : decode prog_1_method_11_code 48 = .ok (.ireturn, 1) := by decide +kernel
theorem dX7_set_0 : decode prog_1_method_12_code 0 = .ok (.aload_n 0, 1) := by decide +kernel
theorem dX7_set_1 : decode prog_1_method_12_code 1 = .ok (.getfield 10, 3) := by decide +kernel
theorem dX7_set_4 : decode prog_1_method_12_code 4 = .ok (.iload_n 1, 1) := by decide +kernel
theorem dX7_set_5 : decode prog_1_method_12_code 5 = .ok (.invokevirtual 112, 3) := by decide +kernel
theorem dX7_set_8 : decode prog_1_method_12_code 8 = .ok (.ifCond .ne 6, 3) := by decide +kernel
theorem dX7_set_11 : decode prog_1_method_12_code 11 = .ok (.ldc 51, 2) := by decide +kernel
theorem dX7_set_13 : decode prog_1_method_12_code 13 = .ok (.ireturn, 1) := by decide +kernel
theorem dX7_set_14 : decode prog_1_method_12_code 14 = .ok (.aload_n 0, 1) := by decide +kernel
theorem dX7_set_15 : decode prog_1_method_12_code 15 = .ok (.getfield 10, 3) := by decide +kernel
theorem dX7_set_18 : decode prog_1_method_12_code 18 = .ok (.getfield 115, 3) := by decide +kernel
theorem dX7_set_21 : decode prog_1_method_12_code 21 = .ok (.iload_n 1, 1) := by decide +kernel
theorem dX7_set_22 : decode prog_1_method_12_code 22 = .ok (.aaload, 1) := by decide +kernel
theorem dX7_set_23 : decode prog_1_method_12_code 23 = .ok (.astore 4, 2) := by decide +kernel
theorem dX7_set_25 : decode prog_1_method_12_code 25 = .ok (.ldc 51, 2) := by decide +kernel
theorem dX7_set_27 : decode prog_1_method_12_code 27 = .ok (.istore 5, 2) := by decide +kernel
theorem dX7_set_29 : decode prog_1_method_12_code 29 = .ok (.iload_n 2, 1) := by decide +kernel
theorem dX7_set_30 : decode prog_1_method_12_code 30 = .ok (.iconst 1, 1) := by decide +kernel
theorem dX7_set_31 : decode prog_1_method_12_code 31 = .ok (.if_icmp .ne 29, 3) := by decide +kernel
theorem dX7_set_34 : decode prog_1_method_12_code 34 = .ok (.iload_n 3, 1) := by decide +kernel
theorem dX7_set_35 : decode prog_1_method_12_code 35 = .ok (.iconst 0, 1) := by decide +kernel
theorem dX7_set_36 : decode prog_1_method_12_code 36 = .ok (.bipush 99, 2) := by decide +kernel
theorem dX7_set_38 : decode prog_1_method_12_code 38 = .ok (.invokestatic 47, 3) := by decide +kernel
theorem dX7_set_41 : decode prog_1_method_12_code 41 = .ok (.ifCond .eq 19, 3) := by decide +kernel
theorem dX7_set_44 : decode prog_1_method_12_code 44 = .ok (.aload 4, 2) := by decide +kernel
theorem dX7_set_46 : decode prog_1_method_12_code 46 = .ok (.getfield 124, 3) := by decide +kernel
theorem dX7_set_49 : decode prog_1_method_12_code 49 = .ok (.istore 5, 2) := by decide +kernel
theorem dX7_set_51 : decode prog_1_method_12_code 51 = .ok (.aload 4, 2) := by decide +kernel
theorem dX7_set_53 : decode prog_1_method_12_code 53 = .ok (.iload_n 3, 1) := by decide +kernel
theorem dX7_set_54 : decode prog_1_method_12_code 54 = .ok (.putfield 124, 3) := by decide +kernel
theorem dX7_set_57 : decode prog_1_method_12_code 57 = .ok (.goto 31, 3) := by decide +kernel
theorem dX7_set_60 : decode prog_1_method_12_code 60 = .ok (.iload_n 2, 1) := by decide +kernel
theorem dX7_set_61 : decode prog_1_method_12_code 61 = .ok (.iconst 2, 1) := by decide +kernel
theorem dX7_set_62 : decode prog_1_method_12_code 62 = .ok (.if_icmp .ne 26, 3) := by decide +kernel
theorem dX7_set_65 : decode prog_1_method_12_code 65 = .ok (.iload_n 3, 1) := by decide +kernel
theorem dX7_set_66 : decode prog_1_method_12_code 66 = .ok (.iconst 0, 1) := by decide +kernel
theorem dX7_set_67 : decode prog_1_method_12_code 67 = .ok (.bipush 9, 2) := by decide +kernel
theorem dX7_set_69 : decode prog_1_method_12_code 69 = .ok (.invokestatic 47, 3) := by decide +kernel
theorem dX7_set_72 : decode prog_1_method_12_code 72 = .ok (.ifCond .eq 16, 3) := by decide +kernel
theorem dX7_set_75 : decode prog_1_method_12_code 75 = .ok (.aload 4, 2) := by decide +kernel
theorem dX7_set_77 : decode prog_1_method_12_code 77 = .ok (.getfield 127, 3) := by decide +kernel
theorem dX7_set_80 : decode prog_1_method_12_code 80 = .ok (.istore 5, 2) := by decide +kernel
theorem dX7_set_82 : decode prog_1_method_12_code 82 = .ok (.aload 4, 2) := by decide +kernel
theorem dX7_set_84 : decode prog_1_method_12_code 84 = .ok (.iload_n 3, 1) := by decide +kernel
theorem dX7_set_85 : decode prog_1_method_12_code 85 = .ok (.putfield 127, 3) := by decide +kernel
theorem dX7_set_88 : decode prog_1_method_12_code 88 = .ok (.iload 5, 2) := by decide +kernel
theorem dX7_set_90 : decode prog_1_method_12_code 90 = .ok (.ireturn, 1) := by decide +kernel
theorem dX2_draw_0 : decode prog_4_method_11_code 0 = .ok (.aload_n 0, 1) := by decide +kernel
theorem dX2_draw_1 : decode prog_4_method_11_code 1 = .ok (.aload_n 0, 1) := by decide +kernel
theorem dX2_draw_2 : decode prog_4_method_11_code 2 = .ok (.getfield 43, 3) := by decide +kernel
theorem dX2_draw_5 : decode prog_4_method_11_code 5 = .ok (.ldc 126, 2) := by decide +kernel
theorem dX2_draw_7 : decode prog_4_method_11_code 7 = .ok (.imul, 1) := by decide +kernel
theorem dX2_draw_8 : decode prog_4_method_11_code 8 = .ok (.sipush 12345, 3) := by decide +kernel
theorem dX2_draw_11 : decode prog_4_method_11_code 11 = .ok (.iadd, 1) := by decide +kernel
theorem dX2_draw_12 : decode prog_4_method_11_code 12 = .ok (.putfield 43, 3) := by decide +kernel
theorem dX2_draw_15 : decode prog_4_method_11_code 15 = .ok (.aload_n 0, 1) := by decide +kernel
theorem dX2_draw_16 : decode prog_4_method_11_code 16 = .ok (.getfield 43, 3) := by decide +kernel
theorem dX2_draw_19 : decode prog_4_method_11_code 19 = .ok (.bipush 8, 2) := by decide +kernel
theorem dX2_draw_21 : decode prog_4_method_11_code 21 = .ok (.iushr, 1) := by decide +kernel
theorem dX2_draw_22 : decode prog_4_method_11_code 22 = .ok (.ireturn, 1) := by decide +kernel
theorem dX7_deal_0 : decode prog_1_method_13_code 0 = .ok (.iload_n 1, 1) := by decide +kernel
theorem dX7_deal_1 : decode prog_1_method_13_code 1 = .ok (.iconst 1, 1) := by decide +kernel
theorem dX7_deal_2 : decode prog_1_method_13_code 2 = .ok (.bipush 10, 2) := by decide +kernel
theorem dX7_deal_4 : decode prog_1_method_13_code 4 = .ok (.invokestatic 47, 3) := by decide +kernel
theorem dX7_deal_7 : decode prog_1_method_13_code 7 = .ok (.ifCond .ne 6, 3) := by decide +kernel
theorem dX7_deal_10 : decode prog_1_method_13_code 10 = .ok (.ldc 51, 2) := by decide +kernel
theorem dX7_deal_12 : decode prog_1_method_13_code 12 = .ok (.ireturn, 1) := by decide +kernel
theorem dX7_deal_13 : decode prog_1_method_13_code 13 = .ok (.iload_n 1, 1) := by decide +kernel
theorem dX7_deal_14 : decode prog_1_method_13_code 14 = .ok (.bipush 10, 2) := by decide +kernel
theorem dX7_deal_16 : decode prog_1_method_13_code 16 = .ok (.aload_n 0, 1) := by decide +kernel
theorem dX7_deal_17 : decode prog_1_method_13_code 17 = .ok (.getfield 10, 3) := by decide +kernel
theorem dX7_deal_20 : decode prog_1_method_13_code 20 = .ok (.getfield 105, 3) := by decide +kernel
theorem dX7_deal_23 : decode prog_1_method_13_code 23 = .ok (.isub, 1) := by decide +kernel
theorem dX7_deal_24 : decode prog_1_method_13_code 24 = .ok (.invokestatic 142, 3) := by decide +kernel
theorem dX7_deal_27 : decode prog_1_method_13_code 27 = .ok (.istore_n 2, 1) := by decide +kernel
theorem dX7_deal_28 : decode prog_1_method_13_code 28 = .ok (.iconst 0, 1) := by decide +kernel
theorem dX7_deal_29 : decode prog_1_method_13_code 29 = .ok (.istore_n 3, 1) := by decide +kernel
theorem dX7_deal_30 : decode prog_1_method_13_code 30 = .ok (.iload_n 3, 1) := by decide +kernel
theorem dX7_deal_31 : decode prog_1_method_13_code 31 = .ok (.iload_n 2, 1) := by decide +kernel
theorem dX7_deal_32 : decode prog_1_method_13_code 32 = .ok (.if_icmp .ge 60, 3) := by decide +kernel
theorem dX7_deal_35 : decode prog_1_method_13_code 35 = .ok (.aload_n 0, 1) := by decide +kernel
theorem dX7_deal_36 : decode prog_1_method_13_code 36 = .ok (.getfield 10, 3) := by decide +kernel
theorem dX7_deal_39 : decode prog_1_method_13_code 39 = .ok (.invokevirtual 148, 3) := by decide +kernel
theorem dX7_deal_42 : decode prog_1_method_13_code 42 = .ok (.getstatic 151, 3) := by decide +kernel
theorem dX7_deal_45 : decode prog_1_method_13_code 45 = .ok (.arraylength, 1) := by decide +kernel
theorem dX7_deal_46 : decode prog_1_method_13_code 46 = .ok (.irem, 1) := by decide +kernel
theorem dX7_deal_47 : decode prog_1_method_13_code 47 = .ok (.istore 4, 2) := by decide +kernel
theorem dX7_deal_49 : decode prog_1_method_13_code 49 = .ok (.aload_n 0, 1) := by decide +kernel
theorem dX7_deal_50 : decode prog_1_method_13_code 50 = .ok (.getfield 10, 3) := by decide +kernel
theorem dX7_deal_53 : decode prog_1_method_13_code 53 = .ok (.invokevirtual 148, 3) := by decide +kernel
theorem dX7_deal_56 : decode prog_1_method_13_code 56 = .ok (.bipush 60, 2) := by decide +kernel
theorem dX7_deal_58 : decode prog_1_method_13_code 58 = .ok (.irem, 1) := by decide +kernel
theorem dX7_deal_59 : decode prog_1_method_13_code 59 = .ok (.istore 5, 2) := by decide +kernel
theorem dX7_deal_61 : decode prog_1_method_13_code 61 = .ok (.aload_n 0, 1) := by decide +kernel
theorem dX7_deal_62 : decode prog_1_method_13_code 62 = .ok (.getfield 10, 3) := by decide +kernel
theorem dX7_deal_65 : decode prog_1_method_13_code 65 = .ok (.invokevirtual 148, 3) := by decide +kernel
theorem dX7_deal_68 : decode prog_1_method_13_code 68 = .ok (.bipush 10, 2) := by decide +kernel
theorem dX7_deal_70 : decode prog_1_method_13_code 70 = .ok (.irem, 1) := by decide +kernel
theorem dX7_deal_71 : decode prog_1_method_13_code 71 = .ok (.istore 6, 2) := by decide +kernel
theorem dX7_deal_73 : decode prog_1_method_13_code 73 = .ok (.aload_n 0, 1) := by decide +kernel
theorem dX7_deal_74 : decode prog_1_method_13_code 74 = .ok (.getfield 10, 3) := by decide +kernel
theorem dX7_deal_77 : decode prog_1_method_13_code 77 = .ok (.iload 4, 2) := by decide +kernel
theorem dX7_deal_79 : decode prog_1_method_13_code 79 = .ok (.iload 5, 2) := by decide +kernel
theorem dX7_deal_81 : decode prog_1_method_13_code 81 = .ok (.iload 6, 2) := by decide +kernel
theorem dX7_deal_83 : decode prog_1_method_13_code 83 = .ok (.invokevirtual 108, 3) := by decide +kernel
theorem dX7_deal_86 : decode prog_1_method_13_code 86 = .ok (.iinc 3 1, 3) := by decide +kernel
theorem dX7_deal_89 : decode prog_1_method_13_code 89 = .ok (.goto (-59), 3) := by decide +kernel
theorem dX7_deal_92 : decode prog_1_method_13_code 92 = .ok (.iload_n 2, 1) := by decide +kernel
theorem dX7_deal_93 : decode prog_1_method_13_code 93 = .ok (.ireturn, 1) := by decide +kernel
theorem dX7_seed_0 : decode prog_1_method_14_code 0 = .ok (.aload_n 0, 1) := by decide +kernel
theorem dX7_seed_1 : decode prog_1_method_14_code 1 = .ok (.getfield 10, 3) := by decide +kernel
theorem dX7_seed_4 : decode prog_1_method_14_code 4 = .ok (.getfield 154, 3) := by decide +kernel
theorem dX7_seed_7 : decode prog_1_method_14_code 7 = .ok (.istore_n 2, 1) := by decide +kernel
theorem dX7_seed_8 : decode prog_1_method_14_code 8 = .ok (.aload_n 0, 1) := by decide +kernel
theorem dX7_seed_9 : decode prog_1_method_14_code 9 = .ok (.getfield 10, 3) := by decide +kernel
theorem dX7_seed_12 : decode prog_1_method_14_code 12 = .ok (.iload_n 1, 1) := by decide +kernel
theorem dX7_seed_13 : decode prog_1_method_14_code 13 = .ok (.putfield 154, 3) := by decide +kernel
theorem dX7_seed_16 : decode prog_1_method_14_code 16 = .ok (.iload_n 2, 1) := by decide +kernel
theorem dX7_seed_17 : decode prog_1_method_14_code 17 = .ok (.ireturn, 1) := by decide +kernel
theorem dX2_landsBehind_0 : decode prog_4_method_21_code 0 = .ok (.iload_n 2, 1) := by decide +kernel
theorem dX2_landsBehind_1 : decode prog_4_method_21_code 1 = .ok (.ifCond .gt 5, 3) := by decide +kernel
theorem dX2_landsBehind_4 : decode prog_4_method_21_code 4 = .ok (.iconst (-1), 1) := by decide +kernel
theorem dX2_landsBehind_5 : decode prog_4_method_21_code 5 = .ok (.ireturn, 1) := by decide +kernel
theorem dX2_landsBehind_6 : decode prog_4_method_21_code 6 = .ok (.aload_n 0, 1) := by decide +kernel
theorem dX2_landsBehind_7 : decode prog_4_method_21_code 7 = .ok (.aload_n 0, 1) := by decide +kernel
theorem dX2_landsBehind_8 : decode prog_4_method_21_code 8 = .ok (.getfield 76, 3) := by decide +kernel
theorem dX2_landsBehind_11 : decode prog_4_method_21_code 11 = .ok (.invokevirtual 155, 3) := by decide +kernel
theorem dX2_landsBehind_14 : decode prog_4_method_21_code 14 = .ok (.ifCond .eq 10, 3) := by decide +kernel
theorem dX2_landsBehind_17 : decode prog_4_method_21_code 17 = .ok (.aload_n 0, 1) := by decide +kernel
theorem dX2_landsBehind_18 : decode prog_4_method_21_code 18 = .ok (.getfield 76, 3) := by decide +kernel
theorem dX2_landsBehind_21 : decode prog_4_method_21_code 21 = .ok (.goto 11, 3) := by decide +kernel
theorem dX2_landsBehind_24 : decode prog_4_method_21_code 24 = .ok (.aload_n 0, 1) := by decide +kernel
theorem dX2_landsBehind_25 : decode prog_4_method_21_code 25 = .ok (.aload_n 0, 1) := by decide +kernel
theorem dX2_landsBehind_26 : decode prog_4_method_21_code 26 = .ok (.getfield 76, 3) := by decide +kernel
theorem dX2_landsBehind_29 : decode prog_4_method_21_code 29 = .ok (.invokevirtual 162, 3) := by decide +kernel
theorem dX2_landsBehind_32 : decode prog_4_method_21_code 32 = .ok (.istore_n 3, 1) := by decide +kernel
theorem dX2_landsBehind_33 : decode prog_4_method_21_code 33 = .ok (.iload_n 1, 1) := by decide +kernel
theorem dX2_landsBehind_34 : decode prog_4_method_21_code 34 = .ok (.iload_n 2, 1) := by decide +kernel
theorem dX2_landsBehind_35 : decode prog_4_method_21_code 35 = .ok (.irem, 1) := by decide +kernel
theorem dX2_landsBehind_36 : decode prog_4_method_21_code 36 = .ok (.istore 4, 2) := by decide +kernel
theorem dX2_landsBehind_38 : decode prog_4_method_21_code 38 = .ok (.iconst 0, 1) := by decide +kernel
theorem dX2_landsBehind_39 : decode prog_4_method_21_code 39 = .ok (.istore 5, 2) := by decide +kernel
theorem dX2_landsBehind_41 : decode prog_4_method_21_code 41 = .ok (.iload 5, 2) := by decide +kernel
theorem dX2_landsBehind_43 : decode prog_4_method_21_code 43 = .ok (.aload_n 0, 1) := by decide +kernel
theorem dX2_landsBehind_44 : decode prog_4_method_21_code 44 = .ok (.getfield 48, 3) := by decide +kernel
theorem dX2_landsBehind_47 : decode prog_4_method_21_code 47 = .ok (.if_icmp .ge 45, 3) := by decide +kernel
theorem dX2_landsBehind_50 : decode prog_4_method_21_code 50 = .ok (.aload_n 0, 1) := by decide +kernel
theorem dX2_landsBehind_51 : decode prog_4_method_21_code 51 = .ok (.iload_n 3, 1) := by decide +kernel
theorem dX2_landsBehind_52 : decode prog_4_method_21_code 52 = .ok (.invokevirtual 91, 3) := by decide +kernel
theorem dX2_landsBehind_55 : decode prog_4_method_21_code 55 = .ok (.ifCond .eq 37, 3) := by decide +kernel
theorem dX2_landsBehind_58 : decode prog_4_method_21_code 58 = .ok (.iload 4, 2) := by decide +kernel
theorem dX2_landsBehind_60 : decode prog_4_method_21_code 60 = .ok (.aload_n 0, 1) := by decide +kernel
theorem dX2_landsBehind_61 : decode prog_4_method_21_code 61 = .ok (.getfield 36, 3) := by decide +kernel
theorem dX2_landsBehind_64 : decode prog_4_method_21_code 64 = .ok (.iload_n 3, 1) := by decide +kernel
theorem dX2_landsBehind_65 : decode prog_4_method_21_code 65 = .ok (.iaload, 1) := by decide +kernel
theorem dX2_landsBehind_66 : decode prog_4_method_21_code 66 = .ok (.if_icmp .lt 26, 3) := by decide +kernel
theorem dX2_landsBehind_69 : decode prog_4_method_21_code 69 = .ok (.iload 4, 2) := by decide +kernel
theorem dX2_landsBehind_71 : decode prog_4_method_21_code 71 = .ok (.aload_n 0, 1) := by decide +kernel
theorem dX2_landsBehind_72 : decode prog_4_method_21_code 72 = .ok (.getfield 36, 3) := by decide +kernel
theorem dX2_landsBehind_75 : decode prog_4_method_21_code 75 = .ok (.iload_n 3, 1) := by decide +kernel
theorem dX2_landsBehind_76 : decode prog_4_method_21_code 76 = .ok (.iaload, 1) := by decide +kernel
theorem dX2_landsBehind_77 : decode prog_4_method_21_code 77 = .ok (.isub, 1) := by decide +kernel
theorem dX2_landsBehind_78 : decode prog_4_method_21_code 78 = .ok (.istore 4, 2) := by decide +kernel
theorem dX2_landsBehind_80 : decode prog_4_method_21_code 80 = .ok (.aload_n 0, 1) := by decide +kernel
theorem dX2_landsBehind_81 : decode prog_4_method_21_code 81 = .ok (.iload_n 3, 1) := by decide +kernel
theorem dX2_landsBehind_82 : decode prog_4_method_21_code 82 = .ok (.invokevirtual 162, 3) := by decide +kernel
theorem dX2_landsBehind_85 : decode prog_4_method_21_code 85 = .ok (.istore_n 3, 1) := by decide +kernel
theorem dX2_landsBehind_86 : decode prog_4_method_21_code 86 = .ok (.iinc 5 1, 3) := by decide +kernel
theorem dX2_landsBehind_89 : decode prog_4_method_21_code 89 = .ok (.goto (-48), 3) := by decide +kernel
theorem dX2_landsBehind_92 : decode prog_4_method_21_code 92 = .ok (.iload_n 3, 1) := by decide +kernel
theorem dX2_landsBehind_93 : decode prog_4_method_21_code 93 = .ok (.ireturn, 1) := by decide +kernel
theorem dX2_measureRound_0 : decode prog_4_method_20_code 0 = .ok (.iconst 0, 1) := by decide +kernel
theorem dX2_measureRound_1 : decode prog_4_method_20_code 1 = .ok (.istore_n 1, 1) := by decide +kernel
theorem dX2_measureRound_2 : decode prog_4_method_20_code 2 = .ok (.iconst 0, 1) := by decide +kernel
theorem dX2_measureRound_3 : decode prog_4_method_20_code 3 = .ok (.istore_n 2, 1) := by decide +kernel
theorem dX2_measureRound_4 : decode prog_4_method_20_code 4 = .ok (.iload_n 2, 1) := by decide +kernel
theorem dX2_measureRound_5 : decode prog_4_method_20_code 5 = .ok (.aload_n 0, 1) := by decide +kernel
theorem dX2_measureRound_6 : decode prog_4_method_20_code 6 = .ok (.getfield 48, 3) := by decide +kernel
theorem dX2_measureRound_9 : decode prog_4_method_20_code 9 = .ok (.if_icmp .ge 46, 3) := by decide +kernel
theorem dX2_measureRound_12 : decode prog_4_method_20_code 12 = .ok (.aload_n 0, 1) := by decide +kernel
theorem dX2_measureRound_13 : decode prog_4_method_20_code 13 = .ok (.getfield 36, 3) := by decide +kernel
theorem dX2_measureRound_16 : decode prog_4_method_20_code 16 = .ok (.iload_n 2, 1) := by decide +kernel
theorem dX2_measureRound_17 : decode prog_4_method_20_code 17 = .ok (.aload_n 0, 1) := by decide +kernel
theorem dX2_measureRound_18 : decode prog_4_method_20_code 18 = .ok (.iload_n 2, 1) := by decide +kernel
theorem dX2_measureRound_19 : decode prog_4_method_20_code 19 = .ok (.invokevirtual 155, 3) := by decide +kernel
theorem dX2_measureRound_22 : decode prog_4_method_20_code 22 = .ok (.ifCond .eq 16, 3) := by decide +kernel
theorem dX2_measureRound_25 : decode prog_4_method_20_code 25 = .ok (.aload_n 0, 1) := by decide +kernel
theorem dX2_measureRound_26 : decode prog_4_method_20_code 26 = .ok (.aload_n 0, 1) := by decide +kernel
theorem dX2_measureRound_27 : decode prog_4_method_20_code 27 = .ok (.getfield 11, 3) := by decide +kernel
theorem dX2_measureRound_30 : decode prog_4_method_20_code 30 = .ok (.iload_n 2, 1) := by decide +kernel
theorem dX2_measureRound_31 : decode prog_4_method_20_code 31 = .ok (.aaload, 1) := by decide +kernel
theorem dX2_measureRound_32 : decode prog_4_method_20_code 32 = .ok (.invokevirtual 158, 3) := by decide +kernel
theorem dX2_measureRound_35 : decode prog_4_method_20_code 35 = .ok (.goto 4, 3) := by decide +kernel
theorem dX2_measureRound_38 : decode prog_4_method_20_code 38 = .ok (.iconst 0, 1) := by decide +kernel
theorem dX2_measureRound_39 : decode prog_4_method_20_code 39 = .ok (.iastore, 1) := by decide +kernel
theorem dX2_measureRound_40 : decode prog_4_method_20_code 40 = .ok (.iload_n 1, 1) := by decide +kernel
theorem dX2_measureRound_41 : decode prog_4_method_20_code 41 = .ok (.aload_n 0, 1) := by decide +kernel
theorem dX2_measureRound_42 : decode prog_4_method_20_code 42 = .ok (.getfield 36, 3) := by decide +kernel
theorem dX2_measureRound_45 : decode prog_4_method_20_code 45 = .ok (.iload_n 2, 1) := by decide +kernel
theorem dX2_measureRound_46 : decode prog_4_method_20_code 46 = .ok (.iaload, 1) := by decide +kernel
theorem dX2_measureRound_47 : decode prog_4_method_20_code 47 = .ok (.iadd, 1) := by decide +kernel
theorem dX2_measureRound_48 : decode prog_4_method_20_code 48 = .ok (.istore_n 1, 1) := by decide +kernel
theorem dX2_measureRound_49 : decode prog_4_method_20_code 49 = .ok (.iinc 2 1, 3) := by decide +kernel
theorem dX2_measureRound_52 : decode prog_4_method_20_code 52 = .ok (.goto (-48), 3) := by decide +kernel
theorem dX2_measureRound_55 : decode prog_4_method_20_code 55 = .ok (.iload_n 1, 1) := by decide +kernel
theorem dX2_measureRound_56 : decode prog_4_method_20_code 56 = .ok (.ireturn, 1) := by decide +kernel
theorem dX7_lands_0 : decode prog_1_method_15_code 0 = .ok (.iload_n 1, 1) := by decide +kernel
theorem dX7_lands_1 : decode prog_1_method_15_code 1 = .ok (.iconst 0, 1) := by decide +kernel
theorem dX7_lands_2 : decode prog_1_method_15_code 2 = .ok (.sipush 9999, 3) := by decide +kernel
theorem dX7_lands_5 : decode prog_1_method_15_code 5 = .ok (.invokestatic 47, 3) := by decide +kernel
theorem dX7_lands_8 : decode prog_1_method_15_code 8 = .ok (.ifCond .eq 24, 3) := by decide +kernel
theorem dX7_lands_11 : decode prog_1_method_15_code 11 = .ok (.aload_n 0, 1) := by decide +kernel
theorem dX7_lands_12 : decode prog_1_method_15_code 12 = .ok (.getfield 10, 3) := by decide +kernel
theorem dX7_lands_15 : decode prog_1_method_15_code 15 = .ok (.iload_n 1, 1) := by decide +kernel
theorem dX7_lands_16 : decode prog_1_method_15_code 16 = .ok (.aload_n 0, 1) := by decide +kernel
theorem dX7_lands_17 : decode prog_1_method_15_code 17 = .ok (.getfield 10, 3) := by decide +kernel
theorem dX7_lands_20 : decode prog_1_method_15_code 20 = .ok (.invokevirtual 157, 3) := by decide +kernel
theorem dX7_lands_23 : decode prog_1_method_15_code 23 = .ok (.invokevirtual 160, 3) := by decide +kernel
theorem dX7_lands_26 : decode prog_1_method_15_code 26 = .ok (.invokestatic 84, 3) := by decide +kernel
theorem dX7_lands_29 : decode prog_1_method_15_code 29 = .ok (.goto 5, 3) := by decide +kernel
theorem dX7_lands_32 : decode prog_1_method_15_code 32 = .ok (.ldc 51, 2) := by decide +kernel
theorem dX7_lands_34 : decode prog_1_method_15_code 34 = .ok (.ireturn, 1) := by decide +kernel
theorem dX7_round_0 : decode prog_1_method_16_code 0 = .ok (.aload_n 0, 1) := by decide +kernel
theorem dX7_round_1 : decode prog_1_method_16_code 1 = .ok (.getfield 10, 3) := by decide +kernel
theorem dX7_round_4 : decode prog_1_method_16_code 4 = .ok (.invokevirtual 157, 3) := by decide +kernel
theorem dX7_round_7 : decode prog_1_method_16_code 7 = .ok (.ireturn, 1) := by decide +kernel
theorem dX2_inCount_0 : decode prog_4_method_6_code 0 = .ok (.iconst 0, 1) := by decide +kernel
theorem dX2_inCount_1 : decode prog_4_method_6_code 1 = .ok (.istore_n 1, 1) := by decide +kernel
theorem dX2_inCount_2 : decode prog_4_method_6_code 2 = .ok (.iconst 0, 1) := by decide +kernel
theorem dX2_inCount_3 : decode prog_4_method_6_code 3 = .ok (.istore_n 2, 1) := by decide +kernel
theorem dX2_inCount_4 : decode prog_4_method_6_code 4 = .ok (.iload_n 2, 1) := by decide +kernel
theorem dX2_inCount_5 : decode prog_4_method_6_code 5 = .ok (.aload_n 0, 1) := by decide +kernel
theorem dX2_inCount_6 : decode prog_4_method_6_code 6 = .ok (.getfield 48, 3) := by decide +kernel
theorem dX2_inCount_9 : decode prog_4_method_6_code 9 = .ok (.if_icmp .ge 23, 3) := by decide +kernel
theorem dX2_inCount_12 : decode prog_4_method_6_code 12 = .ok (.iload_n 1, 1) := by decide +kernel
theorem dX2_inCount_13 : decode prog_4_method_6_code 13 = .ok (.iconst 1, 1) := by decide +kernel
theorem dX2_inCount_14 : decode prog_4_method_6_code 14 = .ok (.aload_n 0, 1) := by decide +kernel
theorem dX2_inCount_15 : decode prog_4_method_6_code 15 = .ok (.getfield 11, 3) := by decide +kernel
theorem dX2_inCount_18 : decode prog_4_method_6_code 18 = .ok (.iload_n 2, 1) := by decide +kernel
theorem dX2_inCount_19 : decode prog_4_method_6_code 19 = .ok (.aaload, 1) := by decide +kernel
theorem dX2_inCount_20 : decode prog_4_method_6_code 20 = .ok (.getfield 95, 3) := by decide +kernel
theorem dX2_inCount_23 : decode prog_4_method_6_code 23 = .ok (.isub, 1) := by decide +kernel
theorem dX2_inCount_24 : decode prog_4_method_6_code 24 = .ok (.iadd, 1) := by decide +kernel
theorem dX2_inCount_25 : decode prog_4_method_6_code 25 = .ok (.istore_n 1, 1) := by decide +kernel
theorem dX2_inCount_26 : decode prog_4_method_6_code 26 = .ok (.iinc 2 1, 3) := by decide +kernel
theorem dX2_inCount_29 : decode prog_4_method_6_code 29 = .ok (.goto (-25), 3) := by decide +kernel
theorem dX2_inCount_32 : decode prog_4_method_6_code 32 = .ok (.iload_n 1, 1) := by decide +kernel
theorem dX2_inCount_33 : decode prog_4_method_6_code 33 = .ok (.ireturn, 1) := by decide +kernel
theorem dX2_give_0 : decode prog_4_method_26_code 0 = .ok (.aload_n 0, 1) := by decide +kernel
theorem dX2_give_1 : decode prog_4_method_26_code 1 = .ok (.iload_n 1, 1) := by decide +kernel
theorem dX2_give_2 : decode prog_4_method_26_code 2 = .ok (.invokevirtual 91, 3) := by decide +kernel
theorem dX2_give_5 : decode prog_4_method_26_code 5 = .ok (.ifCond .ne 4, 3) := by decide +kernel
theorem dX2_give_8 : decode prog_4_method_26_code 8 = .ok (.return_, 1) := by decide +kernel
theorem dX2_give_9 : decode prog_4_method_26_code 9 = .ok (.aload_n 0, 1) := by decide +kernel
theorem dX2_give_10 : decode prog_4_method_26_code 10 = .ok (.getfield 11, 3) := by decide +kernel
theorem dX2_give_13 : decode prog_4_method_26_code 13 = .ok (.iload_n 1, 1) := by decide +kernel
theorem dX2_give_14 : decode prog_4_method_26_code 14 = .ok (.aaload, 1) := by decide +kernel
theorem dX2_give_15 : decode prog_4_method_26_code 15 = .ok (.astore_n 2, 1) := by decide +kernel
theorem dX2_give_16 : decode prog_4_method_26_code 16 = .ok (.aload_n 2, 1) := by decide +kernel
theorem dX2_give_17 : decode prog_4_method_26_code 17 = .ok (.bipush 99, 2) := by decide +kernel
theorem dX2_give_19 : decode prog_4_method_26_code 19 = .ok (.aload_n 2, 1) := by decide +kernel
theorem dX2_give_20 : decode prog_4_method_26_code 20 = .ok (.getfield 102, 3) := by decide +kernel
theorem dX2_give_23 : decode prog_4_method_26_code 23 = .ok (.iconst 1, 1) := by decide +kernel
theorem dX2_give_24 : decode prog_4_method_26_code 24 = .ok (.iadd, 1) := by decide +kernel
theorem dX2_give_25 : decode prog_4_method_26_code 25 = .ok (.invokestatic 105, 3) := by decide +kernel
theorem dX2_give_28 : decode prog_4_method_26_code 28 = .ok (.putfield 102, 3) := by decide +kernel
theorem dX2_give_31 : decode prog_4_method_26_code 31 = .ok (.aload_n 0, 1) := by decide +kernel
theorem dX2_give_32 : decode prog_4_method_26_code 32 = .ok (.iload_n 1, 1) := by decide +kernel
theorem dX2_give_33 : decode prog_4_method_26_code 33 = .ok (.putfield 76, 3) := by decide +kernel
theorem dX2_give_36 : decode prog_4_method_26_code 36 = .ok (.aload_n 0, 1) := by decide +kernel
theorem dX2_give_37 : decode prog_4_method_26_code 37 = .ok (.invokevirtual 134, 3) := by decide +kernel
theorem dX2_give_40 : decode prog_4_method_26_code 40 = .ok (.istore_n 3, 1) := by decide +kernel
theorem dX2_give_41 : decode prog_4_method_26_code 41 = .ok (.iload_n 3, 1) := by decide +kernel
theorem dX2_give_42 : decode prog_4_method_26_code 42 = .ok (.iconst 1, 1) := by decide +kernel
theorem dX2_give_43 : decode prog_4_method_26_code 43 = .ok (.if_icmp .ne 16, 3) := by decide +kernel
theorem dX2_give_46 : decode prog_4_method_26_code 46 = .ok (.aload_n 0, 1) := by decide +kernel
theorem dX2_give_47 : decode prog_4_method_26_code 47 = .ok (.dup, 1) := by decide +kernel
theorem dX2_give_48 : decode prog_4_method_26_code 48 = .ok (.getfield 85, 3) := by decide +kernel
theorem dX2_give_51 : decode prog_4_method_26_code 51 = .ok (.iconst 1, 1) := by decide +kernel
theorem dX2_give_52 : decode prog_4_method_26_code 52 = .ok (.iadd, 1) := by decide +kernel
theorem dX2_give_53 : decode prog_4_method_26_code 53 = .ok (.putfield 85, 3) := by decide +kernel
theorem dX2_give_56 : decode prog_4_method_26_code 56 = .ok (.goto 28, 3) := by decide +kernel
theorem dX2_give_59 : decode prog_4_method_26_code 59 = .ok (.iload_n 3, 1) := by decide +kernel
theorem dX2_give_60 : decode prog_4_method_26_code 60 = .ok (.iconst 2, 1) := by decide +kernel
theorem dX2_give_61 : decode prog_4_method_26_code 61 = .ok (.if_icmp .ne 23, 3) := by decide +kernel
theorem dX2_give_64 : decode prog_4_method_26_code 64 = .ok (.aload_n 0, 1) := by decide +kernel
theorem dX2_give_65 : decode prog_4_method_26_code 65 = .ok (.dup, 1) := by decide +kernel
theorem dX2_give_66 : decode prog_4_method_26_code 66 = .ok (.getfield 88, 3) := by decide +kernel
theorem dX2_give_69 : decode prog_4_method_26_code 69 = .ok (.iconst 1, 1) := by decide +kernel
theorem dX2_give_70 : decode prog_4_method_26_code 70 = .ok (.iadd, 1) := by decide +kernel
theorem dX2_give_71 : decode prog_4_method_26_code 71 = .ok (.putfield 88, 3) := by decide +kernel
theorem dX2_give_74 : decode prog_4_method_26_code 74 = .ok (.aload_n 0, 1) := by decide +kernel
theorem dX2_give_75 : decode prog_4_method_26_code 75 = .ok (.iconst 1, 1) := by decide +kernel
theorem dX2_give_76 : decode prog_4_method_26_code 76 = .ok (.aload_n 0, 1) := by decide +kernel
theorem dX2_give_77 : decode prog_4_method_26_code 77 = .ok (.getfield 39, 3) := by decide +kernel
theorem dX2_give_80 : decode prog_4_method_26_code 80 = .ok (.isub, 1) := by decide +kernel
theorem dX2_give_81 : decode prog_4_method_26_code 81 = .ok (.putfield 39, 3) := by decide +kernel
theorem dX2_give_84 : decode prog_4_method_26_code 84 = .ok (.aload_n 0, 1) := by decide +kernel
theorem dX2_give_85 : decode prog_4_method_26_code 85 = .ok (.getfield 79, 3) := by decide +kernel
theorem dX2_give_88 : decode prog_4_method_26_code 88 = .ok (.iconst 1, 1) := by decide +kernel
theorem dX2_give_89 : decode prog_4_method_26_code 89 = .ok (.if_icmp .ne 16, 3) := by decide +kernel
theorem dX2_give_92 : decode prog_4_method_26_code 92 = .ok (.aload_n 0, 1) := by decide +kernel
theorem dX2_give_93 : decode prog_4_method_26_code 93 = .ok (.invokevirtual 172, 3) := by decide +kernel
theorem dX2_give_96 : decode prog_4_method_26_code 96 = .ok (.iconst 2, 1) := by decide +kernel
theorem dX2_give_97 : decode prog_4_method_26_code 97 = .ok (.if_icmp .le 8, 3) := by decide +kernel
theorem dX2_give_100 : decode prog_4_method_26_code 100 = .ok (.aload_n 2, 1) := by decide +kernel
theorem dX2_give_101 : decode prog_4_method_26_code 101 = .ok (.iconst 1, 1) := by decide +kernel
theorem dX2_give_102 : decode prog_4_method_26_code 102 = .ok (.putfield 95, 3) := by decide +kernel
theorem dX2_give_105 : decode prog_4_method_26_code 105 = .ok (.return_, 1) := by decide +kernel
theorem dX2_fewestFrom_0 : decode prog_4_method_23_code 0 = .ok (.iload_n 1, 1) := by decide +kernel
theorem dX2_fewestFrom_1 : decode prog_4_method_23_code 1 = .ok (.istore_n 2, 1) := by decide +kernel
theorem dX2_fewestFrom_2 : decode prog_4_method_23_code 2 = .ok (.iload_n 1, 1) := by decide +kernel
theorem dX2_fewestFrom_3 : decode prog_4_method_23_code 3 = .ok (.istore_n 3, 1) := by decide +kernel
theorem dX2_fewestFrom_4 : decode prog_4_method_23_code 4 = .ok (.iconst 1, 1) := by decide +kernel
theorem dX2_fewestFrom_5 : decode prog_4_method_23_code 5 = .ok (.istore 4, 2) := by decide +kernel
theorem dX2_fewestFrom_7 : decode prog_4_method_23_code 7 = .ok (.iload 4, 2) := by decide +kernel
theorem dX2_fewestFrom_9 : decode prog_4_method_23_code 9 = .ok (.aload_n 0, 1) := by decide +kernel
theorem dX2_fewestFrom_10 : decode prog_4_method_23_code 10 = .ok (.getfield 48, 3) := by decide +kernel
theorem dX2_fewestFrom_13 : decode prog_4_method_23_code 13 = .ok (.if_icmp .ge 54, 3) := by decide +kernel
theorem dX2_fewestFrom_16 : decode prog_4_method_23_code 16 = .ok (.aload_n 0, 1) := by decide +kernel
theorem dX2_fewestFrom_17 : decode prog_4_method_23_code 17 = .ok (.iload_n 2, 1) := by decide +kernel
theorem dX2_fewestFrom_18 : decode prog_4_method_23_code 18 = .ok (.invokevirtual 91, 3) := by decide +kernel
theorem dX2_fewestFrom_21 : decode prog_4_method_23_code 21 = .ok (.ifCond .eq 46, 3) := by decide +kernel
theorem dX2_fewestFrom_24 : decode prog_4_method_23_code 24 = .ok (.aload_n 0, 1) := by decide +kernel
theorem dX2_fewestFrom_25 : decode prog_4_method_23_code 25 = .ok (.iload_n 3, 1) := by decide +kernel
theorem dX2_fewestFrom_26 : decode prog_4_method_23_code 26 = .ok (.invokevirtual 151, 3) := by decide +kernel
theorem dX2_fewestFrom_29 : decode prog_4_method_23_code 29 = .ok (.istore_n 3, 1) := by decide +kernel
theorem dX2_fewestFrom_30 : decode prog_4_method_23_code 30 = .ok (.aload_n 0, 1) := by decide +kernel
theorem dX2_fewestFrom_31 : decode prog_4_method_23_code 31 = .ok (.iload_n 3, 1) := by decide +kernel
theorem dX2_fewestFrom_32 : decode prog_4_method_23_code 32 = .ok (.invokevirtual 155, 3) := by decide +kernel
theorem dX2_fewestFrom_35 : decode prog_4_method_23_code 35 = .ok (.ifCond .eq 26, 3) := by decide +kernel
theorem dX2_fewestFrom_38 : decode prog_4_method_23_code 38 = .ok (.aload_n 0, 1) := by decide +kernel
theorem dX2_fewestFrom_39 : decode prog_4_method_23_code 39 = .ok (.getfield 11, 3) := by decide +kernel
theorem dX2_fewestFrom_42 : decode prog_4_method_23_code 42 = .ok (.iload_n 3, 1) := by decide +kernel
theorem dX2_fewestFrom_43 : decode prog_4_method_23_code 43 = .ok (.aaload, 1) := by decide +kernel
theorem dX2_fewestFrom_44 : decode prog_4_method_23_code 44 = .ok (.getfield 102, 3) := by decide +kernel
theorem dX2_fewestFrom_47 : decode prog_4_method_23_code 47 = .ok (.aload_n 0, 1) := by decide +kernel
theorem dX2_fewestFrom_48 : decode prog_4_method_23_code 48 = .ok (.getfield 11, 3) := by decide +kernel
theorem dX2_fewestFrom_51 : decode prog_4_method_23_code 51 = .ok (.iload_n 2, 1) := by decide +kernel
theorem dX2_fewestFrom_52 : decode prog_4_method_23_code 52 = .ok (.aaload, 1) := by decide +kernel
theorem dX2_fewestFrom_53 : decode prog_4_method_23_code 53 = .ok (.getfield 102, 3) := by decide +kernel
theorem dX2_fewestFrom_56 : decode prog_4_method_23_code 56 = .ok (.if_icmp .ge 5, 3) := by decide +kernel
theorem dX2_fewestFrom_59 : decode prog_4_method_23_code 59 = .ok (.iload_n 3, 1) := by decide +kernel
theorem dX2_fewestFrom_60 : decode prog_4_method_23_code 60 = .ok (.istore_n 2, 1) := by decide +kernel
theorem dX2_fewestFrom_61 : decode prog_4_method_23_code 61 = .ok (.iinc 4 1, 3) := by decide +kernel
theorem dX2_fewestFrom_64 : decode prog_4_method_23_code 64 = .ok (.goto (-57), 3) := by decide +kernel
theorem dX2_fewestFrom_67 : decode prog_4_method_23_code 67 = .ok (.iload_n 2, 1) := by decide +kernel
theorem dX2_fewestFrom_68 : decode prog_4_method_23_code 68 = .ok (.ireturn, 1) := by decide +kernel
theorem dX2_goesTo_0 : decode prog_4_method_22_code 0 = .ok (.aload_n 1, 1) := by decide +kernel
theorem dX2_goesTo_1 : decode prog_4_method_22_code 1 = .ok (.getfield 114, 3) := by decide +kernel
theorem dX2_goesTo_4 : decode prog_4_method_22_code 4 = .ok (.tableswitch 64 2 4 #[34, 28, 40], 28) := by decide +kernel
theorem dX2_goesTo_32 : decode prog_4_method_22_code 32 = .ok (.aload_n 0, 1) := by decide +kernel
theorem dX2_goesTo_33 : decode prog_4_method_22_code 33 = .ok (.iload_n 2, 1) := by decide +kernel
theorem dX2_goesTo_34 : decode prog_4_method_22_code 34 = .ok (.invokevirtual 162, 3) := by decide +kernel
theorem dX2_goesTo_37 : decode prog_4_method_22_code 37 = .ok (.ireturn, 1) := by decide +kernel
theorem dX2_goesTo_38 : decode prog_4_method_22_code 38 = .ok (.aload_n 0, 1) := by decide +kernel
theorem dX2_goesTo_39 : decode prog_4_method_22_code 39 = .ok (.iload_n 2, 1) := by decide +kernel
theorem dX2_goesTo_40 : decode prog_4_method_22_code 40 = .ok (.invokevirtual 165, 3) := by decide +kernel
theorem dX2_goesTo_43 : decode prog_4_method_22_code 43 = .ok (.ireturn, 1) := by decide +kernel
theorem dX2_goesTo_44 : decode prog_4_method_22_code 44 = .ok (.aload_n 0, 1) := by decide +kernel
theorem dX2_goesTo_45 : decode prog_4_method_22_code 45 = .ok (.aload_n 1, 1) := by decide +kernel
theorem dX2_goesTo_46 : decode prog_4_method_22_code 46 = .ok (.getfield 120, 3) := by decide +kernel
theorem dX2_goesTo_49 : decode prog_4_method_22_code 49 = .ok (.invokevirtual 155, 3) := by decide +kernel
theorem dX2_goesTo_52 : decode prog_4_method_22_code 52 = .ok (.ifCond .eq 10, 3) := by decide +kernel
theorem dX2_goesTo_55 : decode prog_4_method_22_code 55 = .ok (.aload_n 1, 1) := by decide +kernel
theorem dX2_goesTo_56 : decode prog_4_method_22_code 56 = .ok (.getfield 120, 3) := by decide +kernel
theorem dX2_goesTo_59 : decode prog_4_method_22_code 59 = .ok (.goto 8, 3) := by decide +kernel
theorem dX2_goesTo_62 : decode prog_4_method_22_code 62 = .ok (.aload_n 0, 1) := by decide +kernel
theorem dX2_goesTo_63 : decode prog_4_method_22_code 63 = .ok (.iload_n 2, 1) := by decide +kernel
theorem dX2_goesTo_64 : decode prog_4_method_22_code 64 = .ok (.invokevirtual 165, 3) := by decide +kernel
theorem dX2_goesTo_67 : decode prog_4_method_22_code 67 = .ok (.ireturn, 1) := by decide +kernel
theorem dX2_goesTo_68 : decode prog_4_method_22_code 68 = .ok (.iload_n 2, 1) := by decide +kernel
theorem dX2_goesTo_69 : decode prog_4_method_22_code 69 = .ok (.ireturn, 1) := by decide +kernel
theorem dJ9_floorMod_7cf53_0 : decode prog_13_method_50_code 0 = .ok (.iload_n 0, 1) := by decide +kernel
theorem dJ9_floorMod_7cf53_1 : decode prog_13_method_50_code 1 = .ok (.iload_n 1, 1) := by decide +kernel
theorem dJ9_floorMod_7cf53_2 : decode prog_13_method_50_code 2 = .ok (.irem, 1) := by decide +kernel
theorem dJ9_floorMod_7cf53_3 : decode prog_13_method_50_code 3 = .ok (.istore_n 2, 1) := by decide +kernel
theorem dJ9_floorMod_7cf53_4 : decode prog_13_method_50_code 4 = .ok (.iload_n 0, 1) := by decide +kernel
theorem dJ9_floorMod_7cf53_5 : decode prog_13_method_50_code 5 = .ok (.iload_n 1, 1) := by decide +kernel
theorem dJ9_floorMod_7cf53_6 : decode prog_13_method_50_code 6 = .ok (.ixor, 1) := by decide +kernel
theorem dJ9_floorMod_7cf53_7 : decode prog_13_method_50_code 7 = .ok (.ifCond .ge 11, 3) := by decide +kernel
theorem dJ9_floorMod_7cf53_10 : decode prog_13_method_50_code 10 = .ok (.iload_n 2, 1) := by decide +kernel
theorem dJ9_floorMod_7cf53_11 : decode prog_13_method_50_code 11 = .ok (.ifCond .eq 7, 3) := by decide +kernel
theorem dJ9_floorMod_7cf53_14 : decode prog_13_method_50_code 14 = .ok (.iload_n 2, 1) := by decide +kernel
theorem dJ9_floorMod_7cf53_15 : decode prog_13_method_50_code 15 = .ok (.iload_n 1, 1) := by decide +kernel
theorem dJ9_floorMod_7cf53_16 : decode prog_13_method_50_code 16 = .ok (.iadd, 1) := by decide +kernel
theorem dJ9_floorMod_7cf53_17 : decode prog_13_method_50_code 17 = .ok (.ireturn, 1) := by decide +kernel
theorem dJ9_floorMod_7cf53_18 : decode prog_13_method_50_code 18 = .ok (.iload_n 2, 1) := by decide +kernel
theorem dJ9_floorMod_7cf53_19 : decode prog_13_method_50_code 19 = .ok (.ireturn, 1) := by decide +kernel
theorem dX2_stopNow_0 : decode prog_4_method_13_code 0 = .ok (.aload_n 0, 1) := by decide +kernel
theorem dX2_stopNow_1 : decode prog_4_method_13_code 1 = .ok (.getfield 64, 3) := by decide +kernel
theorem dX2_stopNow_4 : decode prog_4_method_13_code 4 = .ok (.ifCond .le 22, 3) := by decide +kernel
theorem dX2_stopNow_7 : decode prog_4_method_13_code 7 = .ok (.aload_n 0, 1) := by decide +kernel
theorem dX2_stopNow_8 : decode prog_4_method_13_code 8 = .ok (.getfield 23, 3) := by decide +kernel
theorem dX2_stopNow_11 : decode prog_4_method_13_code 11 = .ok (.aload_n 0, 1) := by decide +kernel
theorem dX2_stopNow_12 : decode prog_4_method_13_code 12 = .ok (.getfield 73, 3) := by decide +kernel
theorem dX2_stopNow_15 : decode prog_4_method_13_code 15 = .ok (.aload_n 0, 1) := by decide +kernel
theorem dX2_stopNow_16 : decode prog_4_method_13_code 16 = .ok (.getfield 64, 3) := by decide +kernel
theorem dX2_stopNow_19 : decode prog_4_method_13_code 19 = .ok (.invokestatic 127, 3) := by decide +kernel
theorem dX2_stopNow_22 : decode prog_4_method_13_code 22 = .ok (.aaload, 1) := by decide +kernel
theorem dX2_stopNow_23 : decode prog_4_method_13_code 23 = .ok (.goto 4, 3) := by decide +kernel
theorem dX2_stopNow_26 : decode prog_4_method_13_code 26 = .ok (.aconst_null, 1) := by decide +kernel
theorem dX2_stopNow_27 : decode prog_4_method_13_code 27 = .ok (.areturn, 1) := by decide +kernel
theorem dX2_takeTurn_0 : decode prog_4_method_24_code 0 = .ok (.iconst (-1), 1) := by decide +kernel
theorem dX2_takeTurn_1 : decode prog_4_method_24_code 1 = .ok (.istore_n 1, 1) := by decide +kernel
theorem dX2_takeTurn_2 : decode prog_4_method_24_code 2 = .ok (.aload_n 0, 1) := by decide +kernel
theorem dX2_takeTurn_3 : decode prog_4_method_24_code 3 = .ok (.invokevirtual 168, 3) := by decide +kernel
theorem dX2_takeTurn_6 : decode prog_4_method_24_code 6 = .ok (.astore_n 2, 1) := by decide +kernel
theorem dX2_takeTurn_7 : decode prog_4_method_24_code 7 = .ok (.aload_n 2, 1) := by decide +kernel
theorem dX2_takeTurn_8 : decode prog_4_method_24_code 8 = .ok (.ifnull 70, 3) := by decide +kernel
theorem dX2_takeTurn_11 : decode prog_4_method_24_code 11 = .ok (.aload_n 0, 1) := by decide +kernel
theorem dX2_takeTurn_12 : decode prog_4_method_24_code 12 = .ok (.invokevirtual 172, 3) := by decide +kernel
theorem dX2_takeTurn_15 : decode prog_4_method_24_code 15 = .ok (.ifCond .le 63, 3) := by decide +kernel
theorem dX2_takeTurn_18 : decode prog_4_method_24_code 18 = .ok (.aload_n 2, 1) := by decide +kernel
theorem dX2_takeTurn_19 : decode prog_4_method_24_code 19 = .ok (.iconst 1, 1) := by decide +kernel
theorem dX2_takeTurn_20 : decode prog_4_method_24_code 20 = .ok (.invokevirtual 148, 3) := by decide +kernel
theorem dX2_takeTurn_23 : decode prog_4_method_24_code 23 = .ok (.ifCond .eq 13, 3) := by decide +kernel
theorem dX2_takeTurn_26 : decode prog_4_method_24_code 26 = .ok (.aload_n 0, 1) := by decide +kernel
theorem dX2_takeTurn_27 : decode prog_4_method_24_code 27 = .ok (.invokevirtual 175, 3) := by decide +kernel
theorem dX2_takeTurn_30 : decode prog_4_method_24_code 30 = .ok (.bipush 10, 2) := by decide +kernel
theorem dX2_takeTurn_32 : decode prog_4_method_24_code 32 = .ok (.irem, 1) := by decide +kernel
theorem dX2_takeTurn_33 : decode prog_4_method_24_code 33 = .ok (.goto 4, 3) := by decide +kernel
theorem dX2_takeTurn_36 : decode prog_4_method_24_code 36 = .ok (.iconst 0, 1) := by decide +kernel
theorem dX2_takeTurn_37 : decode prog_4_method_24_code 37 = .ok (.istore_n 3, 1) := by decide +kernel
theorem dX2_takeTurn_38 : decode prog_4_method_24_code 38 = .ok (.aload_n 0, 1) := by decide +kernel
theorem dX2_takeTurn_39 : decode prog_4_method_24_code 39 = .ok (.aload_n 2, 1) := by decide +kernel
theorem dX2_takeTurn_40 : decode prog_4_method_24_code 40 = .ok (.iload_n 3, 1) := by decide +kernel
theorem dX2_takeTurn_41 : decode prog_4_method_24_code 41 = .ok (.invokevirtual 178, 3) := by decide +kernel
theorem dX2_takeTurn_44 : decode prog_4_method_24_code 44 = .ok (.istore 4, 2) := by decide +kernel
theorem dX2_takeTurn_46 : decode prog_4_method_24_code 46 = .ok (.aload_n 0, 1) := by decide +kernel
theorem dX2_takeTurn_47 : decode prog_4_method_24_code 47 = .ok (.aload_n 2, 1) := by decide +kernel
theorem dX2_takeTurn_48 : decode prog_4_method_24_code 48 = .ok (.aload_n 0, 1) := by decide +kernel
theorem dX2_takeTurn_49 : decode prog_4_method_24_code 49 = .ok (.iload 4, 2) := by decide +kernel
theorem dX2_takeTurn_51 : decode prog_4_method_24_code 51 = .ok (.aload_n 0, 1) := by decide +kernel
theorem dX2_takeTurn_52 : decode prog_4_method_24_code 52 = .ok (.invokevirtual 182, 3) := by decide +kernel
theorem dX2_takeTurn_55 : decode prog_4_method_24_code 55 = .ok (.invokevirtual 185, 3) := by decide +kernel
theorem dX2_takeTurn_58 : decode prog_4_method_24_code 58 = .ok (.invokevirtual 188, 3) := by decide +kernel
theorem dX2_takeTurn_61 : decode prog_4_method_24_code 61 = .ok (.istore_n 1, 1) := by decide +kernel
theorem dX2_takeTurn_62 : decode prog_4_method_24_code 62 = .ok (.aload_n 0, 1) := by decide +kernel
theorem dX2_takeTurn_63 : decode prog_4_method_24_code 63 = .ok (.dup, 1) := by decide +kernel
theorem dX2_takeTurn_64 : decode prog_4_method_24_code 64 = .ok (.getfield 82, 3) := by decide +kernel
theorem dX2_takeTurn_67 : decode prog_4_method_24_code 67 = .ok (.iload 4, 2) := by decide +kernel
theorem dX2_takeTurn_69 : decode prog_4_method_24_code 69 = .ok (.iadd, 1) := by decide +kernel
theorem dX2_takeTurn_70 : decode prog_4_method_24_code 70 = .ok (.putfield 82, 3) := by decide +kernel
theorem dX2_takeTurn_73 : decode prog_4_method_24_code 73 = .ok (.aload_n 0, 1) := by decide +kernel
theorem dX2_takeTurn_74 : decode prog_4_method_24_code 74 = .ok (.iload_n 1, 1) := by decide +kernel
theorem dX2_takeTurn_75 : decode prog_4_method_24_code 75 = .ok (.invokevirtual 191, 3) := by decide +kernel
theorem dX2_takeTurn_78 : decode prog_4_method_24_code 78 = .ok (.aload_n 0, 1) := by decide +kernel
theorem dX2_takeTurn_79 : decode prog_4_method_24_code 79 = .ok (.dup, 1) := by decide +kernel
theorem dX2_takeTurn_80 : decode prog_4_method_24_code 80 = .ok (.getfield 73, 3) := by decide +kernel
theorem dX2_takeTurn_83 : decode prog_4_method_24_code 83 = .ok (.iconst 1, 1) := by decide +kernel
theorem dX2_takeTurn_84 : decode prog_4_method_24_code 84 = .ok (.iadd, 1) := by decide +kernel
theorem dX2_takeTurn_85 : decode prog_4_method_24_code 85 = .ok (.putfield 73, 3) := by decide +kernel
theorem dX2_takeTurn_88 : decode prog_4_method_24_code 88 = .ok (.iload_n 1, 1) := by decide +kernel
theorem dX2_takeTurn_89 : decode prog_4_method_24_code 89 = .ok (.ireturn, 1) := by decide +kernel
theorem dX7_go_0 : decode prog_1_method_17_code 0 = .ok (.iload_n 1, 1) := by decide +kernel
theorem dX7_go_1 : decode prog_1_method_17_code 1 = .ok (.iconst 1, 1) := by decide +kernel
theorem dX7_go_2 : decode prog_1_method_17_code 2 = .ok (.bipush 100, 2) := by decide +kernel
theorem dX7_go_4 : decode prog_1_method_17_code 4 = .ok (.invokestatic 47, 3) := by decide +kernel
theorem dX7_go_7 : decode prog_1_method_17_code 7 = .ok (.ifCond .ne 6, 3) := by decide +kernel
theorem dX7_go_10 : decode prog_1_method_17_code 10 = .ok (.ldc 51, 2) := by decide +kernel
theorem dX7_go_12 : decode prog_1_method_17_code 12 = .ok (.ireturn, 1) := by decide +kernel
theorem dX7_go_13 : decode prog_1_method_17_code 13 = .ok (.iload_n 1, 1) := by decide +kernel
theorem dX7_go_14 : decode prog_1_method_17_code 14 = .ok (.sipush 9999, 3) := by decide +kernel
theorem dX7_go_17 : decode prog_1_method_17_code 17 = .ok (.aload_n 0, 1) := by decide +kernel
theorem dX7_go_18 : decode prog_1_method_17_code 18 = .ok (.getfield 10, 3) := by decide +kernel
theorem dX7_go_21 : decode prog_1_method_17_code 21 = .ok (.getfield 163, 3) := by decide +kernel
theorem dX7_go_24 : decode prog_1_method_17_code 24 = .ok (.isub, 1) := by decide +kernel
theorem dX7_go_25 : decode prog_1_method_17_code 25 = .ok (.invokestatic 142, 3) := by decide +kernel
theorem dX7_go_28 : decode prog_1_method_17_code 28 = .ok (.istore_n 2, 1) := by decide +kernel
theorem dX7_go_29 : decode prog_1_method_17_code 29 = .ok (.iconst 0, 1) := by decide +kernel
theorem dX7_go_30 : decode prog_1_method_17_code 30 = .ok (.istore_n 3, 1) := by decide +kernel
theorem dX7_go_31 : decode prog_1_method_17_code 31 = .ok (.iload_n 3, 1) := by decide +kernel
theorem dX7_go_32 : decode prog_1_method_17_code 32 = .ok (.iload_n 2, 1) := by decide +kernel
theorem dX7_go_33 : decode prog_1_method_17_code 33 = .ok (.if_icmp .ge 17, 3) := by decide +kernel
theorem dX7_go_36 : decode prog_1_method_17_code 36 = .ok (.aload_n 0, 1) := by decide +kernel
theorem dX7_go_37 : decode prog_1_method_17_code 37 = .ok (.getfield 10, 3) := by decide +kernel
theorem dX7_go_40 : decode prog_1_method_17_code 40 = .ok (.invokevirtual 166, 3) := by decide +kernel
theorem dX7_go_43 : decode prog_1_method_17_code 43 = .ok (.pop, 1) := by decide +kernel
theorem dX7_go_44 : decode prog_1_method_17_code 44 = .ok (.iinc 3 1, 3) := by decide +kernel
theorem dX7_go_47 : decode prog_1_method_17_code 47 = .ok (.goto (-16), 3) := by decide +kernel
theorem dX7_go_50 : decode prog_1_method_17_code 50 = .ok (.aload_n 0, 1) := by decide +kernel
theorem dX7_go_51 : decode prog_1_method_17_code 51 = .ok (.getfield 10, 3) := by decide +kernel
theorem dX7_go_54 : decode prog_1_method_17_code 54 = .ok (.getfield 99, 3) := by decide +kernel
theorem dX7_go_57 : decode prog_1_method_17_code 57 = .ok (.ireturn, 1) := by decide +kernel
theorem dX7_odds_0 : decode prog_1_method_18_code 0 = .ok (.aload_n 0, 1) := by decide +kernel
theorem dX7_odds_1 : decode prog_1_method_18_code 1 = .ok (.getfield 10, 3) := by decide +kernel
theorem dX7_odds_4 : decode prog_1_method_18_code 4 = .ok (.iload_n 1, 1) := by decide +kernel
theorem dX7_odds_5 : decode prog_1_method_18_code 5 = .ok (.invokevirtual 72, 3) := by decide +kernel
theorem dX7_odds_8 : decode prog_1_method_18_code 8 = .ok (.ifCond .ne 6, 3) := by decide +kernel
theorem dX7_odds_11 : decode prog_1_method_18_code 11 = .ok (.ldc 51, 2) := by decide +kernel
theorem dX7_odds_13 : decode prog_1_method_18_code 13 = .ok (.ireturn, 1) := by decide +kernel
theorem dX7_odds_14 : decode prog_1_method_18_code 14 = .ok (.aload_n 0, 1) := by decide +kernel
theorem dX7_odds_15 : decode prog_1_method_18_code 15 = .ok (.getfield 10, 3) := by decide +kernel
theorem dX7_odds_18 : decode prog_1_method_18_code 18 = .ok (.invokevirtual 169, 3) := by decide +kernel
theorem dX7_odds_21 : decode prog_1_method_18_code 21 = .ok (.astore_n 2, 1) := by decide +kernel
theorem dX7_odds_22 : decode prog_1_method_18_code 22 = .ok (.aload_n 2, 1) := by decide +kernel
theorem dX7_odds_23 : decode prog_1_method_18_code 23 = .ok (.ifnull 13, 3) := by decide +kernel
theorem dX7_odds_26 : decode prog_1_method_18_code 26 = .ok (.aload_n 0, 1) := by decide +kernel
theorem dX7_odds_27 : decode prog_1_method_18_code 27 = .ok (.getfield 10, 3) := by decide +kernel
theorem dX7_odds_30 : decode prog_1_method_18_code 30 = .ok (.invokevirtual 173, 3) := by decide +kernel
theorem dX7_odds_33 : decode prog_1_method_18_code 33 = .ok (.ifCond .ne 6, 3) := by decide +kernel
theorem dX7_odds_36 : decode prog_1_method_18_code 36 = .ok (.ldc 176, 2) := by decide +kernel
theorem dX7_odds_38 : decode prog_1_method_18_code 38 = .ok (.ireturn, 1) := by decide +kernel
theorem dX7_odds_39 : decode prog_1_method_18_code 39 = .ok (.aload_n 0, 1) := by decide +kernel
theorem dX7_odds_40 : decode prog_1_method_18_code 40 = .ok (.getfield 10, 3) := by decide +kernel
theorem dX7_odds_43 : decode prog_1_method_18_code 43 = .ok (.invokevirtual 157, 3) := by decide +kernel
theorem dX7_odds_46 : decode prog_1_method_18_code 46 = .ok (.istore_n 3, 1) := by decide +kernel
theorem dX7_odds_47 : decode prog_1_method_18_code 47 = .ok (.iconst 0, 1) := by decide +kernel
theorem dX7_odds_48 : decode prog_1_method_18_code 48 = .ok (.istore 4, 2) := by decide +kernel
theorem dX7_odds_50 : decode prog_1_method_18_code 50 = .ok (.iconst 0, 1) := by decide +kernel
theorem dX7_odds_51 : decode prog_1_method_18_code 51 = .ok (.istore 5, 2) := by decide +kernel
theorem dX7_odds_53 : decode prog_1_method_18_code 53 = .ok (.iload 5, 2) := by decide +kernel
theorem dX7_odds_55 : decode prog_1_method_18_code 55 = .ok (.bipush 10, 2) := by decide +kernel
theorem dX7_odds_57 : decode prog_1_method_18_code 57 = .ok (.if_icmp .ge 42, 3) := by decide +kernel
theorem dX7_odds_60 : decode prog_1_method_18_code 60 = .ok (.aload_n 0, 1) := by decide +kernel
theorem dX7_odds_61 : decode prog_1_method_18_code 61 = .ok (.getfield 10, 3) := by decide +kernel
theorem dX7_odds_64 : decode prog_1_method_18_code 64 = .ok (.aload_n 2, 1) := by decide +kernel
theorem dX7_odds_65 : decode prog_1_method_18_code 65 = .ok (.aload_n 0, 1) := by decide +kernel
theorem dX7_odds_66 : decode prog_1_method_18_code 66 = .ok (.getfield 10, 3) := by decide +kernel
theorem dX7_odds_69 : decode prog_1_method_18_code 69 = .ok (.aload_n 0, 1) := by decide +kernel
theorem dX7_odds_70 : decode prog_1_method_18_code 70 = .ok (.getfield 10, 3) := by decide +kernel
theorem dX7_odds_73 : decode prog_1_method_18_code 73 = .ok (.aload_n 2, 1) := by decide +kernel
theorem dX7_odds_74 : decode prog_1_method_18_code 74 = .ok (.iload 5, 2) := by decide +kernel
theorem dX7_odds_76 : decode prog_1_method_18_code 76 = .ok (.invokevirtual 130, 3) := by decide +kernel
theorem dX7_odds_79 : decode prog_1_method_18_code 79 = .ok (.iload_n 3, 1) := by decide +kernel
theorem dX7_odds_80 : decode prog_1_method_18_code 80 = .ok (.invokevirtual 160, 3) := by decide +kernel
theorem dX7_odds_83 : decode prog_1_method_18_code 83 = .ok (.invokevirtual 177, 3) := by decide +kernel
theorem dX7_odds_86 : decode prog_1_method_18_code 86 = .ok (.iload_n 1, 1) := by decide +kernel
theorem dX7_odds_87 : decode prog_1_method_18_code 87 = .ok (.if_icmp .ne 6, 3) := by decide +kernel
theorem dX7_odds_90 : decode prog_1_method_18_code 90 = .ok (.iinc 4 1, 3) := by decide +kernel
theorem dX7_odds_93 : decode prog_1_method_18_code 93 = .ok (.iinc 5 1, 3) := by decide +kernel
theorem dX7_odds_96 : decode prog_1_method_18_code 96 = .ok (.goto (-43), 3) := by decide +kernel
theorem dX7_odds_99 : decode prog_1_method_18_code 99 = .ok (.iload 4, 2) := by decide +kernel
theorem dX7_odds_101 : decode prog_1_method_18_code 101 = .ok (.ireturn, 1) := by decide +kernel
theorem dX0_become_0 : decode prog_2_method_2_code 0 = .ok (.aload_n 0, 1) := by decide +kernel
theorem dX0_become_1 : decode prog_2_method_2_code 1 = .ok (.aload_n 1, 1) := by decide +kernel
theorem dX0_become_2 : decode prog_2_method_2_code 2 = .ok (.getfield 7, 3) := by decide +kernel
theorem dX0_become_5 : decode prog_2_method_2_code 5 = .ok (.putfield 7, 3) := by decide +kernel
theorem dX0_become_8 : decode prog_2_method_2_code 8 = .ok (.aload_n 0, 1) := by decide +kernel
theorem dX0_become_9 : decode prog_2_method_2_code 9 = .ok (.aload_n 1, 1) := by decide +kernel
theorem dX0_become_10 : decode prog_2_method_2_code 10 = .ok (.getfield 13, 3) := by decide +kernel
theorem dX0_become_13 : decode prog_2_method_2_code 13 = .ok (.putfield 13, 3) := by decide +kernel
theorem dX0_become_16 : decode prog_2_method_2_code 16 = .ok (.aload_n 0, 1) := by decide +kernel
theorem dX0_become_17 : decode prog_2_method_2_code 17 = .ok (.aload_n 1, 1) := by decide +kernel
theorem dX0_become_18 : decode prog_2_method_2_code 18 = .ok (.getfield 16, 3) := by decide +kernel
theorem dX0_become_21 : decode prog_2_method_2_code 21 = .ok (.putfield 16, 3) := by decide +kernel
theorem dX0_become_24 : decode prog_2_method_2_code 24 = .ok (.return_, 1) := by decide +kernel
theorem dX5_become_0 : decode prog_7_method_2_code 0 = .ok (.aload_n 0, 1) := by decide +kernel
theorem dX5_become_1 : decode prog_7_method_2_code 1 = .ok (.aload_n 1, 1) := by decide +kernel
theorem dX5_become_2 : decode prog_7_method_2_code 2 = .ok (.getfield 9, 3) := by decide +kernel
theorem dX5_become_5 : decode prog_7_method_2_code 5 = .ok (.putfield 9, 3) := by decide +kernel
theorem dX5_become_8 : decode prog_7_method_2_code 8 = .ok (.aload_n 0, 1) := by decide +kernel
theorem dX5_become_9 : decode prog_7_method_2_code 9 = .ok (.aload_n 1, 1) := by decide +kernel
theorem dX5_become_10 : decode prog_7_method_2_code 10 = .ok (.getfield 15, 3) := by decide +kernel
theorem dX5_become_13 : decode prog_7_method_2_code 13 = .ok (.putfield 15, 3) := by decide +kernel
theorem dX5_become_16 : decode prog_7_method_2_code 16 = .ok (.aload_n 0, 1) := by decide +kernel
theorem dX5_become_17 : decode prog_7_method_2_code 17 = .ok (.aload_n 1, 1) := by decide +kernel
theorem dX5_become_18 : decode prog_7_method_2_code 18 = .ok (.getfield 18, 3) := by decide +kernel
theorem dX5_become_21 : decode prog_7_method_2_code 21 = .ok (.putfield 18, 3) := by decide +kernel
theorem dX5_become_24 : decode prog_7_method_2_code 24 = .ok (.return_, 1) := by decide +kernel
theorem dX2_become_0 : decode prog_4_method_2_code 0 = .ok (.aload_n 0, 1) := by decide +kernel
theorem dX2_become_1 : decode prog_4_method_2_code 1 = .ok (.aload_n 1, 1) := by decide +kernel
theorem dX2_become_2 : decode prog_4_method_2_code 2 = .ok (.getfield 48, 3) := by decide +kernel
theorem dX2_become_5 : decode prog_4_method_2_code 5 = .ok (.putfield 48, 3) := by decide +kernel
theorem dX2_become_8 : decode prog_4_method_2_code 8 = .ok (.iconst 0, 1) := by decide +kernel
theorem dX2_become_9 : decode prog_4_method_2_code 9 = .ok (.istore_n 2, 1) := by decide +kernel
theorem dX2_become_10 : decode prog_4_method_2_code 10 = .ok (.iload_n 2, 1) := by decide +kernel
theorem dX2_become_11 : decode prog_4_method_2_code 11 = .ok (.aload_n 0, 1) := by decide +kernel
theorem dX2_become_12 : decode prog_4_method_2_code 12 = .ok (.getfield 48, 3) := by decide +kernel
theorem dX2_become_15 : decode prog_4_method_2_code 15 = .ok (.if_icmp .ge 24, 3) := by decide +kernel
theorem dX2_become_18 : decode prog_4_method_2_code 18 = .ok (.aload_n 0, 1) := by decide +kernel
theorem dX2_become_19 : decode prog_4_method_2_code 19 = .ok (.getfield 11, 3) := by decide +kernel
theorem dX2_become_22 : decode prog_4_method_2_code 22 = .ok (.iload_n 2, 1) := by decide +kernel
theorem dX2_become_23 : decode prog_4_method_2_code 23 = .ok (.aaload, 1) := by decide +kernel
theorem dX2_become_24 : decode prog_4_method_2_code 24 = .ok (.aload_n 1, 1) := by decide +kernel
theorem dX2_become_25 : decode prog_4_method_2_code 25 = .ok (.getfield 11, 3) := by decide +kernel
theorem dX2_become_28 : decode prog_4_method_2_code 28 = .ok (.iload_n 2, 1) := by decide +kernel
theorem dX2_become_29 : decode prog_4_method_2_code 29 = .ok (.aaload, 1) := by decide +kernel
theorem dX2_become_30 : decode prog_4_method_2_code 30 = .ok (.invokevirtual 51, 3) := by decide +kernel
theorem dX2_become_33 : decode prog_4_method_2_code 33 = .ok (.iinc 2 1, 3) := by decide +kernel
theorem dX2_become_36 : decode prog_4_method_2_code 36 = .ok (.goto (-26), 3) := by decide +kernel
theorem dX2_become_39 : decode prog_4_method_2_code 39 = .ok (.aload_n 0, 1) := by decide +kernel
theorem dX2_become_40 : decode prog_4_method_2_code 40 = .ok (.aload_n 1, 1) := by decide +kernel
theorem dX2_become_41 : decode prog_4_method_2_code 41 = .ok (.getfield 55, 3) := by decide +kernel
theorem dX2_become_44 : decode prog_4_method_2_code 44 = .ok (.putfield 55, 3) := by decide +kernel
theorem dX2_become_47 : decode prog_4_method_2_code 47 = .ok (.aload_n 1, 1) := by decide +kernel
theorem dX2_become_48 : decode prog_4_method_2_code 48 = .ok (.getfield 17, 3) := by decide +kernel
theorem dX2_become_51 : decode prog_4_method_2_code 51 = .ok (.iconst 0, 1) := by decide +kernel
theorem dX2_become_52 : decode prog_4_method_2_code 52 = .ok (.aload_n 0, 1) := by decide +kernel
theorem dX2_become_53 : decode prog_4_method_2_code 53 = .ok (.getfield 17, 3) := by decide +kernel
theorem dX2_become_56 : decode prog_4_method_2_code 56 = .ok (.iconst 0, 1) := by decide +kernel
theorem dX2_become_57 : decode prog_4_method_2_code 57 = .ok (.bipush 20, 2) := by decide +kernel
theorem dX2_become_59 : decode prog_4_method_2_code 59 = .ok (.invokestatic 58, 3) := by decide +kernel
theorem dX2_become_62 : decode prog_4_method_2_code 62 = .ok (.aload_n 0, 1) := by decide +kernel
theorem dX2_become_63 : decode prog_4_method_2_code 63 = .ok (.aload_n 1, 1) := by decide +kernel
theorem dX2_become_64 : decode prog_4_method_2_code 64 = .ok (.getfield 64, 3) := by decide +kernel
theorem dX2_become_67 : decode prog_4_method_2_code 67 = .ok (.putfield 64, 3) := by decide +kernel
theorem dX2_become_70 : decode prog_4_method_2_code 70 = .ok (.iconst 0, 1) := by decide +kernel
theorem dX2_become_71 : decode prog_4_method_2_code 71 = .ok (.istore_n 2, 1) := by decide +kernel
theorem dX2_become_72 : decode prog_4_method_2_code 72 = .ok (.iload_n 2, 1) := by decide +kernel
theorem dX2_become_73 : decode prog_4_method_2_code 73 = .ok (.aload_n 0, 1) := by decide +kernel
theorem dX2_become_74 : decode prog_4_method_2_code 74 = .ok (.getfield 64, 3) := by decide +kernel
theorem dX2_become_77 : decode prog_4_method_2_code 77 = .ok (.if_icmp .ge 24, 3) := by decide +kernel
theorem dX2_become_80 : decode prog_4_method_2_code 80 = .ok (.aload_n 0, 1) := by decide +kernel
theorem dX2_become_81 : decode prog_4_method_2_code 81 = .ok (.getfield 23, 3) := by decide +kernel
theorem dX2_become_84 : decode prog_4_method_2_code 84 = .ok (.iload_n 2, 1) := by decide +kernel
theorem dX2_become_85 : decode prog_4_method_2_code 85 = .ok (.aaload, 1) := by decide +kernel
theorem dX2_become_86 : decode prog_4_method_2_code 86 = .ok (.aload_n 1, 1) := by decide +kernel
theorem dX2_become_87 : decode prog_4_method_2_code 87 = .ok (.getfield 23, 3) := by decide +kernel
theorem dX2_become_90 : decode prog_4_method_2_code 90 = .ok (.iload_n 2, 1) := by decide +kernel
theorem dX2_become_91 : decode prog_4_method_2_code 91 = .ok (.aaload, 1) := by decide +kernel
theorem dX2_become_92 : decode prog_4_method_2_code 92 = .ok (.invokevirtual 67, 3) := by decide +kernel
theorem dX2_become_95 : decode prog_4_method_2_code 95 = .ok (.iinc 2 1, 3) := by decide +kernel
theorem dX2_become_98 : decode prog_4_method_2_code 98 = .ok (.goto (-26), 3) := by decide +kernel
theorem dX2_become_101 : decode prog_4_method_2_code 101 = .ok (.aload_n 0, 1) := by decide +kernel
theorem dX2_become_102 : decode prog_4_method_2_code 102 = .ok (.aload_n 1, 1) := by decide +kernel
theorem dX2_become_103 : decode prog_4_method_2_code 103 = .ok (.getfield 70, 3) := by decide +kernel
theorem dX2_become_106 : decode prog_4_method_2_code 106 = .ok (.putfield 70, 3) := by decide +kernel
theorem dX2_become_109 : decode prog_4_method_2_code 109 = .ok (.iconst 0, 1) := by decide +kernel
theorem dX2_become_110 : decode prog_4_method_2_code 110 = .ok (.istore_n 2, 1) := by decide +kernel
theorem dX2_become_111 : decode prog_4_method_2_code 111 = .ok (.iload_n 2, 1) := by decide +kernel
theorem dX2_become_112 : decode prog_4_method_2_code 112 = .ok (.aload_n 0, 1) := by decide +kernel
theorem dX2_become_113 : decode prog_4_method_2_code 113 = .ok (.getfield 70, 3) := by decide +kernel
theorem dX2_become_116 : decode prog_4_method_2_code 116 = .ok (.if_icmp .ge 21, 3) := by decide +kernel
theorem dX2_become_119 : decode prog_4_method_2_code 119 = .ok (.aload_n 0, 1) := by decide +kernel
theorem dX2_become_120 : decode prog_4_method_2_code 120 = .ok (.getfield 29, 3) := by decide +kernel
theorem dX2_become_123 : decode prog_4_method_2_code 123 = .ok (.iload_n 2, 1) := by decide +kernel
theorem dX2_become_124 : decode prog_4_method_2_code 124 = .ok (.aload_n 1, 1) := by decide +kernel
theorem dX2_become_125 : decode prog_4_method_2_code 125 = .ok (.getfield 29, 3) := by decide +kernel
theorem dX2_become_128 : decode prog_4_method_2_code 128 = .ok (.iload_n 2, 1) := by decide +kernel
theorem dX2_become_129 : decode prog_4_method_2_code 129 = .ok (.aaload, 1) := by decide +kernel
theorem dX2_become_130 : decode prog_4_method_2_code 130 = .ok (.aastore, 1) := by decide +kernel
theorem dX2_become_131 : decode prog_4_method_2_code 131 = .ok (.iinc 2 1, 3) := by decide +kernel
theorem dX2_become_134 : decode prog_4_method_2_code 134 = .ok (.goto (-23), 3) := by decide +kernel
theorem dX2_become_137 : decode prog_4_method_2_code 137 = .ok (.aload_n 1, 1) := by decide +kernel
theorem dX2_become_138 : decode prog_4_method_2_code 138 = .ok (.getfield 33, 3) := by decide +kernel
theorem dX2_become_141 : decode prog_4_method_2_code 141 = .ok (.iconst 0, 1) := by decide +kernel
theorem dX2_become_142 : decode prog_4_method_2_code 142 = .ok (.aload_n 0, 1) := by decide +kernel
theorem dX2_become_143 : decode prog_4_method_2_code 143 = .ok (.getfield 33, 3) := by decide +kernel
theorem dX2_become_146 : decode prog_4_method_2_code 146 = .ok (.iconst 0, 1) := by decide +kernel
theorem dX2_become_147 : decode prog_4_method_2_code 147 = .ok (.iconst 3, 1) := by decide +kernel
theorem dX2_become_148 : decode prog_4_method_2_code 148 = .ok (.invokestatic 58, 3) := by decide +kernel
theorem dX2_become_151 : decode prog_4_method_2_code 151 = .ok (.aload_n 0, 1) := by decide +kernel
theorem dX2_become_152 : decode prog_4_method_2_code 152 = .ok (.aload_n 1, 1) := by decide +kernel
theorem dX2_become_153 : decode prog_4_method_2_code 153 = .ok (.getfield 73, 3) := by decide +kernel
theorem dX2_become_156 : decode prog_4_method_2_code 156 = .ok (.putfield 73, 3) := by decide +kernel
theorem dX2_become_159 : decode prog_4_method_2_code 159 = .ok (.aload_n 0, 1) := by decide +kernel
theorem dX2_become_160 : decode prog_4_method_2_code 160 = .ok (.aload_n 1, 1) := by decide +kernel
theorem dX2_become_161 : decode prog_4_method_2_code 161 = .ok (.getfield 39, 3) := by decide +kernel
theorem dX2_become_164 : decode prog_4_method_2_code 164 = .ok (.putfield 39, 3) := by decide +kernel
theorem dX2_become_167 : decode prog_4_method_2_code 167 = .ok (.aload_n 0, 1) := by decide +kernel
theorem dX2_become_168 : decode prog_4_method_2_code 168 = .ok (.aload_n 1, 1) := by decide +kernel
theorem dX2_become_169 : decode prog_4_method_2_code 169 = .ok (.getfield 76, 3) := by decide +kernel
theorem dX2_become_172 : decode prog_4_method_2_code 172 = .ok (.putfield 76, 3) := by decide +kernel
theorem dX2_become_175 : decode prog_4_method_2_code 175 = .ok (.aload_n 0, 1) := by decide +kernel
theorem dX2_become_176 : decode prog_4_method_2_code 176 = .ok (.aload_n 1, 1) := by decide +kernel
theorem dX2_become_177 : decode prog_4_method_2_code 177 = .ok (.getfield 79, 3) := by decide +kernel
theorem dX2_become_180 : decode prog_4_method_2_code 180 = .ok (.putfield 79, 3) := by decide +kernel
theorem dX2_become_183 : decode prog_4_method_2_code 183 = .ok (.aload_n 0, 1) := by decide +kernel
theorem dX2_become_184 : decode prog_4_method_2_code 184 = .ok (.aload_n 1, 1) := by decide +kernel
theorem dX2_become_185 : decode prog_4_method_2_code 185 = .ok (.getfield 82, 3) := by decide +kernel
theorem dX2_become_188 : decode prog_4_method_2_code 188 = .ok (.putfield 82, 3) := by decide +kernel
theorem dX2_become_191 : decode prog_4_method_2_code 191 = .ok (.aload_n 0, 1) := by decide +kernel
theorem dX2_become_192 : decode prog_4_method_2_code 192 = .ok (.aload_n 1, 1) := by decide +kernel
theorem dX2_become_193 : decode prog_4_method_2_code 193 = .ok (.getfield 85, 3) := by decide +kernel
theorem dX2_become_196 : decode prog_4_method_2_code 196 = .ok (.putfield 85, 3) := by decide +kernel
theorem dX2_become_199 : decode prog_4_method_2_code 199 = .ok (.aload_n 0, 1) := by decide +kernel
theorem dX2_become_200 : decode prog_4_method_2_code 200 = .ok (.aload_n 1, 1) := by decide +kernel
theorem dX2_become_201 : decode prog_4_method_2_code 201 = .ok (.getfield 88, 3) := by decide +kernel
theorem dX2_become_204 : decode prog_4_method_2_code 204 = .ok (.putfield 88, 3) := by decide +kernel
theorem dX2_become_207 : decode prog_4_method_2_code 207 = .ok (.aload_n 0, 1) := by decide +kernel
theorem dX2_become_208 : decode prog_4_method_2_code 208 = .ok (.aload_n 1, 1) := by decide +kernel
theorem dX2_become_209 : decode prog_4_method_2_code 209 = .ok (.getfield 43, 3) := by decide +kernel
theorem dX2_become_212 : decode prog_4_method_2_code 212 = .ok (.putfield 43, 3) := by decide +kernel
theorem dX2_become_215 : decode prog_4_method_2_code 215 = .ok (.return_, 1) := by decide +kernel
theorem dX2_hadNone_0 : decode prog_4_method_7_code 0 = .ok (.iconst 0, 1) := by decide +kernel
theorem dX2_hadNone_1 : decode prog_4_method_7_code 1 = .ok (.istore_n 1, 1) := by decide +kernel
theorem dX2_hadNone_2 : decode prog_4_method_7_code 2 = .ok (.iconst 0, 1) := by decide +kernel
theorem dX2_hadNone_3 : decode prog_4_method_7_code 3 = .ok (.istore_n 2, 1) := by decide +kernel
theorem dX2_hadNone_4 : decode prog_4_method_7_code 4 = .ok (.iload_n 2, 1) := by decide +kernel
theorem dX2_hadNone_5 : decode prog_4_method_7_code 5 = .ok (.aload_n 0, 1) := by decide +kernel
theorem dX2_hadNone_6 : decode prog_4_method_7_code 6 = .ok (.getfield 48, 3) := by decide +kernel
theorem dX2_hadNone_9 : decode prog_4_method_7_code 9 = .ok (.if_icmp .ge 24, 3) := by decide +kernel
theorem dX2_hadNone_12 : decode prog_4_method_7_code 12 = .ok (.aload_n 0, 1) := by decide +kernel
theorem dX2_hadNone_13 : decode prog_4_method_7_code 13 = .ok (.getfield 11, 3) := by decide +kernel
theorem dX2_hadNone_16 : decode prog_4_method_7_code 16 = .ok (.iload_n 2, 1) := by decide +kernel
theorem dX2_hadNone_17 : decode prog_4_method_7_code 17 = .ok (.aaload, 1) := by decide +kernel
theorem dX2_hadNone_18 : decode prog_4_method_7_code 18 = .ok (.getfield 102, 3) := by decide +kernel
theorem dX2_hadNone_21 : decode prog_4_method_7_code 21 = .ok (.ifCond .ne 6, 3) := by decide +kernel
theorem dX2_hadNone_24 : decode prog_4_method_7_code 24 = .ok (.iinc 1 1, 3) := by decide +kernel
theorem dX2_hadNone_27 : decode prog_4_method_7_code 27 = .ok (.iinc 2 1, 3) := by decide +kernel
theorem dX2_hadNone_30 : decode prog_4_method_7_code 30 = .ok (.goto (-26), 3) := by decide +kernel
theorem dX2_hadNone_33 : decode prog_4_method_7_code 33 = .ok (.iload_n 1, 1) := by decide +kernel
theorem dX2_hadNone_34 : decode prog_4_method_7_code 34 = .ok (.ireturn, 1) := by decide +kernel
theorem dX2_spread_0 : decode prog_4_method_8_code 0 = .ok (.bipush 99, 2) := by decide +kernel
theorem dX2_spread_2 : decode prog_4_method_8_code 2 = .ok (.istore_n 1, 1) := by decide +kernel
theorem dX2_spread_3 : decode prog_4_method_8_code 3 = .ok (.iconst 0, 1) := by decide +kernel
theorem dX2_spread_4 : decode prog_4_method_8_code 4 = .ok (.istore_n 2, 1) := by decide +kernel
theorem dX2_spread_5 : decode prog_4_method_8_code 5 = .ok (.iconst 0, 1) := by decide +kernel
theorem dX2_spread_6 : decode prog_4_method_8_code 6 = .ok (.istore_n 3, 1) := by decide +kernel
theorem dX2_spread_7 : decode prog_4_method_8_code 7 = .ok (.iload_n 3, 1) := by decide +kernel
theorem dX2_spread_8 : decode prog_4_method_8_code 8 = .ok (.aload_n 0, 1) := by decide +kernel
theorem dX2_spread_9 : decode prog_4_method_8_code 9 = .ok (.getfield 48, 3) := by decide +kernel
theorem dX2_spread_12 : decode prog_4_method_8_code 12 = .ok (.if_icmp .ge 37, 3) := by decide +kernel
theorem dX2_spread_15 : decode prog_4_method_8_code 15 = .ok (.iload_n 1, 1) := by decide +kernel
theorem dX2_spread_16 : decode prog_4_method_8_code 16 = .ok (.aload_n 0, 1) := by decide +kernel
theorem dX2_spread_17 : decode prog_4_method_8_code 17 = .ok (.getfield 11, 3) := by decide +kernel
theorem dX2_spread_20 : decode prog_4_method_8_code 20 = .ok (.iload_n 3, 1) := by decide +kernel
theorem dX2_spread_21 : decode prog_4_method_8_code 21 = .ok (.aaload, 1) := by decide +kernel
theorem dX2_spread_22 : decode prog_4_method_8_code 22 = .ok (.getfield 102, 3) := by decide +kernel
theorem dX2_spread_25 : decode prog_4_method_8_code 25 = .ok (.invokestatic 105, 3) := by decide +kernel
theorem dX2_spread_28 : decode prog_4_method_8_code 28 = .ok (.istore_n 1, 1) := by decide +kernel
theorem dX2_spread_29 : decode prog_4_method_8_code 29 = .ok (.iload_n 2, 1) := by decide +kernel
theorem dX2_spread_30 : decode prog_4_method_8_code 30 = .ok (.aload_n 0, 1) := by decide +kernel
theorem dX2_spread_31 : decode prog_4_method_8_code 31 = .ok (.getfield 11, 3) := by decide +kernel
theorem dX2_spread_34 : decode prog_4_method_8_code 34 = .ok (.iload_n 3, 1) := by decide +kernel
theorem dX2_spread_35 : decode prog_4_method_8_code 35 = .ok (.aaload, 1) := by decide +kernel
theorem dX2_spread_36 : decode prog_4_method_8_code 36 = .ok (.getfield 102, 3) := by decide +kernel
theorem dX2_spread_39 : decode prog_4_method_8_code 39 = .ok (.invokestatic 111, 3) := by decide +kernel
theorem dX2_spread_42 : decode prog_4_method_8_code 42 = .ok (.istore_n 2, 1) := by decide +kernel
theorem dX2_spread_43 : decode prog_4_method_8_code 43 = .ok (.iinc 3 1, 3) := by decide +kernel
theorem dX2_spread_46 : decode prog_4_method_8_code 46 = .ok (.goto (-39), 3) := by decide +kernel
theorem dX2_spread_49 : decode prog_4_method_8_code 49 = .ok (.aload_n 0, 1) := by decide +kernel
theorem dX2_spread_50 : decode prog_4_method_8_code 50 = .ok (.getfield 48, 3) := by decide +kernel
theorem dX2_spread_53 : decode prog_4_method_8_code 53 = .ok (.ifCond .ne 7, 3) := by decide +kernel
theorem dX2_spread_56 : decode prog_4_method_8_code 56 = .ok (.iconst 0, 1) := by decide +kernel
theorem dX2_spread_57 : decode prog_4_method_8_code 57 = .ok (.goto 6, 3) := by decide +kernel
theorem dX2_spread_60 : decode prog_4_method_8_code 60 = .ok (.iload_n 2, 1) := by decide +kernel
theorem dX2_spread_61 : decode prog_4_method_8_code 61 = .ok (.iload_n 1, 1) := by decide +kernel
theorem dX2_spread_62 : decode prog_4_method_8_code 62 = .ok (.isub, 1) := by decide +kernel
theorem dX2_spread_63 : decode prog_4_method_8_code 63 = .ok (.ireturn, 1) := by decide +kernel
theorem dX2_takeTurns_0 : decode prog_4_method_25_code 0 = .ok (.iconst (-1), 1) := by decide +kernel
theorem dX2_takeTurns_1 : decode prog_4_method_25_code 1 = .ok (.istore_n 2, 1) := by decide +kernel
theorem dX2_takeTurns_2 : decode prog_4_method_25_code 2 = .ok (.iconst 0, 1) := by decide +kernel
theorem dX2_takeTurns_3 : decode prog_4_method_25_code 3 = .ok (.istore_n 3, 1) := by decide +kernel
theorem dX2_takeTurns_4 : decode prog_4_method_25_code 4 = .ok (.iload_n 3, 1) := by decide +kernel
theorem dX2_takeTurns_5 : decode prog_4_method_25_code 5 = .ok (.iload_n 1, 1) := by decide +kernel
theorem dX2_takeTurns_6 : decode prog_4_method_25_code 6 = .ok (.if_icmp .ge 14, 3) := by decide +kernel
theorem dX2_takeTurns_9 : decode prog_4_method_25_code 9 = .ok (.aload_n 0, 1) := by decide +kernel
theorem dX2_takeTurns_10 : decode prog_4_method_25_code 10 = .ok (.invokevirtual 195, 3) := by decide +kernel
theorem dX2_takeTurns_13 : decode prog_4_method_25_code 13 = .ok (.istore_n 2, 1) := by decide +kernel
theorem dX2_takeTurns_14 : decode prog_4_method_25_code 14 = .ok (.iinc 3 1, 3) := by decide +kernel
theorem dX2_takeTurns_17 : decode prog_4_method_25_code 17 = .ok (.goto (-13), 3) := by decide +kernel
theorem dX2_takeTurns_20 : decode prog_4_method_25_code 20 = .ok (.iload_n 2, 1) := by decide +kernel
theorem dX2_takeTurns_21 : decode prog_4_method_25_code 21 = .ok (.ireturn, 1) := by decide +kernel
theorem dX7_behind_0 : decode prog_1_method_19_code 0 = .ok (.iload_n 1, 1) := by decide +kernel
theorem dX7_behind_1 : decode prog_1_method_19_code 1 = .ok (.iconst 0, 1) := by decide +kernel
theorem dX7_behind_2 : decode prog_1_method_19_code 2 = .ok (.bipush 100, 2) := by decide +kernel
theorem dX7_behind_4 : decode prog_1_method_19_code 4 = .ok (.invokestatic 47, 3) := by decide +kernel
theorem dX7_behind_7 : decode prog_1_method_19_code 7 = .ok (.ifCond .eq 12, 3) := by decide +kernel
theorem dX7_behind_10 : decode prog_1_method_19_code 10 = .ok (.iload_n 2, 1) := by decide +kernel
theorem dX7_behind_11 : decode prog_1_method_19_code 11 = .ok (.iconst 0, 1) := by decide +kernel
theorem dX7_behind_12 : decode prog_1_method_19_code 12 = .ok (.iconst 5, 1) := by decide +kernel
theorem dX7_behind_13 : decode prog_1_method_19_code 13 = .ok (.invokestatic 47, 3) := by decide +kernel
theorem dX7_behind_16 : decode prog_1_method_19_code 16 = .ok (.ifCond .ne 6, 3) := by decide +kernel
theorem dX7_behind_19 : decode prog_1_method_19_code 19 = .ok (.ldc 51, 2) := by decide +kernel
theorem dX7_behind_21 : decode prog_1_method_19_code 21 = .ok (.ireturn, 1) := by decide +kernel
theorem dX7_behind_22 : decode prog_1_method_19_code 22 = .ok (.aload_n 0, 1) := by decide +kernel
theorem dX7_behind_23 : decode prog_1_method_19_code 23 = .ok (.getfield 16, 3) := by decide +kernel
theorem dX7_behind_26 : decode prog_1_method_19_code 26 = .ok (.aload_n 0, 1) := by decide +kernel
theorem dX7_behind_27 : decode prog_1_method_19_code 27 = .ok (.getfield 10, 3) := by decide +kernel
theorem dX7_behind_30 : decode prog_1_method_19_code 30 = .ok (.invokevirtual 180, 3) := by decide +kernel
theorem dX7_behind_33 : decode prog_1_method_19_code 33 = .ok (.aload_n 0, 1) := by decide +kernel
theorem dX7_behind_34 : decode prog_1_method_19_code 34 = .ok (.getfield 16, 3) := by decide +kernel
theorem dX7_behind_37 : decode prog_1_method_19_code 37 = .ok (.iload_n 1, 1) := by decide +kernel
theorem dX7_behind_38 : decode prog_1_method_19_code 38 = .ok (.invokevirtual 184, 3) := by decide +kernel
theorem dX7_behind_41 : decode prog_1_method_19_code 41 = .ok (.pop, 1) := by decide +kernel
theorem dX7_behind_42 : decode prog_1_method_19_code 42 = .ok (.iload_n 2, 1) := by decide +kernel
theorem dX7_behind_43 : decode prog_1_method_19_code 43 = .ok (.tableswitch 73 0 4 #[33, 41, 49, 57, 65], 33) := by decide +kernel
theorem dX7_behind_76 : decode prog_1_method_19_code 76 = .ok (.aload_n 0, 1) := by decide +kernel
theorem dX7_behind_77 : decode prog_1_method_19_code 77 = .ok (.getfield 16, 3) := by decide +kernel
theorem dX7_behind_80 : decode prog_1_method_19_code 80 = .ok (.getfield 99, 3) := by decide +kernel
theorem dX7_behind_83 : decode prog_1_method_19_code 83 = .ok (.ireturn, 1) := by decide +kernel
theorem dX7_behind_84 : decode prog_1_method_19_code 84 = .ok (.aload_n 0, 1) := by decide +kernel
theorem dX7_behind_85 : decode prog_1_method_19_code 85 = .ok (.getfield 16, 3) := by decide +kernel
theorem dX7_behind_88 : decode prog_1_method_19_code 88 = .ok (.invokevirtual 187, 3) := by decide +kernel
theorem dX7_behind_91 : decode prog_1_method_19_code 91 = .ok (.ireturn, 1) := by decide +kernel
theorem dX7_behind_92 : decode prog_1_method_19_code 92 = .ok (.aload_n 0, 1) := by decide +kernel
theorem dX7_behind_93 : decode prog_1_method_19_code 93 = .ok (.getfield 16, 3) := by decide +kernel
theorem dX7_behind_96 : decode prog_1_method_19_code 96 = .ok (.invokevirtual 190, 3) := by decide +kernel
theorem dX7_behind_99 : decode prog_1_method_19_code 99 = .ok (.ireturn, 1) := by decide +kernel
theorem dX7_behind_100 : decode prog_1_method_19_code 100 = .ok (.aload_n 0, 1) := by decide +kernel
theorem dX7_behind_101 : decode prog_1_method_19_code 101 = .ok (.getfield 16, 3) := by decide +kernel
theorem dX7_behind_104 : decode prog_1_method_19_code 104 = .ok (.getfield 193, 3) := by decide +kernel
theorem dX7_behind_107 : decode prog_1_method_19_code 107 = .ok (.ireturn, 1) := by decide +kernel
theorem dX7_behind_108 : decode prog_1_method_19_code 108 = .ok (.aload_n 0, 1) := by decide +kernel
theorem dX7_behind_109 : decode prog_1_method_19_code 109 = .ok (.getfield 16, 3) := by decide +kernel
theorem dX7_behind_112 : decode prog_1_method_19_code 112 = .ok (.getfield 196, 3) := by decide +kernel
theorem dX7_behind_115 : decode prog_1_method_19_code 115 = .ok (.ireturn, 1) := by decide +kernel
theorem dX7_behind_116 : decode prog_1_method_19_code 116 = .ok (.aload_n 0, 1) := by decide +kernel
theorem dX7_behind_117 : decode prog_1_method_19_code 117 = .ok (.getfield 16, 3) := by decide +kernel
theorem dX7_behind_120 : decode prog_1_method_19_code 120 = .ok (.getfield 199, 3) := by decide +kernel
theorem dX7_behind_123 : decode prog_1_method_19_code 123 = .ok (.ireturn, 1) := by decide +kernel
theorem dX7_had_0 : decode prog_1_method_20_code 0 = .ok (.aload_n 0, 1) := by decide +kernel
theorem dX7_had_1 : decode prog_1_method_20_code 1 = .ok (.getfield 10, 3) := by decide +kernel
theorem dX7_had_4 : decode prog_1_method_20_code 4 = .ok (.iload_n 1, 1) := by decide +kernel
theorem dX7_had_5 : decode prog_1_method_20_code 5 = .ok (.invokevirtual 72, 3) := by decide +kernel
theorem dX7_had_8 : decode prog_1_method_20_code 8 = .ok (.ifCond .eq 13, 3) := by decide +kernel
theorem dX7_had_11 : decode prog_1_method_20_code 11 = .ok (.iload_n 2, 1) := by decide +kernel
theorem dX7_had_12 : decode prog_1_method_20_code 12 = .ok (.iconst 0, 1) := by decide +kernel
theorem dX7_had_13 : decode prog_1_method_20_code 13 = .ok (.bipush 100, 2) := by decide +kernel
theorem dX7_had_15 : decode prog_1_method_20_code 15 = .ok (.invokestatic 47, 3) := by decide +kernel
theorem dX7_had_18 : decode prog_1_method_20_code 18 = .ok (.ifCond .ne 6, 3) := by decide +kernel
theorem dX7_had_21 : decode prog_1_method_20_code 21 = .ok (.ldc 51, 2) := by decide +kernel
theorem dX7_had_23 : decode prog_1_method_20_code 23 = .ok (.ireturn, 1) := by decide +kernel
theorem dX7_had_24 : decode prog_1_method_20_code 24 = .ok (.aload_n 0, 1) := by decide +kernel
theorem dX7_had_25 : decode prog_1_method_20_code 25 = .ok (.getfield 16, 3) := by decide +kernel
theorem dX7_had_28 : decode prog_1_method_20_code 28 = .ok (.aload_n 0, 1) := by decide +kernel
theorem dX7_had_29 : decode prog_1_method_20_code 29 = .ok (.getfield 10, 3) := by decide +kernel
theorem dX7_had_32 : decode prog_1_method_20_code 32 = .ok (.invokevirtual 180, 3) := by decide +kernel
theorem dX7_had_35 : decode prog_1_method_20_code 35 = .ok (.aload_n 0, 1) := by decide +kernel
theorem dX7_had_36 : decode prog_1_method_20_code 36 = .ok (.getfield 16, 3) := by decide +kernel
theorem dX7_had_39 : decode prog_1_method_20_code 39 = .ok (.iload_n 2, 1) := by decide +kernel
theorem dX7_had_40 : decode prog_1_method_20_code 40 = .ok (.invokevirtual 184, 3) := by decide +kernel
theorem dX7_had_43 : decode prog_1_method_20_code 43 = .ok (.pop, 1) := by decide +kernel
theorem dX7_had_44 : decode prog_1_method_20_code 44 = .ok (.aload_n 0, 1) := by decide +kernel
theorem dX7_had_45 : decode prog_1_method_20_code 45 = .ok (.getfield 16, 3) := by decide +kernel
theorem dX7_had_48 : decode prog_1_method_20_code 48 = .ok (.getfield 57, 3) := by decide +kernel
theorem dX7_had_51 : decode prog_1_method_20_code 51 = .ok (.iload_n 1, 1) := by decide +kernel
theorem dX7_had_52 : decode prog_1_method_20_code 52 = .ok (.aaload, 1) := by decide +kernel
theorem dX7_had_53 : decode prog_1_method_20_code 53 = .ok (.getfield 66, 3) := by decide +kernel
theorem dX7_had_56 : decode prog_1_method_20_code 56 = .ok (.ireturn, 1) := by decide +kernel
theorem dX7_all_0 : decode prog_1_method_21_code 0 = .ok (.aload_n 0, 1) := by decide +kernel
theorem dX7_all_1 : decode prog_1_method_21_code 1 = .ok (.getfield 16, 3) := by decide +kernel
theorem dX7_all_4 : decode prog_1_method_21_code 4 = .ok (.aload_n 0, 1) := by decide +kernel
theorem dX7_all_5 : decode prog_1_method_21_code 5 = .ok (.getfield 10, 3) := by decide +kernel
theorem dX7_all_8 : decode prog_1_method_21_code 8 = .ok (.invokevirtual 180, 3) := by decide +kernel
theorem dX7_all_11 : decode prog_1_method_21_code 11 = .ok (.iconst 0, 1) := by decide +kernel
theorem dX7_all_12 : decode prog_1_method_21_code 12 = .ok (.istore_n 1, 1) := by decide +kernel
theorem dX7_all_13 : decode prog_1_method_21_code 13 = .ok (.iload_n 1, 1) := by decide +kernel
theorem dX7_all_14 : decode prog_1_method_21_code 14 = .ok (.bipush 60, 2) := by decide +kernel
theorem dX7_all_16 : decode prog_1_method_21_code 16 = .ok (.if_icmp .gt 29, 3) := by decide +kernel
theorem dX7_all_19 : decode prog_1_method_21_code 19 = .ok (.aload_n 0, 1) := by decide +kernel
theorem dX7_all_20 : decode prog_1_method_21_code 20 = .ok (.getfield 16, 3) := by decide +kernel
theorem dX7_all_23 : decode prog_1_method_21_code 23 = .ok (.invokevirtual 190, 3) := by decide +kernel
theorem dX7_all_26 : decode prog_1_method_21_code 26 = .ok (.ifCond .ne 5, 3) := by decide +kernel
theorem dX7_all_29 : decode prog_1_method_21_code 29 = .ok (.iload_n 1, 1) := by decide +kernel
theorem dX7_all_30 : decode prog_1_method_21_code 30 = .ok (.ireturn, 1) := by decide +kernel
theorem dX7_all_31 : decode prog_1_method_21_code 31 = .ok (.aload_n 0, 1) := by decide +kernel
theorem dX7_all_32 : decode prog_1_method_21_code 32 = .ok (.getfield 16, 3) := by decide +kernel
theorem dX7_all_35 : decode prog_1_method_21_code 35 = .ok (.invokevirtual 166, 3) := by decide +kernel
theorem dX7_all_38 : decode prog_1_method_21_code 38 = .ok (.pop, 1) := by decide +kernel
theorem dX7_all_39 : decode prog_1_method_21_code 39 = .ok (.iinc 1 1, 3) := by decide +kernel
theorem dX7_all_42 : decode prog_1_method_21_code 42 = .ok (.goto (-29), 3) := by decide +kernel
theorem dX7_all_45 : decode prog_1_method_21_code 45 = .ok (.ldc 202, 2) := by decide +kernel
theorem dX7_all_47 : decode prog_1_method_21_code 47 = .ok (.ireturn, 1) := by decide +kernel
theorem dX7_evens_0 : decode prog_1_method_22_code 0 = .ok (.iload_n 1, 1) := by decide +kernel
theorem dX7_evens_1 : decode prog_1_method_22_code 1 = .ok (.iconst 0, 1) := by decide +kernel
theorem dX7_evens_2 : decode prog_1_method_22_code 2 = .ok (.bipush 99, 2) := by decide +kernel
theorem dX7_evens_4 : decode prog_1_method_22_code 4 = .ok (.invokestatic 47, 3) := by decide +kernel
theorem dX7_evens_7 : decode prog_1_method_22_code 7 = .ok (.ifCond .ne 6, 3) := by decide +kernel
theorem dX7_evens_10 : decode prog_1_method_22_code 10 = .ok (.ldc 51, 2) := by decide +kernel
theorem dX7_evens_12 : decode prog_1_method_22_code 12 = .ok (.ireturn, 1) := by decide +kernel
theorem dX7_evens_13 : decode prog_1_method_22_code 13 = .ok (.aload_n 0, 1) := by decide +kernel
theorem dX7_evens_14 : decode prog_1_method_22_code 14 = .ok (.getfield 16, 3) := by decide +kernel
theorem dX7_evens_17 : decode prog_1_method_22_code 17 = .ok (.aload_n 0, 1) := by decide +kernel
theorem dX7_evens_18 : decode prog_1_method_22_code 18 = .ok (.getfield 10, 3) := by decide +kernel
theorem dX7_evens_21 : decode prog_1_method_22_code 21 = .ok (.invokevirtual 180, 3) := by decide +kernel
theorem dX7_evens_24 : decode prog_1_method_22_code 24 = .ok (.iconst 0, 1) := by decide +kernel
theorem dX7_evens_25 : decode prog_1_method_22_code 25 = .ok (.istore_n 2, 1) := by decide +kernel
theorem dX7_evens_26 : decode prog_1_method_22_code 26 = .ok (.iload_n 2, 1) := by decide +kernel
theorem dX7_evens_27 : decode prog_1_method_22_code 27 = .ok (.bipush 60, 2) := by decide +kernel
theorem dX7_evens_29 : decode prog_1_method_22_code 29 = .ok (.if_icmp .gt 30, 3) := by decide +kernel
theorem dX7_evens_32 : decode prog_1_method_22_code 32 = .ok (.aload_n 0, 1) := by decide +kernel
theorem dX7_evens_33 : decode prog_1_method_22_code 33 = .ok (.getfield 16, 3) := by decide +kernel
theorem dX7_evens_36 : decode prog_1_method_22_code 36 = .ok (.invokevirtual 187, 3) := by decide +kernel
theorem dX7_evens_39 : decode prog_1_method_22_code 39 = .ok (.iload_n 1, 1) := by decide +kernel
theorem dX7_evens_40 : decode prog_1_method_22_code 40 = .ok (.if_icmp .gt 5, 3) := by decide +kernel
theorem dX7_evens_43 : decode prog_1_method_22_code 43 = .ok (.iload_n 2, 1) := by decide +kernel
theorem dX7_evens_44 : decode prog_1_method_22_code 44 = .ok (.ireturn, 1) := by decide +kernel
theorem dX7_evens_45 : decode prog_1_method_22_code 45 = .ok (.aload_n 0, 1) := by decide +kernel
theorem dX7_evens_46 : decode prog_1_method_22_code 46 = .ok (.getfield 16, 3) := by decide +kernel
theorem dX7_evens_49 : decode prog_1_method_22_code 49 = .ok (.invokevirtual 166, 3) := by decide +kernel
theorem dX7_evens_52 : decode prog_1_method_22_code 52 = .ok (.pop, 1) := by decide +kernel
theorem dX7_evens_53 : decode prog_1_method_22_code 53 = .ok (.iinc 2 1, 3) := by decide +kernel
theorem dX7_evens_56 : decode prog_1_method_22_code 56 = .ok (.goto (-30), 3) := by decide +kernel
theorem dX7_evens_59 : decode prog_1_method_22_code 59 = .ok (.ldc 202, 2) := by decide +kernel
theorem dX7_evens_61 : decode prog_1_method_22_code 61 = .ok (.ireturn, 1) := by decide +kernel
theorem dX2_makeEvenings_0 : decode prog_4_method_27_code 0 = .ok (.iconst 0, 1) := by decide +kernel
theorem dX2_makeEvenings_1 : decode prog_4_method_27_code 1 = .ok (.istore_n 1, 1) := by decide +kernel
theorem dX2_makeEvenings_2 : decode prog_4_method_27_code 2 = .ok (.iload_n 1, 1) := by decide +kernel
theorem dX2_makeEvenings_3 : decode prog_4_method_27_code 3 = .ok (.aload_n 0, 1) := by decide +kernel
theorem dX2_makeEvenings_4 : decode prog_4_method_27_code 4 = .ok (.getfield 64, 3) := by decide +kernel
theorem dX2_makeEvenings_7 : decode prog_4_method_27_code 7 = .ok (.if_icmp .ge 19, 3) := by decide +kernel
theorem dX2_makeEvenings_10 : decode prog_4_method_27_code 10 = .ok (.aload_n 0, 1) := by decide +kernel
theorem dX2_makeEvenings_11 : decode prog_4_method_27_code 11 = .ok (.getfield 23, 3) := by decide +kernel
theorem dX2_makeEvenings_14 : decode prog_4_method_27_code 14 = .ok (.iload_n 1, 1) := by decide +kernel
theorem dX2_makeEvenings_15 : decode prog_4_method_27_code 15 = .ok (.aaload, 1) := by decide +kernel
theorem dX2_makeEvenings_16 : decode prog_4_method_27_code 16 = .ok (.iconst 2, 1) := by decide +kernel
theorem dX2_makeEvenings_17 : decode prog_4_method_27_code 17 = .ok (.putfield 114, 3) := by decide +kernel
theorem dX2_makeEvenings_20 : decode prog_4_method_27_code 20 = .ok (.iinc 1 1, 3) := by decide +kernel
theorem dX2_makeEvenings_23 : decode prog_4_method_27_code 23 = .ok (.goto (-21), 3) := by decide +kernel
theorem dX2_makeEvenings_26 : decode prog_4_method_27_code 26 = .ok (.return_, 1) := by decide +kernel
theorem dX7_steer_0 : decode prog_1_method_23_code 0 = .ok (.aload_n 0, 1) := by decide +kernel
theorem dX7_steer_1 : decode prog_1_method_23_code 1 = .ok (.getfield 10, 3) := by decide +kernel
theorem dX7_steer_4 : decode prog_1_method_23_code 4 = .ok (.iload_n 1, 1) := by decide +kernel
theorem dX7_steer_5 : decode prog_1_method_23_code 5 = .ok (.invokevirtual 72, 3) := by decide +kernel
theorem dX7_steer_8 : decode prog_1_method_23_code 8 = .ok (.ifCond .eq 13, 3) := by decide +kernel
theorem dX7_steer_11 : decode prog_1_method_23_code 11 = .ok (.iload_n 2, 1) := by decide +kernel
theorem dX7_steer_12 : decode prog_1_method_23_code 12 = .ok (.iconst 1, 1) := by decide +kernel
theorem dX7_steer_13 : decode prog_1_method_23_code 13 = .ok (.bipush 30, 2) := by decide +kernel
theorem dX7_steer_15 : decode prog_1_method_23_code 15 = .ok (.invokestatic 47, 3) := by decide +kernel
theorem dX7_steer_18 : decode prog_1_method_23_code 18 = .ok (.ifCond .ne 6, 3) := by decide +kernel
theorem dX7_steer_21 : decode prog_1_method_23_code 21 = .ok (.ldc 51, 2) := by decide +kernel
theorem dX7_steer_23 : decode prog_1_method_23_code 23 = .ok (.ireturn, 1) := by decide +kernel
theorem dX7_steer_24 : decode prog_1_method_23_code 24 = .ok (.iload_n 2, 1) := by decide +kernel
theorem dX7_steer_25 : decode prog_1_method_23_code 25 = .ok (.iconst 1, 1) := by decide +kernel
theorem dX7_steer_26 : decode prog_1_method_23_code 26 = .ok (.isub, 1) := by decide +kernel
theorem dX7_steer_27 : decode prog_1_method_23_code 27 = .ok (.istore_n 3, 1) := by decide +kernel
theorem dX7_steer_28 : decode prog_1_method_23_code 28 = .ok (.iload_n 3, 1) := by decide +kernel
theorem dX7_steer_29 : decode prog_1_method_23_code 29 = .ok (.ifCond .lt 52, 3) := by decide +kernel
theorem dX7_steer_32 : decode prog_1_method_23_code 32 = .ok (.aload_n 0, 1) := by decide +kernel
theorem dX7_steer_33 : decode prog_1_method_23_code 33 = .ok (.getfield 16, 3) := by decide +kernel
theorem dX7_steer_36 : decode prog_1_method_23_code 36 = .ok (.aload_n 0, 1) := by decide +kernel
theorem dX7_steer_37 : decode prog_1_method_23_code 37 = .ok (.getfield 10, 3) := by decide +kernel
theorem dX7_steer_40 : decode prog_1_method_23_code 40 = .ok (.invokevirtual 180, 3) := by decide +kernel
theorem dX7_steer_43 : decode prog_1_method_23_code 43 = .ok (.aload_n 0, 1) := by decide +kernel
theorem dX7_steer_44 : decode prog_1_method_23_code 44 = .ok (.getfield 16, 3) := by decide +kernel
theorem dX7_steer_47 : decode prog_1_method_23_code 47 = .ok (.iload_n 3, 1) := by decide +kernel
theorem dX7_steer_48 : decode prog_1_method_23_code 48 = .ok (.invokevirtual 184, 3) := by decide +kernel
theorem dX7_steer_51 : decode prog_1_method_23_code 51 = .ok (.pop, 1) := by decide +kernel
theorem dX7_steer_52 : decode prog_1_method_23_code 52 = .ok (.aload_n 0, 1) := by decide +kernel
theorem dX7_steer_53 : decode prog_1_method_23_code 53 = .ok (.getfield 16, 3) := by decide +kernel
theorem dX7_steer_56 : decode prog_1_method_23_code 56 = .ok (.invokevirtual 203, 3) := by decide +kernel
theorem dX7_steer_59 : decode prog_1_method_23_code 59 = .ok (.aload_n 0, 1) := by decide +kernel
theorem dX7_steer_60 : decode prog_1_method_23_code 60 = .ok (.getfield 16, 3) := by decide +kernel
theorem dX7_steer_63 : decode prog_1_method_23_code 63 = .ok (.iload_n 2, 1) := by decide +kernel
theorem dX7_steer_64 : decode prog_1_method_23_code 64 = .ok (.iload_n 3, 1) := by decide +kernel
theorem dX7_steer_65 : decode prog_1_method_23_code 65 = .ok (.isub, 1) := by decide +kernel
theorem dX7_steer_66 : decode prog_1_method_23_code 66 = .ok (.invokevirtual 184, 3) := by decide +kernel
theorem dX7_steer_69 : decode prog_1_method_23_code 69 = .ok (.iload_n 1, 1) := by decide +kernel
theorem dX7_steer_70 : decode prog_1_method_23_code 70 = .ok (.if_icmp .ne 5, 3) := by decide +kernel
theorem dX7_steer_73 : decode prog_1_method_23_code 73 = .ok (.iload_n 3, 1) := by decide +kernel
theorem dX7_steer_74 : decode prog_1_method_23_code 74 = .ok (.ireturn, 1) := by decide +kernel
theorem dX7_steer_75 : decode prog_1_method_23_code 75 = .ok (.iinc 3 (-1), 3) := by decide +kernel
theorem dX7_steer_78 : decode prog_1_method_23_code 78 = .ok (.goto (-50), 3) := by decide +kernel
theorem dX7_steer_81 : decode prog_1_method_23_code 81 = .ok (.ldc 202, 2) := by decide +kernel
theorem dX7_steer_83 : decode prog_1_method_23_code 83 = .ok (.ireturn, 1) := by decide +kernel
theorem dX7_pays_0 : decode prog_1_method_24_code 0 = .ok (.aload_n 0, 1) := by decide +kernel
theorem dX7_pays_1 : decode prog_1_method_24_code 1 = .ok (.getfield 10, 3) := by decide +kernel
theorem dX7_pays_4 : decode prog_1_method_24_code 4 = .ok (.iload_n 1, 1) := by decide +kernel
theorem dX7_pays_5 : decode prog_1_method_24_code 5 = .ok (.invokevirtual 72, 3) := by decide +kernel
theorem dX7_pays_8 : decode prog_1_method_24_code 8 = .ok (.ifCond .eq 22, 3) := by decide +kernel
theorem dX7_pays_11 : decode prog_1_method_24_code 11 = .ok (.iload_n 2, 1) := by decide +kernel
theorem dX7_pays_12 : decode prog_1_method_24_code 12 = .ok (.iconst 1, 1) := by decide +kernel
theorem dX7_pays_13 : decode prog_1_method_24_code 13 = .ok (.bipush 60, 2) := by decide +kernel
theorem dX7_pays_15 : decode prog_1_method_24_code 15 = .ok (.invokestatic 47, 3) := by decide +kernel
theorem dX7_pays_18 : decode prog_1_method_24_code 18 = .ok (.ifCond .eq 12, 3) := by decide +kernel
theorem dX7_pays_21 : decode prog_1_method_24_code 21 = .ok (.iload_n 3, 1) := by decide +kernel
theorem dX7_pays_22 : decode prog_1_method_24_code 22 = .ok (.iconst 0, 1) := by decide +kernel
theorem dX7_pays_23 : decode prog_1_method_24_code 23 = .ok (.iconst 1, 1) := by decide +kernel
theorem dX7_pays_24 : decode prog_1_method_24_code 24 = .ok (.invokestatic 47, 3) := by decide +kernel
theorem dX7_pays_27 : decode prog_1_method_24_code 27 = .ok (.ifCond .ne 6, 3) := by decide +kernel
theorem dX7_pays_30 : decode prog_1_method_24_code 30 = .ok (.ldc 51, 2) := by decide +kernel
theorem dX7_pays_32 : decode prog_1_method_24_code 32 = .ok (.ireturn, 1) := by decide +kernel
theorem dX7_pays_33 : decode prog_1_method_24_code 33 = .ok (.iconst 0, 1) := by decide +kernel
theorem dX7_pays_34 : decode prog_1_method_24_code 34 = .ok (.istore 4, 2) := by decide +kernel
theorem dX7_pays_36 : decode prog_1_method_24_code 36 = .ok (.iconst (-1), 1) := by decide +kernel
theorem dX7_pays_37 : decode prog_1_method_24_code 37 = .ok (.istore 5, 2) := by decide +kernel
theorem dX7_pays_39 : decode prog_1_method_24_code 39 = .ok (.iconst 1, 1) := by decide +kernel
theorem dX7_pays_40 : decode prog_1_method_24_code 40 = .ok (.istore 6, 2) := by decide +kernel
theorem dX7_pays_42 : decode prog_1_method_24_code 42 = .ok (.iload 6, 2) := by decide +kernel
theorem dX7_pays_44 : decode prog_1_method_24_code 44 = .ok (.bipush 9, 2) := by decide +kernel
theorem dX7_pays_46 : decode prog_1_method_24_code 46 = .ok (.if_icmp .gt 78, 3) := by decide +kernel
theorem dX7_pays_49 : decode prog_1_method_24_code 49 = .ok (.aload_n 0, 1) := by decide +kernel
theorem dX7_pays_50 : decode prog_1_method_24_code 50 = .ok (.getfield 16, 3) := by decide +kernel
theorem dX7_pays_53 : decode prog_1_method_24_code 53 = .ok (.aload_n 0, 1) := by decide +kernel
theorem dX7_pays_54 : decode prog_1_method_24_code 54 = .ok (.getfield 10, 3) := by decide +kernel
theorem dX7_pays_57 : decode prog_1_method_24_code 57 = .ok (.invokevirtual 180, 3) := by decide +kernel
theorem dX7_pays_60 : decode prog_1_method_24_code 60 = .ok (.aload_n 0, 1) := by decide +kernel
theorem dX7_pays_61 : decode prog_1_method_24_code 61 = .ok (.getfield 16, 3) := by decide +kernel
theorem dX7_pays_64 : decode prog_1_method_24_code 64 = .ok (.getfield 57, 3) := by decide +kernel
theorem dX7_pays_67 : decode prog_1_method_24_code 67 = .ok (.iload_n 1, 1) := by decide +kernel
theorem dX7_pays_68 : decode prog_1_method_24_code 68 = .ok (.aaload, 1) := by decide +kernel
theorem dX7_pays_69 : decode prog_1_method_24_code 69 = .ok (.iload 6, 2) := by decide +kernel
theorem dX7_pays_71 : decode prog_1_method_24_code 71 = .ok (.putfield 61, 3) := by decide +kernel
theorem dX7_pays_74 : decode prog_1_method_24_code 74 = .ok (.aload_n 0, 1) := by decide +kernel
theorem dX7_pays_75 : decode prog_1_method_24_code 75 = .ok (.getfield 16, 3) := by decide +kernel
theorem dX7_pays_78 : decode prog_1_method_24_code 78 = .ok (.iload_n 2, 1) := by decide +kernel
theorem dX7_pays_79 : decode prog_1_method_24_code 79 = .ok (.invokevirtual 184, 3) := by decide +kernel
theorem dX7_pays_82 : decode prog_1_method_24_code 82 = .ok (.pop, 1) := by decide +kernel
theorem dX7_pays_83 : decode prog_1_method_24_code 83 = .ok (.aload_n 0, 1) := by decide +kernel
theorem dX7_pays_84 : decode prog_1_method_24_code 84 = .ok (.getfield 16, 3) := by decide +kernel
theorem dX7_pays_87 : decode prog_1_method_24_code 87 = .ok (.getfield 57, 3) := by decide +kernel
theorem dX7_pays_90 : decode prog_1_method_24_code 90 = .ok (.iload_n 1, 1) := by decide +kernel
theorem dX7_pays_91 : decode prog_1_method_24_code 91 = .ok (.aaload, 1) := by decide +kernel
theorem dX7_pays_92 : decode prog_1_method_24_code 92 = .ok (.getfield 66, 3) := by decide +kernel
theorem dX7_pays_95 : decode prog_1_method_24_code 95 = .ok (.iload 5, 2) := by decide +kernel
theorem dX7_pays_97 : decode prog_1_method_24_code 97 = .ok (.if_icmp .le 21, 3) := by decide +kernel
theorem dX7_pays_100 : decode prog_1_method_24_code 100 = .ok (.iload 6, 2) := by decide +kernel
theorem dX7_pays_102 : decode prog_1_method_24_code 102 = .ok (.istore 4, 2) := by decide +kernel
theorem dX7_pays_104 : decode prog_1_method_24_code 104 = .ok (.aload_n 0, 1) := by decide +kernel
theorem dX7_pays_105 : decode prog_1_method_24_code 105 = .ok (.getfield 16, 3) := by decide +kernel
theorem dX7_pays_108 : decode prog_1_method_24_code 108 = .ok (.getfield 57, 3) := by decide +kernel
theorem dX7_pays_111 : decode prog_1_method_24_code 111 = .ok (.iload_n 1, 1) := by decide +kernel
theorem dX7_pays_112 : decode prog_1_method_24_code 112 = .ok (.aaload, 1) := by decide +kernel
theorem dX7_pays_113 : decode prog_1_method_24_code 113 = .ok (.getfield 66, 3) := by decide +kernel
theorem dX7_pays_116 : decode prog_1_method_24_code 116 = .ok (.istore 5, 2) := by decide +kernel
theorem dX7_pays_118 : decode prog_1_method_24_code 118 = .ok (.iinc 6 1, 3) := by decide +kernel
theorem dX7_pays_121 : decode prog_1_method_24_code 121 = .ok (.goto (-79), 3) := by decide +kernel
theorem dX7_pays_124 : decode prog_1_method_24_code 124 = .ok (.iload_n 3, 1) := by decide +kernel
theorem dX7_pays_125 : decode prog_1_method_24_code 125 = .ok (.ifCond .ne 8, 3) := by decide +kernel
theorem dX7_pays_128 : decode prog_1_method_24_code 128 = .ok (.iload 4, 2) := by decide +kernel
theorem dX7_pays_130 : decode prog_1_method_24_code 130 = .ok (.goto 5, 3) := by decide +kernel
theorem dX7_pays_133 : decode prog_1_method_24_code 133 = .ok (.iload 5, 2) := by decide +kernel
theorem dX7_pays_135 : decode prog_1_method_24_code 135 = .ok (.ireturn, 1) := by decide +kernel
theorem dX7_worst_0 : decode prog_1_method_25_code 0 = .ok (.iload_n 1, 1) := by decide +kernel
theorem dX7_worst_1 : decode prog_1_method_25_code 1 = .ok (.iconst 1, 1) := by decide +kernel
theorem dX7_worst_2 : decode prog_1_method_25_code 2 = .ok (.bipush 60, 2) := by decide +kernel
theorem dX7_worst_4 : decode prog_1_method_25_code 4 = .ok (.invokestatic 47, 3) := by decide +kernel
theorem dX7_worst_7 : decode prog_1_method_25_code 7 = .ok (.ifCond .eq 12, 3) := by decide +kernel
theorem dX7_worst_10 : decode prog_1_method_25_code 10 = .ok (.iload_n 2, 1) := by decide +kernel
theorem dX7_worst_11 : decode prog_1_method_25_code 11 = .ok (.iconst 0, 1) := by decide +kernel
theorem dX7_worst_12 : decode prog_1_method_25_code 12 = .ok (.iconst 1, 1) := by decide +kernel
theorem dX7_worst_13 : decode prog_1_method_25_code 13 = .ok (.invokestatic 47, 3) := by decide +kernel
theorem dX7_worst_16 : decode prog_1_method_25_code 16 = .ok (.ifCond .ne 6, 3) := by decide +kernel
theorem dX7_worst_19 : decode prog_1_method_25_code 19 = .ok (.ldc 51, 2) := by decide +kernel
theorem dX7_worst_21 : decode prog_1_method_25_code 21 = .ok (.ireturn, 1) := by decide +kernel
theorem dX7_worst_22 : decode prog_1_method_25_code 22 = .ok (.ldc 202, 2) := by decide +kernel
theorem dX7_worst_24 : decode prog_1_method_25_code 24 = .ok (.istore_n 3, 1) := by decide +kernel
theorem dX7_worst_25 : decode prog_1_method_25_code 25 = .ok (.ldc 202, 2) := by decide +kernel
theorem dX7_worst_27 : decode prog_1_method_25_code 27 = .ok (.istore 4, 2) := by decide +kernel
theorem dX7_worst_29 : decode prog_1_method_25_code 29 = .ok (.iconst 0, 1) := by decide +kernel
theorem dX7_worst_30 : decode prog_1_method_25_code 30 = .ok (.istore 5, 2) := by decide +kernel
theorem dX7_worst_32 : decode prog_1_method_25_code 32 = .ok (.iload 5, 2) := by decide +kernel
theorem dX7_worst_34 : decode prog_1_method_25_code 34 = .ok (.aload_n 0, 1) := by decide +kernel
theorem dX7_worst_35 : decode prog_1_method_25_code 35 = .ok (.getfield 10, 3) := by decide +kernel
theorem dX7_worst_38 : decode prog_1_method_25_code 38 = .ok (.getfield 87, 3) := by decide +kernel
theorem dX7_worst_41 : decode prog_1_method_25_code 41 = .ok (.if_icmp .ge 69, 3) := by decide +kernel
theorem dX7_worst_44 : decode prog_1_method_25_code 44 = .ok (.aload_n 0, 1) := by decide +kernel
theorem dX7_worst_45 : decode prog_1_method_25_code 45 = .ok (.getfield 16, 3) := by decide +kernel
theorem dX7_worst_48 : decode prog_1_method_25_code 48 = .ok (.aload_n 0, 1) := by decide +kernel
theorem dX7_worst_49 : decode prog_1_method_25_code 49 = .ok (.getfield 10, 3) := by decide +kernel
theorem dX7_worst_52 : decode prog_1_method_25_code 52 = .ok (.invokevirtual 180, 3) := by decide +kernel
theorem dX7_worst_55 : decode prog_1_method_25_code 55 = .ok (.aload_n 0, 1) := by decide +kernel
theorem dX7_worst_56 : decode prog_1_method_25_code 56 = .ok (.getfield 16, 3) := by decide +kernel
theorem dX7_worst_59 : decode prog_1_method_25_code 59 = .ok (.getfield 90, 3) := by decide +kernel
theorem dX7_worst_62 : decode prog_1_method_25_code 62 = .ok (.iload 5, 2) := by decide +kernel
theorem dX7_worst_64 : decode prog_1_method_25_code 64 = .ok (.iconst 2, 1) := by decide +kernel
theorem dX7_worst_65 : decode prog_1_method_25_code 65 = .ok (.iastore, 1) := by decide +kernel
theorem dX7_worst_66 : decode prog_1_method_25_code 66 = .ok (.aload_n 0, 1) := by decide +kernel
theorem dX7_worst_67 : decode prog_1_method_25_code 67 = .ok (.getfield 16, 3) := by decide +kernel
theorem dX7_worst_70 : decode prog_1_method_25_code 70 = .ok (.iload_n 1, 1) := by decide +kernel
theorem dX7_worst_71 : decode prog_1_method_25_code 71 = .ok (.invokevirtual 184, 3) := by decide +kernel
theorem dX7_worst_74 : decode prog_1_method_25_code 74 = .ok (.pop, 1) := by decide +kernel
theorem dX7_worst_75 : decode prog_1_method_25_code 75 = .ok (.aload_n 0, 1) := by decide +kernel
theorem dX7_worst_76 : decode prog_1_method_25_code 76 = .ok (.getfield 16, 3) := by decide +kernel
theorem dX7_worst_79 : decode prog_1_method_25_code 79 = .ok (.invokevirtual 187, 3) := by decide +kernel
theorem dX7_worst_82 : decode prog_1_method_25_code 82 = .ok (.istore 6, 2) := by decide +kernel
theorem dX7_worst_84 : decode prog_1_method_25_code 84 = .ok (.iload_n 3, 1) := by decide +kernel
theorem dX7_worst_85 : decode prog_1_method_25_code 85 = .ok (.ldc 202, 2) := by decide +kernel
theorem dX7_worst_87 : decode prog_1_method_25_code 87 = .ok (.if_icmp .eq 10, 3) := by decide +kernel
theorem dX7_worst_90 : decode prog_1_method_25_code 90 = .ok (.iload 6, 2) := by decide +kernel
theorem dX7_worst_92 : decode prog_1_method_25_code 92 = .ok (.iload 4, 2) := by decide +kernel
theorem dX7_worst_94 : decode prog_1_method_25_code 94 = .ok (.if_icmp .ge 10, 3) := by decide +kernel
theorem dX7_worst_97 : decode prog_1_method_25_code 97 = .ok (.iload 5, 2) := by decide +kernel
theorem dX7_worst_99 : decode prog_1_method_25_code 99 = .ok (.istore_n 3, 1) := by decide +kernel
theorem dX7_worst_100 : decode prog_1_method_25_code 100 = .ok (.iload 6, 2) := by decide +kernel
theorem dX7_worst_102 : decode prog_1_method_25_code 102 = .ok (.istore 4, 2) := by decide +kernel
theorem dX7_worst_104 : decode prog_1_method_25_code 104 = .ok (.iinc 5 1, 3) := by decide +kernel
theorem dX7_worst_107 : decode prog_1_method_25_code 107 = .ok (.goto (-75), 3) := by decide +kernel
theorem dX7_worst_110 : decode prog_1_method_25_code 110 = .ok (.iload_n 2, 1) := by decide +kernel
theorem dX7_worst_111 : decode prog_1_method_25_code 111 = .ok (.ifCond .ne 7, 3) := by decide +kernel
theorem dX7_worst_114 : decode prog_1_method_25_code 114 = .ok (.iload_n 3, 1) := by decide +kernel
theorem dX7_worst_115 : decode prog_1_method_25_code 115 = .ok (.goto 5, 3) := by decide +kernel
theorem dX7_worst_118 : decode prog_1_method_25_code 118 = .ok (.iload 4, 2) := by decide +kernel
theorem dX7_worst_120 : decode prog_1_method_25_code 120 = .ok (.ireturn, 1) := by decide +kernel
theorem dX7_isSheet_0 : decode prog_1_method_52_code 0 = .ok (.iload_n 0, 1) := by decide +kernel
theorem dX7_isSheet_1 : decode prog_1_method_52_code 1 = .ok (.iconst 0, 1) := by decide +kernel
theorem dX7_isSheet_2 : decode prog_1_method_52_code 2 = .ok (.iconst 3, 1) := by decide +kernel
theorem dX7_isSheet_3 : decode prog_1_method_52_code 3 = .ok (.invokestatic 47, 3) := by decide +kernel
theorem dX7_isSheet_6 : decode prog_1_method_52_code 6 = .ok (.ireturn, 1) := by decide +kernel
theorem dX2_makeSeconds_0 : decode prog_4_method_28_code 0 = .ok (.iconst 0, 1) := by decide +kernel
theorem dX2_makeSeconds_1 : decode prog_4_method_28_code 1 = .ok (.istore_n 2, 1) := by decide +kernel
theorem dX2_makeSeconds_2 : decode prog_4_method_28_code 2 = .ok (.iload_n 2, 1) := by decide +kernel
theorem dX2_makeSeconds_3 : decode prog_4_method_28_code 3 = .ok (.aload_n 0, 1) := by decide +kernel
theorem dX2_makeSeconds_4 : decode prog_4_method_28_code 4 = .ok (.getfield 64, 3) := by decide +kernel
theorem dX2_makeSeconds_7 : decode prog_4_method_28_code 7 = .ok (.if_icmp .ge 19, 3) := by decide +kernel
theorem dX2_makeSeconds_10 : decode prog_4_method_28_code 10 = .ok (.aload_n 0, 1) := by decide +kernel
theorem dX2_makeSeconds_11 : decode prog_4_method_28_code 11 = .ok (.getfield 23, 3) := by decide +kernel
theorem dX2_makeSeconds_14 : decode prog_4_method_28_code 14 = .ok (.iload_n 2, 1) := by decide +kernel
theorem dX2_makeSeconds_15 : decode prog_4_method_28_code 15 = .ok (.aaload, 1) := by decide +kernel
theorem dX2_makeSeconds_16 : decode prog_4_method_28_code 16 = .ok (.iload_n 1, 1) := by decide +kernel
theorem dX2_makeSeconds_17 : decode prog_4_method_28_code 17 = .ok (.putfield 117, 3) := by decide +kernel
theorem dX2_makeSeconds_20 : decode prog_4_method_28_code 20 = .ok (.iinc 2 1, 3) := by decide +kernel
theorem dX2_makeSeconds_23 : decode prog_4_method_28_code 23 = .ok (.goto (-21), 3) := by decide +kernel
theorem dX2_makeSeconds_26 : decode prog_4_method_28_code 26 = .ok (.return_, 1) := by decide +kernel
theorem dX3_isNumber_0 : decode prog_5_method_4_code 0 = .ok (.iload_n 1, 1) := by decide +kernel
theorem dX3_isNumber_1 : decode prog_5_method_4_code 1 = .ok (.iconst 0, 1) := by decide +kernel
theorem dX3_isNumber_2 : decode prog_5_method_4_code 2 = .ok (.aload_n 0, 1) := by decide +kernel
theorem dX3_isNumber_3 : decode prog_5_method_4_code 3 = .ok (.getfield 19, 3) := by decide +kernel
theorem dX3_isNumber_6 : decode prog_5_method_4_code 6 = .ok (.iconst 1, 1) := by decide +kernel
theorem dX3_isNumber_7 : decode prog_5_method_4_code 7 = .ok (.isub, 1) := by decide +kernel
theorem dX3_isNumber_8 : decode prog_5_method_4_code 8 = .ok (.invokestatic 34, 3) := by decide +kernel
theorem dX3_isNumber_11 : decode prog_5_method_4_code 11 = .ok (.ifCond .eq 18, 3) := by decide +kernel
theorem dX3_isNumber_14 : decode prog_5_method_4_code 14 = .ok (.aload_n 0, 1) := by decide +kernel
theorem dX3_isNumber_15 : decode prog_5_method_4_code 15 = .ok (.getfield 15, 3) := by decide +kernel
theorem dX3_isNumber_18 : decode prog_5_method_4_code 18 = .ok (.iload_n 1, 1) := by decide +kernel
theorem dX3_isNumber_19 : decode prog_5_method_4_code 19 = .ok (.iaload, 1) := by decide +kernel
theorem dX3_isNumber_20 : decode prog_5_method_4_code 20 = .ok (.ldc 38, 2) := by decide +kernel
theorem dX3_isNumber_22 : decode prog_5_method_4_code 22 = .ok (.if_icmp .eq 7, 3) := by decide +kernel
theorem dX3_isNumber_25 : decode prog_5_method_4_code 25 = .ok (.iconst 1, 1) := by decide +kernel
theorem dX3_isNumber_26 : decode prog_5_method_4_code 26 = .ok (.goto 4, 3) := by decide +kernel
theorem dX3_isNumber_29 : decode prog_5_method_4_code 29 = .ok (.iconst 0, 1) := by decide +kernel
theorem dX3_isNumber_30 : decode prog_5_method_4_code 30 = .ok (.ireturn, 1) := by decide +kernel
theorem dX7_wrongPlaces_0 : decode prog_1_method_27_code 0 = .ok (.aload_n 0, 1) := by decide +kernel
theorem dX7_wrongPlaces_1 : decode prog_1_method_27_code 1 = .ok (.getfield 16, 3) := by decide +kernel
theorem dX7_wrongPlaces_4 : decode prog_1_method_27_code 4 = .ok (.aload_n 0, 1) := by decide +kernel
theorem dX7_wrongPlaces_5 : decode prog_1_method_27_code 5 = .ok (.getfield 10, 3) := by decide +kernel
theorem dX7_wrongPlaces_8 : decode prog_1_method_27_code 8 = .ok (.invokevirtual 180, 3) := by decide +kernel
theorem dX7_wrongPlaces_11 : decode prog_1_method_27_code 11 = .ok (.aload_n 0, 1) := by decide +kernel
theorem dX7_wrongPlaces_12 : decode prog_1_method_27_code 12 = .ok (.getfield 16, 3) := by decide +kernel
theorem dX7_wrongPlaces_15 : decode prog_1_method_27_code 15 = .ok (.iload_n 2, 1) := by decide +kernel
theorem dX7_wrongPlaces_16 : decode prog_1_method_27_code 16 = .ok (.invokevirtual 217, 3) := by decide +kernel
theorem dX7_wrongPlaces_19 : decode prog_1_method_27_code 19 = .ok (.iconst 0, 1) := by decide +kernel
theorem dX7_wrongPlaces_20 : decode prog_1_method_27_code 20 = .ok (.istore_n 3, 1) := by decide +kernel
theorem dX7_wrongPlaces_21 : decode prog_1_method_27_code 21 = .ok (.iconst 0, 1) := by decide +kernel
theorem dX7_wrongPlaces_22 : decode prog_1_method_27_code 22 = .ok (.istore 4, 2) := by decide +kernel
theorem dX7_wrongPlaces_24 : decode prog_1_method_27_code 24 = .ok (.iload 4, 2) := by decide +kernel
theorem dX7_wrongPlaces_26 : decode prog_1_method_27_code 26 = .ok (.aload_n 1, 1) := by decide +kernel
theorem dX7_wrongPlaces_27 : decode prog_1_method_27_code 27 = .ok (.getfield 221, 3) := by decide +kernel
theorem dX7_wrongPlaces_30 : decode prog_1_method_27_code 30 = .ok (.if_icmp .ge 42, 3) := by decide +kernel
theorem dX7_wrongPlaces_33 : decode prog_1_method_27_code 33 = .ok (.aload_n 0, 1) := by decide +kernel
theorem dX7_wrongPlaces_34 : decode prog_1_method_27_code 34 = .ok (.getfield 16, 3) := by decide +kernel
theorem dX7_wrongPlaces_37 : decode prog_1_method_27_code 37 = .ok (.invokevirtual 166, 3) := by decide +kernel
theorem dX7_wrongPlaces_40 : decode prog_1_method_27_code 40 = .ok (.istore 5, 2) := by decide +kernel
theorem dX7_wrongPlaces_42 : decode prog_1_method_27_code 42 = .ok (.aload_n 1, 1) := by decide +kernel
theorem dX7_wrongPlaces_43 : decode prog_1_method_27_code 43 = .ok (.iload 4, 2) := by decide +kernel
theorem dX7_wrongPlaces_45 : decode prog_1_method_27_code 45 = .ok (.invokevirtual 224, 3) := by decide +kernel
theorem dX7_wrongPlaces_48 : decode prog_1_method_27_code 48 = .ok (.ifCond .eq 18, 3) := by decide +kernel
theorem dX7_wrongPlaces_51 : decode prog_1_method_27_code 51 = .ok (.aload_n 1, 1) := by decide +kernel
theorem dX7_wrongPlaces_52 : decode prog_1_method_27_code 52 = .ok (.getfield 227, 3) := by decide +kernel
theorem dX7_wrongPlaces_55 : decode prog_1_method_27_code 55 = .ok (.iload 4, 2) := by decide +kernel
theorem dX7_wrongPlaces_57 : decode prog_1_method_27_code 57 = .ok (.iaload, 1) := by decide +kernel
theorem dX7_wrongPlaces_58 : decode prog_1_method_27_code 58 = .ok (.iload 5, 2) := by decide +kernel
theorem dX7_wrongPlaces_60 : decode prog_1_method_27_code 60 = .ok (.if_icmp .eq 6, 3) := by decide +kernel
theorem dX7_wrongPlaces_63 : decode prog_1_method_27_code 63 = .ok (.iinc 3 1, 3) := by decide +kernel
theorem dX7_wrongPlaces_66 : decode prog_1_method_27_code 66 = .ok (.iinc 4 1, 3) := by decide +kernel
theorem dX7_wrongPlaces_69 : decode prog_1_method_27_code 69 = .ok (.goto (-45), 3) := by decide +kernel
theorem dX7_wrongPlaces_72 : decode prog_1_method_27_code 72 = .ok (.iload_n 3, 1) := by decide +kernel
theorem dX7_wrongPlaces_73 : decode prog_1_method_27_code 73 = .ok (.ireturn, 1) := by decide +kernel
theorem dX7_filmed_0 : decode prog_1_method_26_code 0 = .ok (.iload_n 1, 1) := by decide +kernel
theorem dX7_filmed_1 : decode prog_1_method_26_code 1 = .ok (.invokestatic 206, 3) := by decide +kernel
theorem dX7_filmed_4 : decode prog_1_method_26_code 4 = .ok (.ifCond .eq 12, 3) := by decide +kernel
theorem dX7_filmed_7 : decode prog_1_method_26_code 7 = .ok (.iload_n 2, 1) := by decide +kernel
theorem dX7_filmed_8 : decode prog_1_method_26_code 8 = .ok (.iconst 0, 1) := by decide +kernel
theorem dX7_filmed_9 : decode prog_1_method_26_code 9 = .ok (.iconst 1, 1) := by decide +kernel
theorem dX7_filmed_10 : decode prog_1_method_26_code 10 = .ok (.invokestatic 47, 3) := by decide +kernel
theorem dX7_filmed_13 : decode prog_1_method_26_code 13 = .ok (.ifCond .ne 6, 3) := by decide +kernel
theorem dX7_filmed_16 : decode prog_1_method_26_code 16 = .ok (.ldc 51, 2) := by decide +kernel
theorem dX7_filmed_18 : decode prog_1_method_26_code 18 = .ok (.ireturn, 1) := by decide +kernel
theorem dX7_filmed_19 : decode prog_1_method_26_code 19 = .ok (.aload_n 0, 1) := by decide +kernel
theorem dX7_filmed_20 : decode prog_1_method_26_code 20 = .ok (.getfield 31, 3) := by decide +kernel
theorem dX7_filmed_23 : decode prog_1_method_26_code 23 = .ok (.iload_n 1, 1) := by decide +kernel
theorem dX7_filmed_24 : decode prog_1_method_26_code 24 = .ok (.aaload, 1) := by decide +kernel
theorem dX7_filmed_25 : decode prog_1_method_26_code 25 = .ok (.getfield 209, 3) := by decide +kernel
theorem dX7_filmed_28 : decode prog_1_method_26_code 28 = .ok (.iconst (-1), 1) := by decide +kernel
theorem dX7_filmed_29 : decode prog_1_method_26_code 29 = .ok (.if_icmp .ne 6, 3) := by decide +kernel
theorem dX7_filmed_32 : decode prog_1_method_26_code 32 = .ok (.ldc 212, 2) := by decide +kernel
theorem dX7_filmed_34 : decode prog_1_method_26_code 34 = .ok (.ireturn, 1) := by decide +kernel
theorem dX7_filmed_35 : decode prog_1_method_26_code 35 = .ok (.iconst 0, 1) := by decide +kernel
theorem dX7_filmed_36 : decode prog_1_method_26_code 36 = .ok (.istore_n 3, 1) := by decide +kernel
theorem dX7_filmed_37 : decode prog_1_method_26_code 37 = .ok (.bipush 25, 2) := by decide +kernel
theorem dX7_filmed_39 : decode prog_1_method_26_code 39 = .ok (.istore 4, 2) := by decide +kernel
theorem dX7_filmed_41 : decode prog_1_method_26_code 41 = .ok (.iconst 0, 1) := by decide +kernel
theorem dX7_filmed_42 : decode prog_1_method_26_code 42 = .ok (.istore 5, 2) := by decide +kernel
theorem dX7_filmed_44 : decode prog_1_method_26_code 44 = .ok (.iload 5, 2) := by decide +kernel
theorem dX7_filmed_46 : decode prog_1_method_26_code 46 = .ok (.bipush 40, 2) := by decide +kernel
theorem dX7_filmed_48 : decode prog_1_method_26_code 48 = .ok (.if_icmp .gt 37, 3) := by decide +kernel
theorem dX7_filmed_51 : decode prog_1_method_26_code 51 = .ok (.aload_n 0, 1) := by decide +kernel
theorem dX7_filmed_52 : decode prog_1_method_26_code 52 = .ok (.aload_n 0, 1) := by decide +kernel
theorem dX7_filmed_53 : decode prog_1_method_26_code 53 = .ok (.getfield 31, 3) := by decide +kernel
theorem dX7_filmed_56 : decode prog_1_method_26_code 56 = .ok (.iload_n 1, 1) := by decide +kernel
theorem dX7_filmed_57 : decode prog_1_method_26_code 57 = .ok (.aaload, 1) := by decide +kernel
theorem dX7_filmed_58 : decode prog_1_method_26_code 58 = .ok (.iload 5, 2) := by decide +kernel
theorem dX7_filmed_60 : decode prog_1_method_26_code 60 = .ok (.invokevirtual 213, 3) := by decide +kernel
theorem dX7_filmed_63 : decode prog_1_method_26_code 63 = .ok (.istore 6, 2) := by decide +kernel
theorem dX7_filmed_65 : decode prog_1_method_26_code 65 = .ok (.iload 6, 2) := by decide +kernel
theorem dX7_filmed_67 : decode prog_1_method_26_code 67 = .ok (.iload 4, 2) := by decide +kernel
theorem dX7_filmed_69 : decode prog_1_method_26_code 69 = .ok (.if_icmp .ge 10, 3) := by decide +kernel
theorem dX7_filmed_72 : decode prog_1_method_26_code 72 = .ok (.iload 5, 2) := by decide +kernel
theorem dX7_filmed_74 : decode prog_1_method_26_code 74 = .ok (.istore_n 3, 1) := by decide +kernel
theorem dX7_filmed_75 : decode prog_1_method_26_code 75 = .ok (.iload 6, 2) := by decide +kernel
theorem dX7_filmed_77 : decode prog_1_method_26_code 77 = .ok (.istore 4, 2) := by decide +kernel
theorem dX7_filmed_79 : decode prog_1_method_26_code 79 = .ok (.iinc 5 1, 3) := by decide +kernel
theorem dX7_filmed_82 : decode prog_1_method_26_code 82 = .ok (.goto (-38), 3) := by decide +kernel
theorem dX7_filmed_85 : decode prog_1_method_26_code 85 = .ok (.iload_n 2, 1) := by decide +kernel
theorem dX7_filmed_86 : decode prog_1_method_26_code 86 = .ok (.ifCond .ne 7, 3) := by decide +kernel
theorem dX7_filmed_89 : decode prog_1_method_26_code 89 = .ok (.iload_n 3, 1) := by decide +kernel
theorem dX7_filmed_90 : decode prog_1_method_26_code 90 = .ok (.goto 5, 3) := by decide +kernel
theorem dX7_filmed_93 : decode prog_1_method_26_code 93 = .ok (.iload 4, 2) := by decide +kernel
theorem dX7_filmed_95 : decode prog_1_method_26_code 95 = .ok (.ireturn, 1) := by decide +kernel
theorem dX2_fineOf_0 : decode prog_4_method_16_code 0 = .ok (.aload_n 0, 1) := by decide +kernel
theorem dX2_fineOf_1 : decode prog_4_method_16_code 1 = .ok (.iconst 2, 1) := by decide +kernel
theorem dX2_fineOf_2 : decode prog_4_method_16_code 2 = .ok (.invokevirtual 130, 3) := by decide +kernel
theorem dX2_fineOf_5 : decode prog_4_method_16_code 5 = .ok (.astore_n 2, 1) := by decide +kernel
theorem dX2_fineOf_6 : decode prog_4_method_16_code 6 = .ok (.aload_n 2, 1) := by decide +kernel
theorem dX2_fineOf_7 : decode prog_4_method_16_code 7 = .ok (.ifnonnull 10, 3) := by decide +kernel
theorem dX2_fineOf_10 : decode prog_4_method_16_code 10 = .ok (.aload_n 1, 1) := by decide +kernel
theorem dX2_fineOf_11 : decode prog_4_method_16_code 11 = .ok (.getfield 102, 3) := by decide +kernel
theorem dX2_fineOf_14 : decode prog_4_method_16_code 14 = .ok (.goto 16, 3) := by decide +kernel
theorem dX2_fineOf_17 : decode prog_4_method_16_code 17 = .ok (.aload_n 2, 1) := by decide +kernel
theorem dX2_fineOf_18 : decode prog_4_method_16_code 18 = .ok (.aload_n 1, 1) := by decide +kernel
theorem dX2_fineOf_19 : decode prog_4_method_16_code 19 = .ok (.getfield 102, 3) := by decide +kernel
theorem dX2_fineOf_22 : decode prog_4_method_16_code 22 = .ok (.aload_n 0, 1) := by decide +kernel
theorem dX2_fineOf_23 : decode prog_4_method_16_code 23 = .ok (.getfield 73, 3) := by decide +kernel
theorem dX2_fineOf_26 : decode prog_4_method_16_code 26 = .ok (.iconst 0, 1) := by decide +kernel
theorem dX2_fineOf_27 : decode prog_4_method_16_code 27 = .ok (.invokevirtual 141, 3) := by decide +kernel
theorem dX2_fineOf_30 : decode prog_4_method_16_code 30 = .ok (.ireturn, 1) := by decide +kernel
theorem dX7_fine_0 : decode prog_1_method_28_code 0 = .ok (.aload_n 0, 1) := by decide +kernel
theorem dX7_fine_1 : decode prog_1_method_28_code 1 = .ok (.getfield 10, 3) := by decide +kernel
theorem dX7_fine_4 : decode prog_1_method_28_code 4 = .ok (.iload_n 1, 1) := by decide +kernel
theorem dX7_fine_5 : decode prog_1_method_28_code 5 = .ok (.invokevirtual 72, 3) := by decide +kernel
theorem dX7_fine_8 : decode prog_1_method_28_code 8 = .ok (.ifCond .eq 22, 3) := by decide +kernel
theorem dX7_fine_11 : decode prog_1_method_28_code 11 = .ok (.aload_n 0, 1) := by decide +kernel
theorem dX7_fine_12 : decode prog_1_method_28_code 12 = .ok (.getfield 10, 3) := by decide +kernel
theorem dX7_fine_15 : decode prog_1_method_28_code 15 = .ok (.aload_n 0, 1) := by decide +kernel
theorem dX7_fine_16 : decode prog_1_method_28_code 16 = .ok (.getfield 10, 3) := by decide +kernel
theorem dX7_fine_19 : decode prog_1_method_28_code 19 = .ok (.getfield 57, 3) := by decide +kernel
theorem dX7_fine_22 : decode prog_1_method_28_code 22 = .ok (.iload_n 1, 1) := by decide +kernel
theorem dX7_fine_23 : decode prog_1_method_28_code 23 = .ok (.aaload, 1) := by decide +kernel
theorem dX7_fine_24 : decode prog_1_method_28_code 24 = .ok (.invokevirtual 230, 3) := by decide +kernel
theorem dX7_fine_27 : decode prog_1_method_28_code 27 = .ok (.goto 5, 3) := by decide +kernel
theorem dX7_fine_30 : decode prog_1_method_28_code 30 = .ok (.ldc 51, 2) := by decide +kernel
theorem dX7_fine_32 : decode prog_1_method_28_code 32 = .ok (.ireturn, 1) := by decide +kernel
theorem dX1_addBytes_0 : decode prog_3_method_2_code 0 = .ok (.bipush 24, 2) := by decide +kernel
theorem dX1_addBytes_2 : decode prog_3_method_2_code 2 = .ok (.istore_n 2, 1) := by decide +kernel
theorem dX1_addBytes_3 : decode prog_3_method_2_code 3 = .ok (.iload_n 2, 1) := by decide +kernel
theorem dX1_addBytes_4 : decode prog_3_method_2_code 4 = .ok (.ifCond .lt 44, 3) := by decide +kernel
theorem dX1_addBytes_7 : decode prog_3_method_2_code 7 = .ok (.aload_n 0, 1) := by decide +kernel
theorem dX1_addBytes_8 : decode prog_3_method_2_code 8 = .ok (.getfield 18, 3) := by decide +kernel
theorem dX1_addBytes_11 : decode prog_3_method_2_code 11 = .ok (.bipush 96, 2) := by decide +kernel
theorem dX1_addBytes_13 : decode prog_3_method_2_code 13 = .ok (.if_icmp .ge 35, 3) := by decide +kernel
theorem dX1_addBytes_16 : decode prog_3_method_2_code 16 = .ok (.aload_n 0, 1) := by decide +kernel
theorem dX1_addBytes_17 : decode prog_3_method_2_code 17 = .ok (.getfield 9, 3) := by decide +kernel
theorem dX1_addBytes_20 : decode prog_3_method_2_code 20 = .ok (.aload_n 0, 1) := by decide +kernel
theorem dX1_addBytes_21 : decode prog_3_method_2_code 21 = .ok (.getfield 18, 3) := by decide +kernel
theorem dX1_addBytes_24 : decode prog_3_method_2_code 24 = .ok (.iload_n 1, 1) := by decide +kernel
theorem dX1_addBytes_25 : decode prog_3_method_2_code 25 = .ok (.iload_n 2, 1) := by decide +kernel
theorem dX1_addBytes_26 : decode prog_3_method_2_code 26 = .ok (.iushr, 1) := by decide +kernel
theorem dX1_addBytes_27 : decode prog_3_method_2_code 27 = .ok (.sipush 255, 3) := by decide +kernel
theorem dX1_addBytes_30 : decode prog_3_method_2_code 30 = .ok (.iand, 1) := by decide +kernel
theorem dX1_addBytes_31 : decode prog_3_method_2_code 31 = .ok (.iastore, 1) := by decide +kernel
theorem dX1_addBytes_32 : decode prog_3_method_2_code 32 = .ok (.aload_n 0, 1) := by decide +kernel
theorem dX1_addBytes_33 : decode prog_3_method_2_code 33 = .ok (.dup, 1) := by decide +kernel
theorem dX1_addBytes_34 : decode prog_3_method_2_code 34 = .ok (.getfield 18, 3) := by decide +kernel
theorem dX1_addBytes_37 : decode prog_3_method_2_code 37 = .ok (.iconst 1, 1) := by decide +kernel
theorem dX1_addBytes_38 : decode prog_3_method_2_code 38 = .ok (.iadd, 1) := by decide +kernel
theorem dX1_addBytes_39 : decode prog_3_method_2_code 39 = .ok (.putfield 18, 3) := by decide +kernel
theorem dX1_addBytes_42 : decode prog_3_method_2_code 42 = .ok (.iinc 2 (-8), 3) := by decide +kernel
theorem dX1_addBytes_45 : decode prog_3_method_2_code 45 = .ok (.goto (-42), 3) := by decide +kernel
theorem dX1_addBytes_48 : decode prog_3_method_2_code 48 = .ok (.return_, 1) := by decide +kernel
theorem dX7_feed_0 : decode prog_1_method_29_code 0 = .ok (.aload_n 0, 1) := by decide +kernel
theorem dX7_feed_1 : decode prog_1_method_29_code 1 = .ok (.getfield 25, 3) := by decide +kernel
theorem dX7_feed_4 : decode prog_1_method_29_code 4 = .ok (.getfield 233, 3) := by decide +kernel
theorem dX7_feed_7 : decode prog_1_method_29_code 7 = .ok (.bipush 12, 2) := by decide +kernel
theorem dX7_feed_9 : decode prog_1_method_29_code 9 = .ok (.iadd, 1) := by decide +kernel
theorem dX7_feed_10 : decode prog_1_method_29_code 10 = .ok (.bipush 96, 2) := by decide +kernel
theorem dX7_feed_12 : decode prog_1_method_29_code 12 = .ok (.if_icmp .le 6, 3) := by decide +kernel
theorem dX7_feed_15 : decode prog_1_method_29_code 15 = .ok (.ldc 56, 2) := by decide +kernel
theorem dX7_feed_17 : decode prog_1_method_29_code 17 = .ok (.ireturn, 1) := by decide +kernel
theorem dX7_feed_18 : decode prog_1_method_29_code 18 = .ok (.aload_n 0, 1) := by decide +kernel
theorem dX7_feed_19 : decode prog_1_method_29_code 19 = .ok (.getfield 25, 3) := by decide +kernel
theorem dX7_feed_22 : decode prog_1_method_29_code 22 = .ok (.iload_n 1, 1) := by decide +kernel
theorem dX7_feed_23 : decode prog_1_method_29_code 23 = .ok (.invokevirtual 234, 3) := by decide +kernel
theorem dX7_feed_26 : decode prog_1_method_29_code 26 = .ok (.aload_n 0, 1) := by decide +kernel
theorem dX7_feed_27 : decode prog_1_method_29_code 27 = .ok (.getfield 25, 3) := by decide +kernel
theorem dX7_feed_30 : decode prog_1_method_29_code 30 = .ok (.iload_n 2, 1) := by decide +kernel
theorem dX7_feed_31 : decode prog_1_method_29_code 31 = .ok (.invokevirtual 234, 3) := by decide +kernel
theorem dX7_feed_34 : decode prog_1_method_29_code 34 = .ok (.aload_n 0, 1) := by decide +kernel
theorem dX7_feed_35 : decode prog_1_method_29_code 35 = .ok (.getfield 25, 3) := by decide +kernel
theorem dX7_feed_38 : decode prog_1_method_29_code 38 = .ok (.iload_n 3, 1) := by decide +kernel
theorem dX7_feed_39 : decode prog_1_method_29_code 39 = .ok (.invokevirtual 234, 3) := by decide +kernel
theorem dX7_feed_42 : decode prog_1_method_29_code 42 = .ok (.aload_n 0, 1) := by decide +kernel
theorem dX7_feed_43 : decode prog_1_method_29_code 43 = .ok (.getfield 25, 3) := by decide +kernel
theorem dX7_feed_46 : decode prog_1_method_29_code 46 = .ok (.getfield 233, 3) := by decide +kernel
theorem dX7_feed_49 : decode prog_1_method_29_code 49 = .ok (.ireturn, 1) := by decide +kernel
theorem dX7_trim_0 : decode prog_1_method_30_code 0 = .ok (.iload_n 1, 1) := by decide +kernel
theorem dX7_trim_1 : decode prog_1_method_30_code 1 = .ok (.iconst 0, 1) := by decide +kernel
theorem dX7_trim_2 : decode prog_1_method_30_code 2 = .ok (.aload_n 0, 1) := by decide +kernel
theorem dX7_trim_3 : decode prog_1_method_30_code 3 = .ok (.getfield 25, 3) := by decide +kernel
theorem dX7_trim_6 : decode prog_1_method_30_code 6 = .ok (.getfield 233, 3) := by decide +kernel
theorem dX7_trim_9 : decode prog_1_method_30_code 9 = .ok (.invokestatic 47, 3) := by decide +kernel
theorem dX7_trim_12 : decode prog_1_method_30_code 12 = .ok (.ifCond .ne 6, 3) := by decide +kernel
theorem dX7_trim_15 : decode prog_1_method_30_code 15 = .ok (.ldc 51, 2) := by decide +kernel
theorem dX7_trim_17 : decode prog_1_method_30_code 17 = .ok (.ireturn, 1) := by decide +kernel
theorem dX7_trim_18 : decode prog_1_method_30_code 18 = .ok (.aload_n 0, 1) := by decide +kernel
theorem dX7_trim_19 : decode prog_1_method_30_code 19 = .ok (.getfield 25, 3) := by decide +kernel
theorem dX7_trim_22 : decode prog_1_method_30_code 22 = .ok (.iload_n 1, 1) := by decide +kernel
theorem dX7_trim_23 : decode prog_1_method_30_code 23 = .ok (.putfield 233, 3) := by decide +kernel
theorem dX7_trim_26 : decode prog_1_method_30_code 26 = .ok (.iload_n 1, 1) := by decide +kernel
theorem dX7_trim_27 : decode prog_1_method_30_code 27 = .ok (.ireturn, 1) := by decide +kernel
theorem dX1_isByte_0 : decode prog_3_method_6_code 0 = .ok (.iload_n 1, 1) := by decide +kernel
theorem dX1_isByte_1 : decode prog_3_method_6_code 1 = .ok (.ifCond .lt 35, 3) := by decide +kernel
theorem dX1_isByte_4 : decode prog_3_method_6_code 4 = .ok (.iload_n 1, 1) := by decide +kernel
theorem dX1_isByte_5 : decode prog_3_method_6_code 5 = .ok (.aload_n 0, 1) := by decide +kernel
theorem dX1_isByte_6 : decode prog_3_method_6_code 6 = .ok (.getfield 18, 3) := by decide +kernel
theorem dX1_isByte_9 : decode prog_3_method_6_code 9 = .ok (.if_icmp .ge 27, 3) := by decide +kernel
theorem dX1_isByte_12 : decode prog_3_method_6_code 12 = .ok (.aload_n 0, 1) := by decide +kernel
theorem dX1_isByte_13 : decode prog_3_method_6_code 13 = .ok (.getfield 9, 3) := by decide +kernel
theorem dX1_isByte_16 : decode prog_3_method_6_code 16 = .ok (.iload_n 1, 1) := by decide +kernel
theorem dX1_isByte_17 : decode prog_3_method_6_code 17 = .ok (.iaload, 1) := by decide +kernel
theorem dX1_isByte_18 : decode prog_3_method_6_code 18 = .ok (.iload_n 2, 1) := by decide +kernel
theorem dX1_isByte_19 : decode prog_3_method_6_code 19 = .ok (.if_icmp .lt 17, 3) := by decide +kernel
theorem dX1_isByte_22 : decode prog_3_method_6_code 22 = .ok (.aload_n 0, 1) := by decide +kernel
theorem dX1_isByte_23 : decode prog_3_method_6_code 23 = .ok (.getfield 9, 3) := by decide +kernel
theorem dX1_isByte_26 : decode prog_3_method_6_code 26 = .ok (.iload_n 1, 1) := by decide +kernel
theorem dX1_isByte_27 : decode prog_3_method_6_code 27 = .ok (.iaload, 1) := by decide +kernel
theorem dX1_isByte_28 : decode prog_3_method_6_code 28 = .ok (.iload_n 3, 1) := by decide +kernel
theorem dX1_isByte_29 : decode prog_3_method_6_code 29 = .ok (.if_icmp .gt 7, 3) := by decide +kernel
theorem dX1_isByte_32 : decode prog_3_method_6_code 32 = .ok (.iconst 1, 1) := by decide +kernel
theorem dX1_isByte_33 : decode prog_3_method_6_code 33 = .ok (.goto 4, 3) := by decide +kernel
theorem dX1_isByte_36 : decode prog_3_method_6_code 36 = .ok (.iconst 0, 1) := by decide +kernel
theorem dX1_isByte_37 : decode prog_3_method_6_code 37 = .ok (.ireturn, 1) := by decide +kernel
theorem dX1_endOfRow_0 : decode prog_3_method_8_code 0 = .ok (.aload_n 0, 1) := by decide +kernel
theorem dX1_endOfRow_1 : decode prog_3_method_8_code 1 = .ok (.getfield 64, 3) := by decide +kernel
theorem dX1_endOfRow_4 : decode prog_3_method_8_code 4 = .ok (.istore_n 3, 1) := by decide +kernel
theorem dX1_endOfRow_5 : decode prog_3_method_8_code 5 = .ok (.iload_n 3, 1) := by decide +kernel
theorem dX1_endOfRow_6 : decode prog_3_method_8_code 6 = .ok (.aload_n 0, 1) := by decide +kernel
theorem dX1_endOfRow_7 : decode prog_3_method_8_code 7 = .ok (.getfield 18, 3) := by decide +kernel
theorem dX1_endOfRow_10 : decode prog_3_method_8_code 10 = .ok (.if_icmp .ge 19, 3) := by decide +kernel
theorem dX1_endOfRow_13 : decode prog_3_method_8_code 13 = .ok (.aload_n 0, 1) := by decide +kernel
theorem dX1_endOfRow_14 : decode prog_3_method_8_code 14 = .ok (.iload_n 3, 1) := by decide +kernel
theorem dX1_endOfRow_15 : decode prog_3_method_8_code 15 = .ok (.iload_n 1, 1) := by decide +kernel
theorem dX1_endOfRow_16 : decode prog_3_method_8_code 16 = .ok (.iload_n 2, 1) := by decide +kernel
theorem dX1_endOfRow_17 : decode prog_3_method_8_code 17 = .ok (.invokevirtual 67, 3) := by decide +kernel
theorem dX1_endOfRow_20 : decode prog_3_method_8_code 20 = .ok (.ifCond .eq 9, 3) := by decide +kernel
theorem dX1_endOfRow_23 : decode prog_3_method_8_code 23 = .ok (.iinc 3 1, 3) := by decide +kernel
theorem dX1_endOfRow_26 : decode prog_3_method_8_code 26 = .ok (.goto (-21), 3) := by decide +kernel
theorem dX1_endOfRow_29 : decode prog_3_method_8_code 29 = .ok (.iload_n 3, 1) := by decide +kernel
theorem dX1_endOfRow_30 : decode prog_3_method_8_code 30 = .ok (.ireturn, 1) := by decide +kernel
theorem dX1_advance_0 : decode prog_3_method_7_code 0 = .ok (.aload_n 0, 1) := by decide +kernel
theorem dX1_advance_1 : decode prog_3_method_7_code 1 = .ok (.getfield 34, 3) := by decide +kernel
theorem dX1_advance_4 : decode prog_3_method_7_code 4 = .ok (.bipush (-2), 2) := by decide +kernel
theorem dX1_advance_6 : decode prog_3_method_7_code 6 = .ok (.if_icmp .eq 12, 3) := by decide +kernel
theorem dX1_advance_9 : decode prog_3_method_7_code 9 = .ok (.aload_n 0, 1) := by decide +kernel
theorem dX1_advance_10 : decode prog_3_method_7_code 10 = .ok (.getfield 34, 3) := by decide +kernel
theorem dX1_advance_13 : decode prog_3_method_7_code 13 = .ok (.bipush (-3), 2) := by decide +kernel
theorem dX1_advance_15 : decode prog_3_method_7_code 15 = .ok (.if_icmp .ne 7, 3) := by decide +kernel
theorem dX1_advance_18 : decode prog_3_method_7_code 18 = .ok (.iconst 1, 1) := by decide +kernel
theorem dX1_advance_19 : decode prog_3_method_7_code 19 = .ok (.goto 4, 3) := by decide +kernel
theorem dX1_advance_22 : decode prog_3_method_7_code 22 = .ok (.iconst 0, 1) := by decide +kernel
theorem dX1_advance_23 : decode prog_3_method_7_code 23 = .ok (.istore_n 1, 1) := by decide +kernel
theorem dX1_advance_24 : decode prog_3_method_7_code 24 = .ok (.aload_n 0, 1) := by decide +kernel
theorem dX1_advance_25 : decode prog_3_method_7_code 25 = .ok (.aload_n 0, 1) := by decide +kernel
theorem dX1_advance_26 : decode prog_3_method_7_code 26 = .ok (.getfield 31, 3) := by decide +kernel
theorem dX1_advance_29 : decode prog_3_method_7_code 29 = .ok (.putfield 64, 3) := by decide +kernel
theorem dX1_advance_32 : decode prog_3_method_7_code 32 = .ok (.aload_n 0, 1) := by decide +kernel
theorem dX1_advance_33 : decode prog_3_method_7_code 33 = .ok (.getfield 64, 3) := by decide +kernel
theorem dX1_advance_36 : decode prog_3_method_7_code 36 = .ok (.aload_n 0, 1) := by decide +kernel
theorem dX1_advance_37 : decode prog_3_method_7_code 37 = .ok (.getfield 18, 3) := by decide +kernel
theorem dX1_advance_40 : decode prog_3_method_7_code 40 = .ok (.if_icmp .ge 31, 3) := by decide +kernel
theorem dX1_advance_43 : decode prog_3_method_7_code 43 = .ok (.aload_n 0, 1) := by decide +kernel
theorem dX1_advance_44 : decode prog_3_method_7_code 44 = .ok (.aload_n 0, 1) := by decide +kernel
theorem dX1_advance_45 : decode prog_3_method_7_code 45 = .ok (.getfield 64, 3) := by decide +kernel
theorem dX1_advance_48 : decode prog_3_method_7_code 48 = .ok (.bipush 32, 2) := by decide +kernel
theorem dX1_advance_50 : decode prog_3_method_7_code 50 = .ok (.bipush 32, 2) := by decide +kernel
theorem dX1_advance_52 : decode prog_3_method_7_code 52 = .ok (.invokevirtual 67, 3) := by decide +kernel
theorem dX1_advance_55 : decode prog_3_method_7_code 55 = .ok (.ifCond .eq 16, 3) := by decide +kernel
theorem dX1_advance_58 : decode prog_3_method_7_code 58 = .ok (.aload_n 0, 1) := by decide +kernel
theorem dX1_advance_59 : decode prog_3_method_7_code 59 = .ok (.dup, 1) := by decide +kernel
theorem dX1_advance_60 : decode prog_3_method_7_code 60 = .ok (.getfield 64, 3) := by decide +kernel
theorem dX1_advance_63 : decode prog_3_method_7_code 63 = .ok (.iconst 1, 1) := by decide +kernel
theorem dX1_advance_64 : decode prog_3_method_7_code 64 = .ok (.iadd, 1) := by decide +kernel
theorem dX1_advance_65 : decode prog_3_method_7_code 65 = .ok (.putfield 64, 3) := by decide +kernel
theorem dX1_advance_68 : decode prog_3_method_7_code 68 = .ok (.goto (-36), 3) := by decide +kernel
theorem dX1_advance_71 : decode prog_3_method_7_code 71 = .ok (.iload_n 1, 1) := by decide +kernel
theorem dX1_advance_72 : decode prog_3_method_7_code 72 = .ok (.ifCond .eq 18, 3) := by decide +kernel
theorem dX1_advance_75 : decode prog_3_method_7_code 75 = .ok (.aload_n 0, 1) := by decide +kernel
theorem dX1_advance_76 : decode prog_3_method_7_code 76 = .ok (.getfield 64, 3) := by decide +kernel
theorem dX1_advance_79 : decode prog_3_method_7_code 79 = .ok (.aload_n 0, 1) := by decide +kernel
theorem dX1_advance_80 : decode prog_3_method_7_code 80 = .ok (.getfield 31, 3) := by decide +kernel
theorem dX1_advance_83 : decode prog_3_method_7_code 83 = .ok (.if_icmp .ne 7, 3) := by decide +kernel
theorem dX1_advance_86 : decode prog_3_method_7_code 86 = .ok (.iconst 1, 1) := by decide +kernel
theorem dX1_advance_87 : decode prog_3_method_7_code 87 = .ok (.goto 4, 3) := by decide +kernel
theorem dX1_advance_90 : decode prog_3_method_7_code 90 = .ok (.iconst 0, 1) := by decide +kernel
theorem dX1_advance_91 : decode prog_3_method_7_code 91 = .ok (.istore_n 2, 1) := by decide +kernel
theorem dX1_advance_92 : decode prog_3_method_7_code 92 = .ok (.aload_n 0, 1) := by decide +kernel
theorem dX1_advance_93 : decode prog_3_method_7_code 93 = .ok (.getfield 64, 3) := by decide +kernel
theorem dX1_advance_96 : decode prog_3_method_7_code 96 = .ok (.aload_n 0, 1) := by decide +kernel
theorem dX1_advance_97 : decode prog_3_method_7_code 97 = .ok (.getfield 18, 3) := by decide +kernel
theorem dX1_advance_100 : decode prog_3_method_7_code 100 = .ok (.if_icmp .lt 19, 3) := by decide +kernel
theorem dX1_advance_103 : decode prog_3_method_7_code 103 = .ok (.aload_n 0, 1) := by decide +kernel
theorem dX1_advance_104 : decode prog_3_method_7_code 104 = .ok (.iconst (-1), 1) := by decide +kernel
theorem dX1_advance_105 : decode prog_3_method_7_code 105 = .ok (.putfield 34, 3) := by decide +kernel
theorem dX1_advance_108 : decode prog_3_method_7_code 108 = .ok (.aload_n 0, 1) := by decide +kernel
theorem dX1_advance_109 : decode prog_3_method_7_code 109 = .ok (.aload_n 0, 1) := by decide +kernel
theorem dX1_advance_110 : decode prog_3_method_7_code 110 = .ok (.getfield 18, 3) := by decide +kernel
theorem dX1_advance_113 : decode prog_3_method_7_code 113 = .ok (.putfield 31, 3) := by decide +kernel
theorem dX1_advance_116 : decode prog_3_method_7_code 116 = .ok (.goto 129, 3) := by decide +kernel
theorem dX1_advance_119 : decode prog_3_method_7_code 119 = .ok (.aload_n 0, 1) := by decide +kernel
theorem dX1_advance_120 : decode prog_3_method_7_code 120 = .ok (.aload_n 0, 1) := by decide +kernel
theorem dX1_advance_121 : decode prog_3_method_7_code 121 = .ok (.getfield 64, 3) := by decide +kernel
theorem dX1_advance_124 : decode prog_3_method_7_code 124 = .ok (.bipush 97, 2) := by decide +kernel
theorem dX1_advance_126 : decode prog_3_method_7_code 126 = .ok (.bipush 122, 2) := by decide +kernel
theorem dX1_advance_128 : decode prog_3_method_7_code 128 = .ok (.invokevirtual 67, 3) := by decide +kernel
theorem dX1_advance_131 : decode prog_3_method_7_code 131 = .ok (.ifCond .eq 33, 3) := by decide +kernel
theorem dX1_advance_134 : decode prog_3_method_7_code 134 = .ok (.aload_n 0, 1) := by decide +kernel
theorem dX1_advance_135 : decode prog_3_method_7_code 135 = .ok (.aload_n 0, 1) := by decide +kernel
theorem dX1_advance_136 : decode prog_3_method_7_code 136 = .ok (.bipush 97, 2) := by decide +kernel
theorem dX1_advance_138 : decode prog_3_method_7_code 138 = .ok (.bipush 122, 2) := by decide +kernel
theorem dX1_advance_140 : decode prog_3_method_7_code 140 = .ok (.invokevirtual 71, 3) := by decide +kernel
theorem dX1_advance_143 : decode prog_3_method_7_code 143 = .ok (.putfield 31, 3) := by decide +kernel
theorem dX1_advance_146 : decode prog_3_method_7_code 146 = .ok (.aload_n 0, 1) := by decide +kernel
theorem dX1_advance_147 : decode prog_3_method_7_code 147 = .ok (.iload_n 2, 1) := by decide +kernel
theorem dX1_advance_148 : decode prog_3_method_7_code 148 = .ok (.ifCond .eq 8, 3) := by decide +kernel
theorem dX1_advance_151 : decode prog_3_method_7_code 151 = .ok (.bipush (-4), 2) := by decide +kernel
theorem dX1_advance_153 : decode prog_3_method_7_code 153 = .ok (.goto 5, 3) := by decide +kernel
theorem dX1_advance_156 : decode prog_3_method_7_code 156 = .ok (.bipush (-2), 2) := by decide +kernel
theorem dX1_advance_158 : decode prog_3_method_7_code 158 = .ok (.putfield 34, 3) := by decide +kernel
theorem dX1_advance_161 : decode prog_3_method_7_code 161 = .ok (.goto 84, 3) := by decide +kernel
theorem dX1_advance_164 : decode prog_3_method_7_code 164 = .ok (.aload_n 0, 1) := by decide +kernel
theorem dX1_advance_165 : decode prog_3_method_7_code 165 = .ok (.aload_n 0, 1) := by decide +kernel
theorem dX1_advance_166 : decode prog_3_method_7_code 166 = .ok (.getfield 64, 3) := by decide +kernel
theorem dX1_advance_169 : decode prog_3_method_7_code 169 = .ok (.bipush 48, 2) := by decide +kernel
theorem dX1_advance_171 : decode prog_3_method_7_code 171 = .ok (.bipush 57, 2) := by decide +kernel
theorem dX1_advance_173 : decode prog_3_method_7_code 173 = .ok (.invokevirtual 67, 3) := by decide +kernel
theorem dX1_advance_176 : decode prog_3_method_7_code 176 = .ok (.ifCond .eq 46, 3) := by decide +kernel
theorem dX1_advance_179 : decode prog_3_method_7_code 179 = .ok (.aload_n 0, 1) := by decide +kernel
theorem dX1_advance_180 : decode prog_3_method_7_code 180 = .ok (.aload_n 0, 1) := by decide +kernel
theorem dX1_advance_181 : decode prog_3_method_7_code 181 = .ok (.bipush 48, 2) := by decide +kernel
theorem dX1_advance_183 : decode prog_3_method_7_code 183 = .ok (.bipush 57, 2) := by decide +kernel
theorem dX1_advance_185 : decode prog_3_method_7_code 185 = .ok (.invokevirtual 71, 3) := by decide +kernel
theorem dX1_advance_188 : decode prog_3_method_7_code 188 = .ok (.putfield 31, 3) := by decide +kernel
theorem dX1_advance_191 : decode prog_3_method_7_code 191 = .ok (.aload_n 0, 1) := by decide +kernel
theorem dX1_advance_192 : decode prog_3_method_7_code 192 = .ok (.iload_n 2, 1) := by decide +kernel
theorem dX1_advance_193 : decode prog_3_method_7_code 193 = .ok (.ifCond .ne 16, 3) := by decide +kernel
theorem dX1_advance_196 : decode prog_3_method_7_code 196 = .ok (.aload_n 0, 1) := by decide +kernel
theorem dX1_advance_197 : decode prog_3_method_7_code 197 = .ok (.getfield 31, 3) := by decide +kernel
theorem dX1_advance_200 : decode prog_3_method_7_code 200 = .ok (.aload_n 0, 1) := by decide +kernel
theorem dX1_advance_201 : decode prog_3_method_7_code 201 = .ok (.getfield 64, 3) := by decide +kernel
theorem dX1_advance_204 : decode prog_3_method_7_code 204 = .ok (.isub, 1) := by decide +kernel
theorem dX1_advance_205 : decode prog_3_method_7_code 205 = .ok (.iconst 4, 1) := by decide +kernel
theorem dX1_advance_206 : decode prog_3_method_7_code 206 = .ok (.if_icmp .le 8, 3) := by decide +kernel
theorem dX1_advance_209 : decode prog_3_method_7_code 209 = .ok (.bipush (-4), 2) := by decide +kernel
theorem dX1_advance_211 : decode prog_3_method_7_code 211 = .ok (.goto 5, 3) := by decide +kernel
theorem dX1_advance_214 : decode prog_3_method_7_code 214 = .ok (.bipush (-3), 2) := by decide +kernel
theorem dX1_advance_216 : decode prog_3_method_7_code 216 = .ok (.putfield 34, 3) := by decide +kernel
theorem dX1_advance_219 : decode prog_3_method_7_code 219 = .ok (.goto 26, 3) := by decide +kernel
theorem dX1_advance_222 : decode prog_3_method_7_code 222 = .ok (.aload_n 0, 1) := by decide +kernel
theorem dX1_advance_223 : decode prog_3_method_7_code 223 = .ok (.aload_n 0, 1) := by decide +kernel
theorem dX1_advance_224 : decode prog_3_method_7_code 224 = .ok (.getfield 9, 3) := by decide +kernel
theorem dX1_advance_227 : decode prog_3_method_7_code 227 = .ok (.aload_n 0, 1) := by decide +kernel
theorem dX1_advance_228 : decode prog_3_method_7_code 228 = .ok (.getfield 64, 3) := by decide +kernel
theorem dX1_advance_231 : decode prog_3_method_7_code 231 = .ok (.iaload, 1) := by decide +kernel
theorem dX1_advance_232 : decode prog_3_method_7_code 232 = .ok (.putfield 34, 3) := by decide +kernel
theorem dX1_advance_235 : decode prog_3_method_7_code 235 = .ok (.aload_n 0, 1) := by decide +kernel
theorem dX1_advance_236 : decode prog_3_method_7_code 236 = .ok (.aload_n 0, 1) := by decide +kernel
theorem dX1_advance_237 : decode prog_3_method_7_code 237 = .ok (.getfield 64, 3) := by decide +kernel
theorem dX1_advance_240 : decode prog_3_method_7_code 240 = .ok (.iconst 1, 1) := by decide +kernel
theorem dX1_advance_241 : decode prog_3_method_7_code 241 = .ok (.iadd, 1) := by decide +kernel
theorem dX1_advance_242 : decode prog_3_method_7_code 242 = .ok (.putfield 31, 3) := by decide +kernel
theorem dX1_advance_245 : decode prog_3_method_7_code 245 = .ok (.return_, 1) := by decide +kernel
theorem dX1_refuse_0 : decode prog_3_method_5_code 0 = .ok (.aload_n 0, 1) := by decide +kernel
theorem dX1_refuse_1 : decode prog_3_method_5_code 1 = .ok (.getfield 22, 3) := by decide +kernel
theorem dX1_refuse_4 : decode prog_3_method_5_code 4 = .ok (.ifCond .ge 11, 3) := by decide +kernel
theorem dX1_refuse_7 : decode prog_3_method_5_code 7 = .ok (.aload_n 0, 1) := by decide +kernel
theorem dX1_refuse_8 : decode prog_3_method_5_code 8 = .ok (.aload_n 0, 1) := by decide +kernel
theorem dX1_refuse_9 : decode prog_3_method_5_code 9 = .ok (.getfield 64, 3) := by decide +kernel
theorem dX1_refuse_12 : decode prog_3_method_5_code 12 = .ok (.putfield 22, 3) := by decide +kernel
theorem dX1_refuse_15 : decode prog_3_method_5_code 15 = .ok (.return_, 1) := by decide +kernel
theorem dX1_numberHere_0 : decode prog_3_method_15_code 0 = .ok (.iconst 0, 1) := by decide +kernel
theorem dX1_numberHere_1 : decode prog_3_method_15_code 1 = .ok (.istore_n 1, 1) := by decide +kernel
theorem dX1_numberHere_2 : decode prog_3_method_15_code 2 = .ok (.aload_n 0, 1) := by decide +kernel
theorem dX1_numberHere_3 : decode prog_3_method_15_code 3 = .ok (.getfield 64, 3) := by decide +kernel
theorem dX1_numberHere_6 : decode prog_3_method_15_code 6 = .ok (.istore_n 2, 1) := by decide +kernel
theorem dX1_numberHere_7 : decode prog_3_method_15_code 7 = .ok (.iload_n 2, 1) := by decide +kernel
theorem dX1_numberHere_8 : decode prog_3_method_15_code 8 = .ok (.aload_n 0, 1) := by decide +kernel
theorem dX1_numberHere_9 : decode prog_3_method_15_code 9 = .ok (.getfield 31, 3) := by decide +kernel
theorem dX1_numberHere_12 : decode prog_3_method_15_code 12 = .ok (.if_icmp .ge 32, 3) := by decide +kernel
theorem dX1_numberHere_15 : decode prog_3_method_15_code 15 = .ok (.iload_n 2, 1) := by decide +kernel
theorem dX1_numberHere_16 : decode prog_3_method_15_code 16 = .ok (.aload_n 0, 1) := by decide +kernel
theorem dX1_numberHere_17 : decode prog_3_method_15_code 17 = .ok (.getfield 18, 3) := by decide +kernel
theorem dX1_numberHere_20 : decode prog_3_method_15_code 20 = .ok (.if_icmp .ge 24, 3) := by decide +kernel
theorem dX1_numberHere_23 : decode prog_3_method_15_code 23 = .ok (.iload_n 1, 1) := by decide +kernel
theorem dX1_numberHere_24 : decode prog_3_method_15_code 24 = .ok (.bipush 10, 2) := by decide +kernel
theorem dX1_numberHere_26 : decode prog_3_method_15_code 26 = .ok (.imul, 1) := by decide +kernel
theorem dX1_numberHere_27 : decode prog_3_method_15_code 27 = .ok (.aload_n 0, 1) := by decide +kernel
theorem dX1_numberHere_28 : decode prog_3_method_15_code 28 = .ok (.getfield 9, 3) := by decide +kernel
theorem dX1_numberHere_31 : decode prog_3_method_15_code 31 = .ok (.iload_n 2, 1) := by decide +kernel
theorem dX1_numberHere_32 : decode prog_3_method_15_code 32 = .ok (.iaload, 1) := by decide +kernel
theorem dX1_numberHere_33 : decode prog_3_method_15_code 33 = .ok (.iadd, 1) := by decide +kernel
theorem dX1_numberHere_34 : decode prog_3_method_15_code 34 = .ok (.bipush 48, 2) := by decide +kernel
theorem dX1_numberHere_36 : decode prog_3_method_15_code 36 = .ok (.isub, 1) := by decide +kernel
theorem dX1_numberHere_37 : decode prog_3_method_15_code 37 = .ok (.istore_n 1, 1) := by decide +kernel
theorem dX1_numberHere_38 : decode prog_3_method_15_code 38 = .ok (.iinc 2 1, 3) := by decide +kernel
theorem dX1_numberHere_41 : decode prog_3_method_15_code 41 = .ok (.goto (-34), 3) := by decide +kernel
theorem dX1_numberHere_44 : decode prog_3_method_15_code 44 = .ok (.iload_n 1, 1) := by decide +kernel
theorem dX1_numberHere_45 : decode prog_3_method_15_code 45 = .ok (.ireturn, 1) := by decide +kernel
theorem dX1_addStep_0 : decode prog_3_method_18_code 0 = .ok (.aload_n 0, 1) := by decide +kernel
theorem dX1_addStep_1 : decode prog_3_method_18_code 1 = .ok (.getfield 28, 3) := by decide +kernel
theorem dX1_addStep_4 : decode prog_3_method_18_code 4 = .ok (.bipush 96, 2) := by decide +kernel
theorem dX1_addStep_6 : decode prog_3_method_18_code 6 = .ok (.if_icmp .ge 23, 3) := by decide +kernel
theorem dX1_addStep_9 : decode prog_3_method_18_code 9 = .ok (.aload_n 0, 1) := by decide +kernel
theorem dX1_addStep_10 : decode prog_3_method_18_code 10 = .ok (.getfield 15, 3) := by decide +kernel
theorem dX1_addStep_13 : decode prog_3_method_18_code 13 = .ok (.aload_n 0, 1) := by decide +kernel
theorem dX1_addStep_14 : decode prog_3_method_18_code 14 = .ok (.getfield 28, 3) := by decide +kernel
theorem dX1_addStep_17 : decode prog_3_method_18_code 17 = .ok (.iload_n 1, 1) := by decide +kernel
theorem dX1_addStep_18 : decode prog_3_method_18_code 18 = .ok (.iastore, 1) := by decide +kernel
theorem dX1_addStep_19 : decode prog_3_method_18_code 19 = .ok (.aload_n 0, 1) := by decide +kernel
theorem dX1_addStep_20 : decode prog_3_method_18_code 20 = .ok (.dup, 1) := by decide +kernel
theorem dX1_addStep_21 : decode prog_3_method_18_code 21 = .ok (.getfield 28, 3) := by decide +kernel
theorem dX1_addStep_24 : decode prog_3_method_18_code 24 = .ok (.iconst 1, 1) := by decide +kernel
theorem dX1_addStep_25 : decode prog_3_method_18_code 25 = .ok (.iadd, 1) := by decide +kernel
theorem dX1_addStep_26 : decode prog_3_method_18_code 26 = .ok (.putfield 28, 3) := by decide +kernel
theorem dX1_addStep_29 : decode prog_3_method_18_code 29 = .ok (.return_, 1) := by decide +kernel
theorem dX1_addLeaf_0 : decode prog_3_method_17_code 0 = .ok (.aload_n 0, 1) := by decide +kernel
theorem dX1_addLeaf_1 : decode prog_3_method_17_code 1 = .ok (.iload_n 1, 1) := by decide +kernel
theorem dX1_addLeaf_2 : decode prog_3_method_17_code 2 = .ok (.invokevirtual 102, 3) := by decide +kernel
theorem dX1_addLeaf_5 : decode prog_3_method_17_code 5 = .ok (.aload_n 0, 1) := by decide +kernel
theorem dX1_addLeaf_6 : decode prog_3_method_17_code 6 = .ok (.dup, 1) := by decide +kernel
theorem dX1_addLeaf_7 : decode prog_3_method_17_code 7 = .ok (.getfield 25, 3) := by decide +kernel
theorem dX1_addLeaf_10 : decode prog_3_method_17_code 10 = .ok (.iconst 1, 1) := by decide +kernel
theorem dX1_addLeaf_11 : decode prog_3_method_17_code 11 = .ok (.iadd, 1) := by decide +kernel
theorem dX1_addLeaf_12 : decode prog_3_method_17_code 12 = .ok (.putfield 25, 3) := by decide +kernel
theorem dX1_addLeaf_15 : decode prog_3_method_17_code 15 = .ok (.return_, 1) := by decide +kernel
theorem dX1_parseClosing_0 : decode prog_3_method_14_code 0 = .ok (.aload_n 0, 1) := by decide +kernel
theorem dX1_parseClosing_1 : decode prog_3_method_14_code 1 = .ok (.getfield 34, 3) := by decide +kernel
theorem dX1_parseClosing_4 : decode prog_3_method_14_code 4 = .ok (.bipush 41, 2) := by decide +kernel
theorem dX1_parseClosing_6 : decode prog_3_method_14_code 6 = .ok (.if_icmp .ne 10, 3) := by decide +kernel
theorem dX1_parseClosing_9 : decode prog_3_method_14_code 9 = .ok (.aload_n 0, 1) := by decide +kernel
theorem dX1_parseClosing_10 : decode prog_3_method_14_code 10 = .ok (.invokevirtual 37, 3) := by decide +kernel
theorem dX1_parseClosing_13 : decode prog_3_method_14_code 13 = .ok (.goto 7, 3) := by decide +kernel
theorem dX1_parseClosing_16 : decode prog_3_method_14_code 16 = .ok (.aload_n 0, 1) := by decide +kernel
theorem dX1_parseClosing_17 : decode prog_3_method_14_code 17 = .ok (.invokevirtual 47, 3) := by decide +kernel
theorem dX1_parseClosing_20 : decode prog_3_method_14_code 20 = .ok (.return_, 1) := by decide +kernel
theorem dX1_tightness_0 : decode prog_3_method_11_code 0 = .ok (.iload_n 0, 1) := by decide +kernel
theorem dX1_tightness_1 : decode prog_3_method_11_code 1 = .ok (.lookupswitch 93 #[(38, 85), (42, 91), (43, 89), (45, 89), (47, 91), (60, 87), (61, 87), (62, 87), (124, 83)], 83) := by decide +kernel
theorem dX1_tightness_84 : decode prog_3_method_11_code 84 = .ok (.iconst 0, 1) := by decide +kernel
theorem dX1_tightness_85 : decode prog_3_method_11_code 85 = .ok (.ireturn, 1) := by decide +kernel
theorem dX1_tightness_86 : decode prog_3_method_11_code 86 = .ok (.iconst 1, 1) := by decide +kernel
theorem dX1_tightness_87 : decode prog_3_method_11_code 87 = .ok (.ireturn, 1) := by decide +kernel
theorem dX1_tightness_88 : decode prog_3_method_11_code 88 = .ok (.iconst 2, 1) := by decide +kernel
theorem dX1_tightness_89 : decode prog_3_method_11_code 89 = .ok (.ireturn, 1) := by decide +kernel
theorem dX1_tightness_90 : decode prog_3_method_11_code 90 = .ok (.iconst 3, 1) := by decide +kernel
theorem dX1_tightness_91 : decode prog_3_method_11_code 91 = .ok (.ireturn, 1) := by decide +kernel
theorem dX1_tightness_92 : decode prog_3_method_11_code 92 = .ok (.iconst 4, 1) := by decide +kernel
theorem dX1_tightness_93 : decode prog_3_method_11_code 93 = .ok (.ireturn, 1) := by decide +kernel
theorem dX1_tightness_94 : decode prog_3_method_11_code 94 = .ok (.iconst (-1), 1) := by decide +kernel
theorem dX1_tightness_95 : decode prog_3_method_11_code 95 = .ok (.ireturn, 1) := by decide +kernel
theorem dX2_addText_0 : decode prog_4_method_10_code 0 = .ok (.aload_n 0, 1) := by decide +kernel
theorem dX2_addText_1 : decode prog_4_method_10_code 1 = .ok (.getfield 70, 3) := by decide +kernel
theorem dX2_addText_4 : decode prog_4_method_10_code 4 = .ok (.bipush 14, 2) := by decide +kernel
theorem dX2_addText_6 : decode prog_4_method_10_code 6 = .ok (.if_icmp .ge 48, 3) := by decide +kernel
theorem dX2_addText_9 : decode prog_4_method_10_code 9 = .ok (.aload_n 1, 1) := by decide +kernel
theorem dX2_addText_10 : decode prog_4_method_10_code 10 = .ok (.getfield 123, 3) := by decide +kernel
theorem dX2_addText_13 : decode prog_4_method_10_code 13 = .ok (.iconst 0, 1) := by decide +kernel
theorem dX2_addText_14 : decode prog_4_method_10_code 14 = .ok (.iconst 2, 1) := by decide +kernel
theorem dX2_addText_15 : decode prog_4_method_10_code 15 = .ok (.invokestatic 98, 3) := by decide +kernel
theorem dX2_addText_18 : decode prog_4_method_10_code 18 = .ok (.ifCond .eq 36, 3) := by decide +kernel
theorem dX2_addText_21 : decode prog_4_method_10_code 21 = .ok (.aload_n 0, 1) := by decide +kernel
theorem dX2_addText_22 : decode prog_4_method_10_code 22 = .ok (.getfield 29, 3) := by decide +kernel
theorem dX2_addText_25 : decode prog_4_method_10_code 25 = .ok (.aload_n 0, 1) := by decide +kernel
theorem dX2_addText_26 : decode prog_4_method_10_code 26 = .ok (.getfield 70, 3) := by decide +kernel
theorem dX2_addText_29 : decode prog_4_method_10_code 29 = .ok (.aload_n 1, 1) := by decide +kernel
theorem dX2_addText_30 : decode prog_4_method_10_code 30 = .ok (.aastore, 1) := by decide +kernel
theorem dX2_addText_31 : decode prog_4_method_10_code 31 = .ok (.aload_n 0, 1) := by decide +kernel
theorem dX2_addText_32 : decode prog_4_method_10_code 32 = .ok (.getfield 33, 3) := by decide +kernel
theorem dX2_addText_35 : decode prog_4_method_10_code 35 = .ok (.aload_n 1, 1) := by decide +kernel
theorem dX2_addText_36 : decode prog_4_method_10_code 36 = .ok (.getfield 123, 3) := by decide +kernel
theorem dX2_addText_39 : decode prog_4_method_10_code 39 = .ok (.aload_n 0, 1) := by decide +kernel
theorem dX2_addText_40 : decode prog_4_method_10_code 40 = .ok (.getfield 70, 3) := by decide +kernel
theorem dX2_addText_43 : decode prog_4_method_10_code 43 = .ok (.iastore, 1) := by decide +kernel
theorem dX2_addText_44 : decode prog_4_method_10_code 44 = .ok (.aload_n 0, 1) := by decide +kernel
theorem dX2_addText_45 : decode prog_4_method_10_code 45 = .ok (.dup, 1) := by decide +kernel
theorem dX2_addText_46 : decode prog_4_method_10_code 46 = .ok (.getfield 70, 3) := by decide +kernel
theorem dX2_addText_49 : decode prog_4_method_10_code 49 = .ok (.iconst 1, 1) := by decide +kernel
theorem dX2_addText_50 : decode prog_4_method_10_code 50 = .ok (.iadd, 1) := by decide +kernel
theorem dX2_addText_51 : decode prog_4_method_10_code 51 = .ok (.putfield 70, 3) := by decide +kernel
theorem dX2_addText_54 : decode prog_4_method_10_code 54 = .ok (.return_, 1) := by decide +kernel
theorem dX7_textTold_0 : decode prog_1_method_32_code 0 = .ok (.iload_n 1, 1) := by decide +kernel
theorem dX7_textTold_1 : decode prog_1_method_32_code 1 = .ok (.iconst 0, 1) := by decide +kernel
theorem dX7_textTold_2 : decode prog_1_method_32_code 2 = .ok (.aload_n 0, 1) := by decide +kernel
theorem dX7_textTold_3 : decode prog_1_method_32_code 3 = .ok (.getfield 10, 3) := by decide +kernel
theorem dX7_textTold_6 : decode prog_1_method_32_code 6 = .ok (.getfield 240, 3) := by decide +kernel
theorem dX7_textTold_9 : decode prog_1_method_32_code 9 = .ok (.iconst 1, 1) := by decide +kernel
theorem dX7_textTold_10 : decode prog_1_method_32_code 10 = .ok (.isub, 1) := by decide +kernel
theorem dX7_textTold_11 : decode prog_1_method_32_code 11 = .ok (.invokestatic 47, 3) := by decide +kernel
theorem dX7_textTold_14 : decode prog_1_method_32_code 14 = .ok (.ifCond .eq 12, 3) := by decide +kernel
theorem dX7_textTold_17 : decode prog_1_method_32_code 17 = .ok (.iload_n 2, 1) := by decide +kernel
theorem dX7_textTold_18 : decode prog_1_method_32_code 18 = .ok (.iconst 0, 1) := by decide +kernel
theorem dX7_textTold_19 : decode prog_1_method_32_code 19 = .ok (.iconst 1, 1) := by decide +kernel
theorem dX7_textTold_20 : decode prog_1_method_32_code 20 = .ok (.invokestatic 47, 3) := by decide +kernel
theorem dX7_textTold_23 : decode prog_1_method_32_code 23 = .ok (.ifCond .ne 6, 3) := by decide +kernel
theorem dX7_textTold_26 : decode prog_1_method_32_code 26 = .ok (.ldc 51, 2) := by decide +kernel
theorem dX7_textTold_28 : decode prog_1_method_32_code 28 = .ok (.ireturn, 1) := by decide +kernel
theorem dX7_textTold_29 : decode prog_1_method_32_code 29 = .ok (.aload_n 0, 1) := by decide +kernel
theorem dX7_textTold_30 : decode prog_1_method_32_code 30 = .ok (.getfield 10, 3) := by decide +kernel
theorem dX7_textTold_33 : decode prog_1_method_32_code 33 = .ok (.getfield 251, 3) := by decide +kernel
theorem dX7_textTold_36 : decode prog_1_method_32_code 36 = .ok (.iload_n 1, 1) := by decide +kernel
theorem dX7_textTold_37 : decode prog_1_method_32_code 37 = .ok (.aaload, 1) := by decide +kernel
theorem dX7_textTold_38 : decode prog_1_method_32_code 38 = .ok (.astore_n 3, 1) := by decide +kernel
theorem dX7_textTold_39 : decode prog_1_method_32_code 39 = .ok (.aload_n 3, 1) := by decide +kernel
theorem dX7_textTold_40 : decode prog_1_method_32_code 40 = .ok (.ifnonnull 6, 3) := by decide +kernel
theorem dX7_textTold_43 : decode prog_1_method_32_code 43 = .ok (.ldc 51, 2) := by decide +kernel
theorem dX7_textTold_45 : decode prog_1_method_32_code 45 = .ok (.ireturn, 1) := by decide +kernel
theorem dX7_textTold_46 : decode prog_1_method_32_code 46 = .ok (.iload_n 2, 1) := by decide +kernel
theorem dX7_textTold_47 : decode prog_1_method_32_code 47 = .ok (.ifCond .ne 10, 3) := by decide +kernel
theorem dX7_textTold_50 : decode prog_1_method_32_code 50 = .ok (.aload_n 3, 1) := by decide +kernel
theorem dX7_textTold_51 : decode prog_1_method_32_code 51 = .ok (.getfield 255, 3) := by decide +kernel
theorem dX7_textTold_54 : decode prog_1_method_32_code 54 = .ok (.goto 7, 3) := by decide +kernel
theorem dX7_textTold_57 : decode prog_1_method_32_code 57 = .ok (.aload_n 3, 1) := by decide +kernel
theorem dX7_textTold_58 : decode prog_1_method_32_code 58 = .ok (.getfield 260, 3) := by decide +kernel
theorem dX7_textTold_61 : decode prog_1_method_32_code 61 = .ok (.ireturn, 1) := by decide +kernel
theorem dX7_why_0 : decode prog_1_method_33_code 0 = .ok (.iload_n 1, 1) := by decide +kernel
theorem dX7_why_1 : decode prog_1_method_33_code 1 = .ok (.iconst 0, 1) := by decide +kernel
theorem dX7_why_2 : decode prog_1_method_33_code 2 = .ok (.iconst 2, 1) := by decide +kernel
theorem dX7_why_3 : decode prog_1_method_33_code 3 = .ok (.invokestatic 47, 3) := by decide +kernel
theorem dX7_why_6 : decode prog_1_method_33_code 6 = .ok (.ifCond .eq 18, 3) := by decide +kernel
theorem dX7_why_9 : decode prog_1_method_33_code 9 = .ok (.aload_n 0, 1) := by decide +kernel
theorem dX7_why_10 : decode prog_1_method_33_code 10 = .ok (.getfield 10, 3) := by decide +kernel
theorem dX7_why_13 : decode prog_1_method_33_code 13 = .ok (.getfield 263, 3) := by decide +kernel
theorem dX7_why_16 : decode prog_1_method_33_code 16 = .ok (.iload_n 1, 1) := by decide +kernel
theorem dX7_why_17 : decode prog_1_method_33_code 17 = .ok (.iaload, 1) := by decide +kernel
theorem dX7_why_18 : decode prog_1_method_33_code 18 = .ok (.invokestatic 84, 3) := by decide +kernel
theorem dX7_why_21 : decode prog_1_method_33_code 21 = .ok (.goto 5, 3) := by decide +kernel
theorem dX7_why_24 : decode prog_1_method_33_code 24 = .ok (.ldc 51, 2) := by decide +kernel
theorem dX7_why_26 : decode prog_1_method_33_code 26 = .ok (.ireturn, 1) := by decide +kernel
theorem dJ7_fill_53178_0 : decode prog_18_method_103_code 0 = .ok (.iconst 0, 1) := by decide +kernel
theorem dJ7_fill_53178_1 : decode prog_18_method_103_code 1 = .ok (.istore_n 2, 1) := by decide +kernel
theorem dJ7_fill_53178_2 : decode prog_18_method_103_code 2 = .ok (.aload_n 0, 1) := by decide +kernel
theorem dJ7_fill_53178_3 : decode prog_18_method_103_code 3 = .ok (.arraylength, 1) := by decide +kernel
theorem dJ7_fill_53178_4 : decode prog_18_method_103_code 4 = .ok (.istore_n 3, 1) := by decide +kernel
theorem dJ7_fill_53178_5 : decode prog_18_method_103_code 5 = .ok (.iload_n 2, 1) := by decide +kernel
theorem dJ7_fill_53178_6 : decode prog_18_method_103_code 6 = .ok (.iload_n 3, 1) := by decide +kernel
theorem dJ7_fill_53178_7 : decode prog_18_method_103_code 7 = .ok (.if_icmp .ge 13, 3) := by decide +kernel
theorem dJ7_fill_53178_10 : decode prog_18_method_103_code 10 = .ok (.aload_n 0, 1) := by decide +kernel
theorem dJ7_fill_53178_11 : decode prog_18_method_103_code 11 = .ok (.iload_n 2, 1) := by decide +kernel
theorem dJ7_fill_53178_12 : decode prog_18_method_103_code 12 = .ok (.iload_n 1, 1) := by decide +kernel
theorem dJ7_fill_53178_13 : decode prog_18_method_103_code 13 = .ok (.iastore, 1) := by decide +kernel
theorem dJ7_fill_53178_14 : decode prog_18_method_103_code 14 = .ok (.iinc 2 1, 3) := by decide +kernel
theorem dJ7_fill_53178_17 : decode prog_18_method_103_code 17 = .ok (.goto (-12), 3) := by decide +kernel
theorem dJ7_fill_53178_20 : decode prog_18_method_103_code 20 = .ok (.return_, 1) := by decide +kernel
theorem dX3_begin_0 : decode prog_5_method_2_code 0 = .ok (.aload_n 0, 1) := by decide +kernel
theorem dX3_begin_1 : decode prog_5_method_2_code 1 = .ok (.iload_n 1, 1) := by decide +kernel
theorem dX3_begin_2 : decode prog_5_method_2_code 2 = .ok (.putfield 9, 3) := by decide +kernel
theorem dX3_begin_5 : decode prog_5_method_2_code 5 = .ok (.aload_n 0, 1) := by decide +kernel
theorem dX3_begin_6 : decode prog_5_method_2_code 6 = .ok (.iload_n 2, 1) := by decide +kernel
theorem dX3_begin_7 : decode prog_5_method_2_code 7 = .ok (.putfield 19, 3) := by decide +kernel
theorem dX3_begin_10 : decode prog_5_method_2_code 10 = .ok (.aload_n 0, 1) := by decide +kernel
theorem dX3_begin_11 : decode prog_5_method_2_code 11 = .ok (.getfield 15, 3) := by decide +kernel
theorem dX3_begin_14 : decode prog_5_method_2_code 14 = .ok (.iconst 0, 1) := by decide +kernel
theorem dX3_begin_15 : decode prog_5_method_2_code 15 = .ok (.invokestatic 22, 3) := by decide +kernel
theorem dX3_begin_18 : decode prog_5_method_2_code 18 = .ok (.return_, 1) := by decide +kernel
theorem dX7_sheet_0 : decode prog_1_method_34_code 0 = .ok (.iload_n 1, 1) := by decide +kernel
theorem dX7_sheet_1 : decode prog_1_method_34_code 1 = .ok (.invokestatic 206, 3) := by decide +kernel
theorem dX7_sheet_4 : decode prog_1_method_34_code 4 = .ok (.ifCond .eq 12, 3) := by decide +kernel
theorem dX7_sheet_7 : decode prog_1_method_34_code 7 = .ok (.iload_n 2, 1) := by decide +kernel
theorem dX7_sheet_8 : decode prog_1_method_34_code 8 = .ok (.iconst (-1), 1) := by decide +kernel
theorem dX7_sheet_9 : decode prog_1_method_34_code 9 = .ok (.iconst 1, 1) := by decide +kernel
theorem dX7_sheet_10 : decode prog_1_method_34_code 10 = .ok (.invokestatic 47, 3) := by decide +kernel
theorem dX7_sheet_13 : decode prog_1_method_34_code 13 = .ok (.ifCond .ne 6, 3) := by decide +kernel
theorem dX7_sheet_16 : decode prog_1_method_34_code 16 = .ok (.ldc 51, 2) := by decide +kernel
theorem dX7_sheet_18 : decode prog_1_method_34_code 18 = .ok (.ireturn, 1) := by decide +kernel
theorem dX7_sheet_19 : decode prog_1_method_34_code 19 = .ok (.iload_n 2, 1) := by decide +kernel
theorem dX7_sheet_20 : decode prog_1_method_34_code 20 = .ok (.iconst (-1), 1) := by decide +kernel
theorem dX7_sheet_21 : decode prog_1_method_34_code 21 = .ok (.if_icmp .ne 16, 3) := by decide +kernel
theorem dX7_sheet_24 : decode prog_1_method_34_code 24 = .ok (.aload_n 0, 1) := by decide +kernel
theorem dX7_sheet_25 : decode prog_1_method_34_code 25 = .ok (.getfield 31, 3) := by decide +kernel
theorem dX7_sheet_28 : decode prog_1_method_34_code 28 = .ok (.iload_n 1, 1) := by decide +kernel
theorem dX7_sheet_29 : decode prog_1_method_34_code 29 = .ok (.aaload, 1) := by decide +kernel
theorem dX7_sheet_30 : decode prog_1_method_34_code 30 = .ok (.iconst (-1), 1) := by decide +kernel
theorem dX7_sheet_31 : decode prog_1_method_34_code 31 = .ok (.iconst 0, 1) := by decide +kernel
theorem dX7_sheet_32 : decode prog_1_method_34_code 32 = .ok (.invokevirtual 266, 3) := by decide +kernel
theorem dX7_sheet_35 : decode prog_1_method_34_code 35 = .ok (.iconst 0, 1) := by decide +kernel
theorem dX7_sheet_36 : decode prog_1_method_34_code 36 = .ok (.ireturn, 1) := by decide +kernel
theorem dX7_sheet_37 : decode prog_1_method_34_code 37 = .ok (.iload_n 3, 1) := by decide +kernel
theorem dX7_sheet_38 : decode prog_1_method_34_code 38 = .ok (.bipush 24, 2) := by decide +kernel
theorem dX7_sheet_40 : decode prog_1_method_34_code 40 = .ok (.if_icmp .le 6, 3) := by decide +kernel
theorem dX7_sheet_43 : decode prog_1_method_34_code 43 = .ok (.ldc 51, 2) := by decide +kernel
theorem dX7_sheet_45 : decode prog_1_method_34_code 45 = .ok (.ireturn, 1) := by decide +kernel
theorem dX7_sheet_46 : decode prog_1_method_34_code 46 = .ok (.iload_n 3, 1) := by decide +kernel
theorem dX7_sheet_47 : decode prog_1_method_34_code 47 = .ok (.ifCond .ge 7, 3) := by decide +kernel
theorem dX7_sheet_50 : decode prog_1_method_34_code 50 = .ok (.ldc_w 270, 3) := by decide +kernel
theorem dX7_sheet_53 : decode prog_1_method_34_code 53 = .ok (.ireturn, 1) := by decide +kernel
theorem dX7_sheet_54 : decode prog_1_method_34_code 54 = .ok (.aload_n 0, 1) := by decide +kernel
theorem dX7_sheet_55 : decode prog_1_method_34_code 55 = .ok (.getfield 31, 3) := by decide +kernel
theorem dX7_sheet_58 : decode prog_1_method_34_code 58 = .ok (.iload_n 1, 1) := by decide +kernel
theorem dX7_sheet_59 : decode prog_1_method_34_code 59 = .ok (.aaload, 1) := by decide +kernel
theorem dX7_sheet_60 : decode prog_1_method_34_code 60 = .ok (.iload_n 2, 1) := by decide +kernel
theorem dX7_sheet_61 : decode prog_1_method_34_code 61 = .ok (.iload_n 3, 1) := by decide +kernel
theorem dX7_sheet_62 : decode prog_1_method_34_code 62 = .ok (.invokevirtual 266, 3) := by decide +kernel
theorem dX7_sheet_65 : decode prog_1_method_34_code 65 = .ok (.iload_n 3, 1) := by decide +kernel
theorem dX7_sheet_66 : decode prog_1_method_34_code 66 = .ok (.ireturn, 1) := by decide +kernel
theorem dX7_mark_0 : decode prog_1_method_35_code 0 = .ok (.iload_n 1, 1) := by decide +kernel
theorem dX7_mark_1 : decode prog_1_method_35_code 1 = .ok (.invokestatic 206, 3) := by decide +kernel
theorem dX7_mark_4 : decode prog_1_method_35_code 4 = .ok (.ifCond .ne 6, 3) := by decide +kernel
theorem dX7_mark_7 : decode prog_1_method_35_code 7 = .ok (.ldc 51, 2) := by decide +kernel
theorem dX7_mark_9 : decode prog_1_method_35_code 9 = .ok (.ireturn, 1) := by decide +kernel
theorem dX7_mark_10 : decode prog_1_method_35_code 10 = .ok (.aload_n 0, 1) := by decide +kernel
theorem dX7_mark_11 : decode prog_1_method_35_code 11 = .ok (.getfield 31, 3) := by decide +kernel
theorem dX7_mark_14 : decode prog_1_method_35_code 14 = .ok (.iload_n 1, 1) := by decide +kernel
theorem dX7_mark_15 : decode prog_1_method_35_code 15 = .ok (.aaload, 1) := by decide +kernel
theorem dX7_mark_16 : decode prog_1_method_35_code 16 = .ok (.astore 4, 2) := by decide +kernel
theorem dX7_mark_18 : decode prog_1_method_35_code 18 = .ok (.aload 4, 2) := by decide +kernel
theorem dX7_mark_20 : decode prog_1_method_35_code 20 = .ok (.getfield 209, 3) := by decide +kernel
theorem dX7_mark_23 : decode prog_1_method_35_code 23 = .ok (.iconst (-1), 1) := by decide +kernel
theorem dX7_mark_24 : decode prog_1_method_35_code 24 = .ok (.if_icmp .ne 6, 3) := by decide +kernel
theorem dX7_mark_27 : decode prog_1_method_35_code 27 = .ok (.ldc 212, 2) := by decide +kernel
theorem dX7_mark_29 : decode prog_1_method_35_code 29 = .ok (.ireturn, 1) := by decide +kernel
theorem dX7_mark_30 : decode prog_1_method_35_code 30 = .ok (.iload_n 2, 1) := by decide +kernel
theorem dX7_mark_31 : decode prog_1_method_35_code 31 = .ok (.iconst 0, 1) := by decide +kernel
theorem dX7_mark_32 : decode prog_1_method_35_code 32 = .ok (.aload 4, 2) := by decide +kernel
theorem dX7_mark_34 : decode prog_1_method_35_code 34 = .ok (.getfield 221, 3) := by decide +kernel
theorem dX7_mark_37 : decode prog_1_method_35_code 37 = .ok (.iconst 1, 1) := by decide +kernel
theorem dX7_mark_38 : decode prog_1_method_35_code 38 = .ok (.isub, 1) := by decide +kernel
theorem dX7_mark_39 : decode prog_1_method_35_code 39 = .ok (.invokestatic 47, 3) := by decide +kernel
theorem dX7_mark_42 : decode prog_1_method_35_code 42 = .ok (.ifCond .ne 7, 3) := by decide +kernel
theorem dX7_mark_45 : decode prog_1_method_35_code 45 = .ok (.ldc_w 271, 3) := by decide +kernel
theorem dX7_mark_48 : decode prog_1_method_35_code 48 = .ok (.ireturn, 1) := by decide +kernel
theorem dX7_mark_49 : decode prog_1_method_35_code 49 = .ok (.aload 4, 2) := by decide +kernel
theorem dX7_mark_51 : decode prog_1_method_35_code 51 = .ok (.getfield 209, 3) := by decide +kernel
theorem dX7_mark_54 : decode prog_1_method_35_code 54 = .ok (.ifCond .ne 12, 3) := by decide +kernel
theorem dX7_mark_57 : decode prog_1_method_35_code 57 = .ok (.iload_n 3, 1) := by decide +kernel
theorem dX7_mark_58 : decode prog_1_method_35_code 58 = .ok (.ldc 202, 2) := by decide +kernel
theorem dX7_mark_60 : decode prog_1_method_35_code 60 = .ok (.if_icmp .ne 6, 3) := by decide +kernel
theorem dX7_mark_63 : decode prog_1_method_35_code 63 = .ok (.ldc 141, 2) := by decide +kernel
theorem dX7_mark_65 : decode prog_1_method_35_code 65 = .ok (.ireturn, 1) := by decide +kernel
theorem dX7_mark_66 : decode prog_1_method_35_code 66 = .ok (.aload 4, 2) := by decide +kernel
theorem dX7_mark_68 : decode prog_1_method_35_code 68 = .ok (.getfield 209, 3) := by decide +kernel
theorem dX7_mark_71 : decode prog_1_method_35_code 71 = .ok (.iconst 1, 1) := by decide +kernel
theorem dX7_mark_72 : decode prog_1_method_35_code 72 = .ok (.if_icmp .ne 25, 3) := by decide +kernel
theorem dX7_mark_75 : decode prog_1_method_35_code 75 = .ok (.iload_n 3, 1) := by decide +kernel
theorem dX7_mark_76 : decode prog_1_method_35_code 76 = .ok (.ldc 202, 2) := by decide +kernel
theorem dX7_mark_78 : decode prog_1_method_35_code 78 = .ok (.if_icmp .eq 19, 3) := by decide +kernel
theorem dX7_mark_81 : decode prog_1_method_35_code 81 = .ok (.iload_n 3, 1) := by decide +kernel
theorem dX7_mark_82 : decode prog_1_method_35_code 82 = .ok (.ldc_w 272, 3) := by decide +kernel
theorem dX7_mark_85 : decode prog_1_method_35_code 85 = .ok (.ldc_w 273, 3) := by decide +kernel
theorem dX7_mark_88 : decode prog_1_method_35_code 88 = .ok (.invokestatic 47, 3) := by decide +kernel
theorem dX7_mark_91 : decode prog_1_method_35_code 91 = .ok (.ifCond .ne 6, 3) := by decide +kernel
theorem dX7_mark_94 : decode prog_1_method_35_code 94 = .ok (.ldc 51, 2) := by decide +kernel
theorem dX7_mark_96 : decode prog_1_method_35_code 96 = .ok (.ireturn, 1) := by decide +kernel
theorem dX7_mark_97 : decode prog_1_method_35_code 97 = .ok (.aload 4, 2) := by decide +kernel
theorem dX7_mark_99 : decode prog_1_method_35_code 99 = .ok (.getfield 227, 3) := by decide +kernel
theorem dX7_mark_102 : decode prog_1_method_35_code 102 = .ok (.iload_n 2, 1) := by decide +kernel
theorem dX7_mark_103 : decode prog_1_method_35_code 103 = .ok (.aload 4, 2) := by decide +kernel
theorem dX7_mark_105 : decode prog_1_method_35_code 105 = .ok (.getfield 209, 3) := by decide +kernel
theorem dX7_mark_108 : decode prog_1_method_35_code 108 = .ok (.ifCond .ne 8, 3) := by decide +kernel
theorem dX7_mark_111 : decode prog_1_method_35_code 111 = .ok (.iload_n 3, 1) := by decide +kernel
theorem dX7_mark_112 : decode prog_1_method_35_code 112 = .ok (.i2s, 1) := by decide +kernel
theorem dX7_mark_113 : decode prog_1_method_35_code 113 = .ok (.goto 4, 3) := by decide +kernel
theorem dX7_mark_116 : decode prog_1_method_35_code 116 = .ok (.iload_n 3, 1) := by decide +kernel
theorem dX7_mark_117 : decode prog_1_method_35_code 117 = .ok (.iastore, 1) := by decide +kernel
theorem dX7_mark_118 : decode prog_1_method_35_code 118 = .ok (.iconst 1, 1) := by decide +kernel
theorem dX7_mark_119 : decode prog_1_method_35_code 119 = .ok (.ireturn, 1) := by decide +kernel
theorem dX7_pour_0 : decode prog_1_method_36_code 0 = .ok (.iload_n 1, 1) := by decide +kernel
theorem dX7_pour_1 : decode prog_1_method_36_code 1 = .ok (.invokestatic 206, 3) := by decide +kernel
theorem dX7_pour_4 : decode prog_1_method_36_code 4 = .ok (.ifCond .ne 6, 3) := by decide +kernel
theorem dX7_pour_7 : decode prog_1_method_36_code 7 = .ok (.ldc 51, 2) := by decide +kernel
theorem dX7_pour_9 : decode prog_1_method_36_code 9 = .ok (.ireturn, 1) := by decide +kernel
theorem dX7_pour_10 : decode prog_1_method_36_code 10 = .ok (.aload_n 0, 1) := by decide +kernel
theorem dX7_pour_11 : decode prog_1_method_36_code 11 = .ok (.getfield 31, 3) := by decide +kernel
theorem dX7_pour_14 : decode prog_1_method_36_code 14 = .ok (.iload_n 1, 1) := by decide +kernel
theorem dX7_pour_15 : decode prog_1_method_36_code 15 = .ok (.aaload, 1) := by decide +kernel
theorem dX7_pour_16 : decode prog_1_method_36_code 16 = .ok (.astore_n 2, 1) := by decide +kernel
theorem dX7_pour_17 : decode prog_1_method_36_code 17 = .ok (.aload_n 2, 1) := by decide +kernel
theorem dX7_pour_18 : decode prog_1_method_36_code 18 = .ok (.getfield 209, 3) := by decide +kernel
theorem dX7_pour_21 : decode prog_1_method_36_code 21 = .ok (.iconst (-1), 1) := by decide +kernel
theorem dX7_pour_22 : decode prog_1_method_36_code 22 = .ok (.if_icmp .ne 6, 3) := by decide +kernel
theorem dX7_pour_25 : decode prog_1_method_36_code 25 = .ok (.ldc 212, 2) := by decide +kernel
theorem dX7_pour_27 : decode prog_1_method_36_code 27 = .ok (.ireturn, 1) := by decide +kernel
theorem dX7_pour_28 : decode prog_1_method_36_code 28 = .ok (.iconst 0, 1) := by decide +kernel
theorem dX7_pour_29 : decode prog_1_method_36_code 29 = .ok (.istore_n 3, 1) := by decide +kernel
theorem dX7_pour_30 : decode prog_1_method_36_code 30 = .ok (.iconst 0, 1) := by decide +kernel
theorem dX7_pour_31 : decode prog_1_method_36_code 31 = .ok (.istore 4, 2) := by decide +kernel
theorem dX7_pour_33 : decode prog_1_method_36_code 33 = .ok (.iload 4, 2) := by decide +kernel
theorem dX7_pour_35 : decode prog_1_method_36_code 35 = .ok (.aload_n 0, 1) := by decide +kernel
theorem dX7_pour_36 : decode prog_1_method_36_code 36 = .ok (.getfield 10, 3) := by decide +kernel
theorem dX7_pour_39 : decode prog_1_method_36_code 39 = .ok (.getfield 105, 3) := by decide +kernel
theorem dX7_pour_42 : decode prog_1_method_36_code 42 = .ok (.if_icmp .ge 82, 3) := by decide +kernel
theorem dX7_pour_45 : decode prog_1_method_36_code 45 = .ok (.iload 4, 2) := by decide +kernel
theorem dX7_pour_47 : decode prog_1_method_36_code 47 = .ok (.aload_n 2, 1) := by decide +kernel
theorem dX7_pour_48 : decode prog_1_method_36_code 48 = .ok (.getfield 221, 3) := by decide +kernel
theorem dX7_pour_51 : decode prog_1_method_36_code 51 = .ok (.if_icmp .ge 73, 3) := by decide +kernel
theorem dX7_pour_54 : decode prog_1_method_36_code 54 = .ok (.aload_n 0, 1) := by decide +kernel
theorem dX7_pour_55 : decode prog_1_method_36_code 55 = .ok (.getfield 10, 3) := by decide +kernel
theorem dX7_pour_58 : decode prog_1_method_36_code 58 = .ok (.getfield 115, 3) := by decide +kernel
theorem dX7_pour_61 : decode prog_1_method_36_code 61 = .ok (.iload 4, 2) := by decide +kernel
theorem dX7_pour_63 : decode prog_1_method_36_code 63 = .ok (.aaload, 1) := by decide +kernel
theorem dX7_pour_64 : decode prog_1_method_36_code 64 = .ok (.astore 5, 2) := by decide +kernel
theorem dX7_pour_66 : decode prog_1_method_36_code 66 = .ok (.aload_n 2, 1) := by decide +kernel
theorem dX7_pour_67 : decode prog_1_method_36_code 67 = .ok (.iload 4, 2) := by decide +kernel
theorem dX7_pour_69 : decode prog_1_method_36_code 69 = .ok (.invokevirtual 224, 3) := by decide +kernel
theorem dX7_pour_72 : decode prog_1_method_36_code 72 = .ok (.ifCond .eq 19, 3) := by decide +kernel
theorem dX7_pour_75 : decode prog_1_method_36_code 75 = .ok (.aload_n 2, 1) := by decide +kernel
theorem dX7_pour_76 : decode prog_1_method_36_code 76 = .ok (.getfield 227, 3) := by decide +kernel
theorem dX7_pour_79 : decode prog_1_method_36_code 79 = .ok (.iload 4, 2) := by decide +kernel
theorem dX7_pour_81 : decode prog_1_method_36_code 81 = .ok (.iaload, 1) := by decide +kernel
theorem dX7_pour_82 : decode prog_1_method_36_code 82 = .ok (.iconst 0, 1) := by decide +kernel
theorem dX7_pour_83 : decode prog_1_method_36_code 83 = .ok (.bipush 99, 2) := by decide +kernel
theorem dX7_pour_85 : decode prog_1_method_36_code 85 = .ok (.invokestatic 274, 3) := by decide +kernel
theorem dX7_pour_88 : decode prog_1_method_36_code 88 = .ok (.goto 8, 3) := by decide +kernel
theorem dX7_pour_91 : decode prog_1_method_36_code 91 = .ok (.aload 5, 2) := by decide +kernel
theorem dX7_pour_93 : decode prog_1_method_36_code 93 = .ok (.getfield 124, 3) := by decide +kernel
theorem dX7_pour_96 : decode prog_1_method_36_code 96 = .ok (.istore 6, 2) := by decide +kernel
theorem dX7_pour_98 : decode prog_1_method_36_code 98 = .ok (.iload 6, 2) := by decide +kernel
theorem dX7_pour_100 : decode prog_1_method_36_code 100 = .ok (.aload 5, 2) := by decide +kernel
theorem dX7_pour_102 : decode prog_1_method_36_code 102 = .ok (.getfield 124, 3) := by decide +kernel
theorem dX7_pour_105 : decode prog_1_method_36_code 105 = .ok (.if_icmp .eq 13, 3) := by decide +kernel
theorem dX7_pour_108 : decode prog_1_method_36_code 108 = .ok (.aload 5, 2) := by decide +kernel
theorem dX7_pour_110 : decode prog_1_method_36_code 110 = .ok (.iload 6, 2) := by decide +kernel
theorem dX7_pour_112 : decode prog_1_method_36_code 112 = .ok (.putfield 124, 3) := by decide +kernel
theorem dX7_pour_115 : decode prog_1_method_36_code 115 = .ok (.iinc 3 1, 3) := by decide +kernel
theorem dX7_pour_118 : decode prog_1_method_36_code 118 = .ok (.iinc 4 1, 3) := by decide +kernel
theorem dX7_pour_121 : decode prog_1_method_36_code 121 = .ok (.goto (-88), 3) := by decide +kernel
theorem dX7_pour_124 : decode prog_1_method_36_code 124 = .ok (.iload_n 3, 1) := by decide +kernel
theorem dX7_pour_125 : decode prog_1_method_36_code 125 = .ok (.ireturn, 1) := by decide +kernel
theorem dX7_reads_0 : decode prog_1_method_37_code 0 = .ok (.iload_n 1, 1) := by decide +kernel
theorem dX7_reads_1 : decode prog_1_method_37_code 1 = .ok (.invokestatic 206, 3) := by decide +kernel
theorem dX7_reads_4 : decode prog_1_method_37_code 4 = .ok (.ifCond .ne 6, 3) := by decide +kernel
theorem dX7_reads_7 : decode prog_1_method_37_code 7 = .ok (.ldc 51, 2) := by decide +kernel
theorem dX7_reads_9 : decode prog_1_method_37_code 9 = .ok (.ireturn, 1) := by decide +kernel
theorem dX7_reads_10 : decode prog_1_method_37_code 10 = .ok (.aload_n 0, 1) := by decide +kernel
theorem dX7_reads_11 : decode prog_1_method_37_code 11 = .ok (.getfield 31, 3) := by decide +kernel
theorem dX7_reads_14 : decode prog_1_method_37_code 14 = .ok (.iload_n 1, 1) := by decide +kernel
theorem dX7_reads_15 : decode prog_1_method_37_code 15 = .ok (.aaload, 1) := by decide +kernel
theorem dX7_reads_16 : decode prog_1_method_37_code 16 = .ok (.astore_n 2, 1) := by decide +kernel
theorem dX7_reads_17 : decode prog_1_method_37_code 17 = .ok (.aload_n 2, 1) := by decide +kernel
theorem dX7_reads_18 : decode prog_1_method_37_code 18 = .ok (.getfield 209, 3) := by decide +kernel
theorem dX7_reads_21 : decode prog_1_method_37_code 21 = .ok (.iconst (-1), 1) := by decide +kernel
theorem dX7_reads_22 : decode prog_1_method_37_code 22 = .ok (.if_icmp .ne 6, 3) := by decide +kernel
theorem dX7_reads_25 : decode prog_1_method_37_code 25 = .ok (.ldc 212, 2) := by decide +kernel
theorem dX7_reads_27 : decode prog_1_method_37_code 27 = .ok (.ireturn, 1) := by decide +kernel
theorem dX7_reads_28 : decode prog_1_method_37_code 28 = .ok (.iconst 0, 1) := by decide +kernel
theorem dX7_reads_29 : decode prog_1_method_37_code 29 = .ok (.istore_n 3, 1) := by decide +kernel
theorem dX7_reads_30 : decode prog_1_method_37_code 30 = .ok (.iload_n 3, 1) := by decide +kernel
theorem dX7_reads_31 : decode prog_1_method_37_code 31 = .ok (.aload_n 2, 1) := by decide +kernel
theorem dX7_reads_32 : decode prog_1_method_37_code 32 = .ok (.getfield 221, 3) := by decide +kernel
theorem dX7_reads_35 : decode prog_1_method_37_code 35 = .ok (.if_icmp .ge 63, 3) := by decide +kernel
theorem dX7_reads_38 : decode prog_1_method_37_code 38 = .ok (.aload_n 0, 1) := by decide +kernel
theorem dX7_reads_39 : decode prog_1_method_37_code 39 = .ok (.getfield 10, 3) := by decide +kernel
theorem dX7_reads_42 : decode prog_1_method_37_code 42 = .ok (.iload_n 3, 1) := by decide +kernel
theorem dX7_reads_43 : decode prog_1_method_37_code 43 = .ok (.invokevirtual 72, 3) := by decide +kernel
theorem dX7_reads_46 : decode prog_1_method_37_code 46 = .ok (.ifCond .eq 28, 3) := by decide +kernel
theorem dX7_reads_49 : decode prog_1_method_37_code 49 = .ok (.aload_n 2, 1) := by decide +kernel
theorem dX7_reads_50 : decode prog_1_method_37_code 50 = .ok (.getfield 227, 3) := by decide +kernel
theorem dX7_reads_53 : decode prog_1_method_37_code 53 = .ok (.iload_n 3, 1) := by decide +kernel
theorem dX7_reads_54 : decode prog_1_method_37_code 54 = .ok (.iaload, 1) := by decide +kernel
theorem dX7_reads_55 : decode prog_1_method_37_code 55 = .ok (.aload_n 0, 1) := by decide +kernel
theorem dX7_reads_56 : decode prog_1_method_37_code 56 = .ok (.getfield 10, 3) := by decide +kernel
theorem dX7_reads_59 : decode prog_1_method_37_code 59 = .ok (.getfield 57, 3) := by decide +kernel
theorem dX7_reads_62 : decode prog_1_method_37_code 62 = .ok (.iload_n 3, 1) := by decide +kernel
theorem dX7_reads_63 : decode prog_1_method_37_code 63 = .ok (.aaload, 1) := by decide +kernel
theorem dX7_reads_64 : decode prog_1_method_37_code 64 = .ok (.getfield 66, 3) := by decide +kernel
theorem dX7_reads_67 : decode prog_1_method_37_code 67 = .ok (.if_icmp .ne 7, 3) := by decide +kernel
theorem dX7_reads_70 : decode prog_1_method_37_code 70 = .ok (.iconst 1, 1) := by decide +kernel
theorem dX7_reads_71 : decode prog_1_method_37_code 71 = .ok (.goto 4, 3) := by decide +kernel
theorem dX7_reads_74 : decode prog_1_method_37_code 74 = .ok (.iconst 0, 1) := by decide +kernel
theorem dX7_reads_75 : decode prog_1_method_37_code 75 = .ok (.istore 4, 2) := by decide +kernel
theorem dX7_reads_77 : decode prog_1_method_37_code 77 = .ok (.aload_n 2, 1) := by decide +kernel
theorem dX7_reads_78 : decode prog_1_method_37_code 78 = .ok (.iload_n 3, 1) := by decide +kernel
theorem dX7_reads_79 : decode prog_1_method_37_code 79 = .ok (.invokevirtual 224, 3) := by decide +kernel
theorem dX7_reads_82 : decode prog_1_method_37_code 82 = .ok (.ifCond .eq 10, 3) := by decide +kernel
theorem dX7_reads_85 : decode prog_1_method_37_code 85 = .ok (.iload 4, 2) := by decide +kernel
theorem dX7_reads_87 : decode prog_1_method_37_code 87 = .ok (.ifCond .ne 5, 3) := by decide +kernel
theorem dX7_reads_90 : decode prog_1_method_37_code 90 = .ok (.iload_n 3, 1) := by decide +kernel
theorem dX7_reads_91 : decode prog_1_method_37_code 91 = .ok (.ireturn, 1) := by decide +kernel
theorem dX7_reads_92 : decode prog_1_method_37_code 92 = .ok (.iinc 3 1, 3) := by decide +kernel
theorem dX7_reads_95 : decode prog_1_method_37_code 95 = .ok (.goto (-65), 3) := by decide +kernel
theorem dX7_reads_98 : decode prog_1_method_37_code 98 = .ok (.ldc 202, 2) := by decide +kernel
theorem dX7_reads_100 : decode prog_1_method_37_code 100 = .ok (.ireturn, 1) := by decide +kernel
theorem dX3_hasPlaces_0 : decode prog_5_method_5_code 0 = .ok (.iload_n 2, 1) := by decide +kernel
theorem dX3_hasPlaces_1 : decode prog_5_method_5_code 1 = .ok (.iconst 0, 1) := by decide +kernel
theorem dX3_hasPlaces_2 : decode prog_5_method_5_code 2 = .ok (.aload_n 0, 1) := by decide +kernel
theorem dX3_hasPlaces_3 : decode prog_5_method_5_code 3 = .ok (.getfield 19, 3) := by decide +kernel
theorem dX3_hasPlaces_6 : decode prog_5_method_5_code 6 = .ok (.invokestatic 34, 3) := by decide +kernel
theorem dX3_hasPlaces_9 : decode prog_5_method_5_code 9 = .ok (.ifCond .eq 21, 3) := by decide +kernel
theorem dX3_hasPlaces_12 : decode prog_5_method_5_code 12 = .ok (.iload_n 1, 1) := by decide +kernel
theorem dX3_hasPlaces_13 : decode prog_5_method_5_code 13 = .ok (.iconst 0, 1) := by decide +kernel
theorem dX3_hasPlaces_14 : decode prog_5_method_5_code 14 = .ok (.aload_n 0, 1) := by decide +kernel
theorem dX3_hasPlaces_15 : decode prog_5_method_5_code 15 = .ok (.getfield 19, 3) := by decide +kernel
theorem dX3_hasPlaces_18 : decode prog_5_method_5_code 18 = .ok (.iload_n 2, 1) := by decide +kernel
theorem dX3_hasPlaces_19 : decode prog_5_method_5_code 19 = .ok (.isub, 1) := by decide +kernel
theorem dX3_hasPlaces_20 : decode prog_5_method_5_code 20 = .ok (.invokestatic 34, 3) := by decide +kernel
theorem dX3_hasPlaces_23 : decode prog_5_method_5_code 23 = .ok (.ifCond .eq 7, 3) := by decide +kernel
theorem dX3_hasPlaces_26 : decode prog_5_method_5_code 26 = .ok (.iconst 1, 1) := by decide +kernel
theorem dX3_hasPlaces_27 : decode prog_5_method_5_code 27 = .ok (.goto 4, 3) := by decide +kernel
theorem dX3_hasPlaces_30 : decode prog_5_method_5_code 30 = .ok (.iconst 0, 1) := by decide +kernel
theorem dX3_hasPlaces_31 : decode prog_5_method_5_code 31 = .ok (.ireturn, 1) := by decide +kernel
theorem dX7_copy_0 : decode prog_1_method_38_code 0 = .ok (.iload_n 1, 1) := by decide +kernel
theorem dX7_copy_1 : decode prog_1_method_38_code 1 = .ok (.invokestatic 206, 3) := by decide +kernel
theorem dX7_copy_4 : decode prog_1_method_38_code 4 = .ok (.ifCond .eq 10, 3) := by decide +kernel
theorem dX7_copy_7 : decode prog_1_method_38_code 7 = .ok (.iload_n 3, 1) := by decide +kernel
theorem dX7_copy_8 : decode prog_1_method_38_code 8 = .ok (.invokestatic 206, 3) := by decide +kernel
theorem dX7_copy_11 : decode prog_1_method_38_code 11 = .ok (.ifCond .ne 6, 3) := by decide +kernel
theorem dX7_copy_14 : decode prog_1_method_38_code 14 = .ok (.ldc 51, 2) := by decide +kernel
theorem dX7_copy_16 : decode prog_1_method_38_code 16 = .ok (.ireturn, 1) := by decide +kernel
theorem dX7_copy_17 : decode prog_1_method_38_code 17 = .ok (.aload_n 0, 1) := by decide +kernel
theorem dX7_copy_18 : decode prog_1_method_38_code 18 = .ok (.getfield 31, 3) := by decide +kernel
theorem dX7_copy_21 : decode prog_1_method_38_code 21 = .ok (.iload_n 1, 1) := by decide +kernel
theorem dX7_copy_22 : decode prog_1_method_38_code 22 = .ok (.aaload, 1) := by decide +kernel
theorem dX7_copy_23 : decode prog_1_method_38_code 23 = .ok (.astore 6, 2) := by decide +kernel
theorem dX7_copy_25 : decode prog_1_method_38_code 25 = .ok (.aload_n 0, 1) := by decide +kernel
theorem dX7_copy_26 : decode prog_1_method_38_code 26 = .ok (.getfield 31, 3) := by decide +kernel
theorem dX7_copy_29 : decode prog_1_method_38_code 29 = .ok (.iload_n 3, 1) := by decide +kernel
theorem dX7_copy_30 : decode prog_1_method_38_code 30 = .ok (.aaload, 1) := by decide +kernel
theorem dX7_copy_31 : decode prog_1_method_38_code 31 = .ok (.astore 7, 2) := by decide +kernel
theorem dX7_copy_33 : decode prog_1_method_38_code 33 = .ok (.aload 6, 2) := by decide +kernel
theorem dX7_copy_35 : decode prog_1_method_38_code 35 = .ok (.getfield 209, 3) := by decide +kernel
theorem dX7_copy_38 : decode prog_1_method_38_code 38 = .ok (.iconst (-1), 1) := by decide +kernel
theorem dX7_copy_39 : decode prog_1_method_38_code 39 = .ok (.if_icmp .eq 12, 3) := by decide +kernel
theorem dX7_copy_42 : decode prog_1_method_38_code 42 = .ok (.aload 7, 2) := by decide +kernel
theorem dX7_copy_44 : decode prog_1_method_38_code 44 = .ok (.getfield 209, 3) := by decide +kernel
theorem dX7_copy_47 : decode prog_1_method_38_code 47 = .ok (.iconst (-1), 1) := by decide +kernel
theorem dX7_copy_48 : decode prog_1_method_38_code 48 = .ok (.if_icmp .ne 6, 3) := by decide +kernel
theorem dX7_copy_51 : decode prog_1_method_38_code 51 = .ok (.ldc 212, 2) := by decide +kernel
theorem dX7_copy_53 : decode prog_1_method_38_code 53 = .ok (.ireturn, 1) := by decide +kernel
theorem dX7_copy_54 : decode prog_1_method_38_code 54 = .ok (.aload 6, 2) := by decide +kernel
theorem dX7_copy_56 : decode prog_1_method_38_code 56 = .ok (.getfield 209, 3) := by decide +kernel
theorem dX7_copy_59 : decode prog_1_method_38_code 59 = .ok (.aload 7, 2) := by decide +kernel
theorem dX7_copy_61 : decode prog_1_method_38_code 61 = .ok (.getfield 209, 3) := by decide +kernel
theorem dX7_copy_64 : decode prog_1_method_38_code 64 = .ok (.if_icmp .eq 6, 3) := by decide +kernel
theorem dX7_copy_67 : decode prog_1_method_38_code 67 = .ok (.ldc 141, 2) := by decide +kernel
theorem dX7_copy_69 : decode prog_1_method_38_code 69 = .ok (.ireturn, 1) := by decide +kernel
theorem dX7_copy_70 : decode prog_1_method_38_code 70 = .ok (.aload 6, 2) := by decide +kernel
theorem dX7_copy_72 : decode prog_1_method_38_code 72 = .ok (.iload_n 2, 1) := by decide +kernel
theorem dX7_copy_73 : decode prog_1_method_38_code 73 = .ok (.iload 5, 2) := by decide +kernel
theorem dX7_copy_75 : decode prog_1_method_38_code 75 = .ok (.invokevirtual 278, 3) := by decide +kernel
theorem dX7_copy_78 : decode prog_1_method_38_code 78 = .ok (.ifCond .eq 15, 3) := by decide +kernel
theorem dX7_copy_81 : decode prog_1_method_38_code 81 = .ok (.aload 7, 2) := by decide +kernel
theorem dX7_copy_83 : decode prog_1_method_38_code 83 = .ok (.iload 4, 2) := by decide +kernel
theorem dX7_copy_85 : decode prog_1_method_38_code 85 = .ok (.iload 5, 2) := by decide +kernel
theorem dX7_copy_87 : decode prog_1_method_38_code 87 = .ok (.invokevirtual 278, 3) := by decide +kernel
theorem dX7_copy_90 : decode prog_1_method_38_code 90 = .ok (.ifCond .ne 7, 3) := by decide +kernel
theorem dX7_copy_93 : decode prog_1_method_38_code 93 = .ok (.ldc_w 271, 3) := by decide +kernel
theorem dX7_copy_96 : decode prog_1_method_38_code 96 = .ok (.ireturn, 1) := by decide +kernel
theorem dX7_copy_97 : decode prog_1_method_38_code 97 = .ok (.aload 6, 2) := by decide +kernel
theorem dX7_copy_99 : decode prog_1_method_38_code 99 = .ok (.getfield 227, 3) := by decide +kernel
theorem dX7_copy_102 : decode prog_1_method_38_code 102 = .ok (.iload_n 2, 1) := by decide +kernel
theorem dX7_copy_103 : decode prog_1_method_38_code 103 = .ok (.aload 7, 2) := by decide +kernel
theorem dX7_copy_105 : decode prog_1_method_38_code 105 = .ok (.getfield 227, 3) := by decide +kernel
theorem dX7_copy_108 : decode prog_1_method_38_code 108 = .ok (.iload 4, 2) := by decide +kernel
theorem dX7_copy_110 : decode prog_1_method_38_code 110 = .ok (.iload 5, 2) := by decide +kernel
theorem dX7_copy_112 : decode prog_1_method_38_code 112 = .ok (.invokestatic 282, 3) := by decide +kernel
theorem dX7_copy_115 : decode prog_1_method_38_code 115 = .ok (.iload 5, 2) := by decide +kernel
theorem dX7_copy_117 : decode prog_1_method_38_code 117 = .ok (.ireturn, 1) := by decide +kernel
theorem dX3_become_0 : decode prog_5_method_3_code 0 = .ok (.aload_n 0, 1) := by decide +kernel
theorem dX3_become_1 : decode prog_5_method_3_code 1 = .ok (.aload_n 1, 1) := by decide +kernel
theorem dX3_become_2 : decode prog_5_method_3_code 2 = .ok (.getfield 9, 3) := by decide +kernel
theorem dX3_become_5 : decode prog_5_method_3_code 5 = .ok (.putfield 9, 3) := by decide +kernel
theorem dX3_become_8 : decode prog_5_method_3_code 8 = .ok (.aload_n 0, 1) := by decide +kernel
theorem dX3_become_9 : decode prog_5_method_3_code 9 = .ok (.aload_n 1, 1) := by decide +kernel
theorem dX3_become_10 : decode prog_5_method_3_code 10 = .ok (.getfield 19, 3) := by decide +kernel
theorem dX3_become_13 : decode prog_5_method_3_code 13 = .ok (.putfield 19, 3) := by decide +kernel
theorem dX3_become_16 : decode prog_5_method_3_code 16 = .ok (.aload_n 1, 1) := by decide +kernel
theorem dX3_become_17 : decode prog_5_method_3_code 17 = .ok (.getfield 15, 3) := by decide +kernel
theorem dX3_become_20 : decode prog_5_method_3_code 20 = .ok (.iconst 0, 1) := by decide +kernel
theorem dX3_become_21 : decode prog_5_method_3_code 21 = .ok (.aload_n 0, 1) := by decide +kernel
theorem dX3_become_22 : decode prog_5_method_3_code 22 = .ok (.getfield 15, 3) := by decide +kernel
theorem dX3_become_25 : decode prog_5_method_3_code 25 = .ok (.iconst 0, 1) := by decide +kernel
theorem dX3_become_26 : decode prog_5_method_3_code 26 = .ok (.bipush 24, 2) := by decide +kernel
theorem dX3_become_28 : decode prog_5_method_3_code 28 = .ok (.invokestatic 28, 3) := by decide +kernel
theorem dX3_become_31 : decode prog_5_method_3_code 31 = .ok (.return_, 1) := by decide +kernel
theorem dX7_isSlot_0 : decode prog_1_method_53_code 0 = .ok (.iload_n 0, 1) := by decide +kernel
theorem dX7_isSlot_1 : decode prog_1_method_53_code 1 = .ok (.iconst 0, 1) := by decide +kernel
theorem dX7_isSlot_2 : decode prog_1_method_53_code 2 = .ok (.iconst 4, 1) := by decide +kernel
theorem dX7_isSlot_3 : decode prog_1_method_53_code 3 = .ok (.invokestatic 47, 3) := by decide +kernel
theorem dX7_isSlot_6 : decode prog_1_method_53_code 6 = .ok (.ireturn, 1) := by decide +kernel
theorem dX7_lay_0 : decode prog_1_method_39_code 0 = .ok (.iload_n 1, 1) := by decide +kernel
theorem dX7_lay_1 : decode prog_1_method_39_code 1 = .ok (.invokestatic 288, 3) := by decide +kernel
theorem dX7_lay_4 : decode prog_1_method_39_code 4 = .ok (.ifCond .eq 12, 3) := by decide +kernel
theorem dX7_lay_7 : decode prog_1_method_39_code 7 = .ok (.iload_n 2, 1) := by decide +kernel
theorem dX7_lay_8 : decode prog_1_method_39_code 8 = .ok (.iconst 0, 1) := by decide +kernel
theorem dX7_lay_9 : decode prog_1_method_39_code 9 = .ok (.iconst 3, 1) := by decide +kernel
theorem dX7_lay_10 : decode prog_1_method_39_code 10 = .ok (.invokestatic 47, 3) := by decide +kernel
theorem dX7_lay_13 : decode prog_1_method_39_code 13 = .ok (.ifCond .ne 6, 3) := by decide +kernel
theorem dX7_lay_16 : decode prog_1_method_39_code 16 = .ok (.ldc 51, 2) := by decide +kernel
theorem dX7_lay_18 : decode prog_1_method_39_code 18 = .ok (.ireturn, 1) := by decide +kernel
theorem dX7_lay_19 : decode prog_1_method_39_code 19 = .ok (.iload_n 2, 1) := by decide +kernel
theorem dX7_lay_20 : decode prog_1_method_39_code 20 = .ok (.iconst 1, 1) := by decide +kernel
theorem dX7_lay_21 : decode prog_1_method_39_code 21 = .ok (.if_icmp .ne 14, 3) := by decide +kernel
theorem dX7_lay_24 : decode prog_1_method_39_code 24 = .ok (.aload_n 0, 1) := by decide +kernel
theorem dX7_lay_25 : decode prog_1_method_39_code 25 = .ok (.getfield 10, 3) := by decide +kernel
theorem dX7_lay_28 : decode prog_1_method_39_code 28 = .ok (.iload_n 3, 1) := by decide +kernel
theorem dX7_lay_29 : decode prog_1_method_39_code 29 = .ok (.invokevirtual 112, 3) := by decide +kernel
theorem dX7_lay_32 : decode prog_1_method_39_code 32 = .ok (.ifCond .eq 15, 3) := by decide +kernel
theorem dX7_lay_35 : decode prog_1_method_39_code 35 = .ok (.iload_n 2, 1) := by decide +kernel
theorem dX7_lay_36 : decode prog_1_method_39_code 36 = .ok (.iconst 2, 1) := by decide +kernel
theorem dX7_lay_37 : decode prog_1_method_39_code 37 = .ok (.if_icmp .ne 13, 3) := by decide +kernel
theorem dX7_lay_40 : decode prog_1_method_39_code 40 = .ok (.iload_n 3, 1) := by decide +kernel
theorem dX7_lay_41 : decode prog_1_method_39_code 41 = .ok (.invokestatic 206, 3) := by decide +kernel
theorem dX7_lay_44 : decode prog_1_method_39_code 44 = .ok (.ifCond .ne 6, 3) := by decide +kernel
theorem dX7_lay_47 : decode prog_1_method_39_code 47 = .ok (.ldc 51, 2) := by decide +kernel
theorem dX7_lay_49 : decode prog_1_method_39_code 49 = .ok (.ireturn, 1) := by decide +kernel
theorem dX7_lay_50 : decode prog_1_method_39_code 50 = .ok (.iload_n 2, 1) := by decide +kernel
theorem dX7_lay_51 : decode prog_1_method_39_code 51 = .ok (.iconst 2, 1) := by decide +kernel
theorem dX7_lay_52 : decode prog_1_method_39_code 52 = .ok (.if_icmp .ne 19, 3) := by decide +kernel
theorem dX7_lay_55 : decode prog_1_method_39_code 55 = .ok (.aload_n 0, 1) := by decide +kernel
theorem dX7_lay_56 : decode prog_1_method_39_code 56 = .ok (.getfield 31, 3) := by decide +kernel
theorem dX7_lay_59 : decode prog_1_method_39_code 59 = .ok (.iload_n 3, 1) := by decide +kernel
theorem dX7_lay_60 : decode prog_1_method_39_code 60 = .ok (.aaload, 1) := by decide +kernel
theorem dX7_lay_61 : decode prog_1_method_39_code 61 = .ok (.getfield 209, 3) := by decide +kernel
theorem dX7_lay_64 : decode prog_1_method_39_code 64 = .ok (.iconst (-1), 1) := by decide +kernel
theorem dX7_lay_65 : decode prog_1_method_39_code 65 = .ok (.if_icmp .ne 6, 3) := by decide +kernel
theorem dX7_lay_68 : decode prog_1_method_39_code 68 = .ok (.ldc 212, 2) := by decide +kernel
theorem dX7_lay_70 : decode prog_1_method_39_code 70 = .ok (.ireturn, 1) := by decide +kernel
theorem dX7_lay_71 : decode prog_1_method_39_code 71 = .ok (.aload_n 0, 1) := by decide +kernel
theorem dX7_lay_72 : decode prog_1_method_39_code 72 = .ok (.getfield 37, 3) := by decide +kernel
theorem dX7_lay_75 : decode prog_1_method_39_code 75 = .ok (.iload_n 1, 1) := by decide +kernel
theorem dX7_lay_76 : decode prog_1_method_39_code 76 = .ok (.aaload, 1) := by decide +kernel
theorem dX7_lay_77 : decode prog_1_method_39_code 77 = .ok (.astore 4, 2) := by decide +kernel
theorem dX7_lay_79 : decode prog_1_method_39_code 79 = .ok (.aload 4, 2) := by decide +kernel
theorem dX7_lay_81 : decode prog_1_method_39_code 81 = .ok (.getfield 291, 3) := by decide +kernel
theorem dX7_lay_84 : decode prog_1_method_39_code 84 = .ok (.istore 5, 2) := by decide +kernel
theorem dX7_lay_86 : decode prog_1_method_39_code 86 = .ok (.aload 4, 2) := by decide +kernel
theorem dX7_lay_88 : decode prog_1_method_39_code 88 = .ok (.iload_n 2, 1) := by decide +kernel
theorem dX7_lay_89 : decode prog_1_method_39_code 89 = .ok (.putfield 291, 3) := by decide +kernel
theorem dX7_lay_92 : decode prog_1_method_39_code 92 = .ok (.iload_n 2, 1) := by decide +kernel
theorem dX7_lay_93 : decode prog_1_method_39_code 93 = .ok (.iconst 1, 1) := by decide +kernel
theorem dX7_lay_94 : decode prog_1_method_39_code 94 = .ok (.if_icmp .ne 23, 3) := by decide +kernel
theorem dX7_lay_97 : decode prog_1_method_39_code 97 = .ok (.aload 4, 2) := by decide +kernel
theorem dX7_lay_99 : decode prog_1_method_39_code 99 = .ok (.getfield 294, 3) := by decide +kernel
theorem dX7_lay_102 : decode prog_1_method_39_code 102 = .ok (.aload_n 0, 1) := by decide +kernel
theorem dX7_lay_103 : decode prog_1_method_39_code 103 = .ok (.getfield 10, 3) := by decide +kernel
theorem dX7_lay_106 : decode prog_1_method_39_code 106 = .ok (.getfield 115, 3) := by decide +kernel
theorem dX7_lay_109 : decode prog_1_method_39_code 109 = .ok (.iload_n 3, 1) := by decide +kernel
theorem dX7_lay_110 : decode prog_1_method_39_code 110 = .ok (.aaload, 1) := by decide +kernel
theorem dX7_lay_111 : decode prog_1_method_39_code 111 = .ok (.invokevirtual 298, 3) := by decide +kernel
theorem dX7_lay_114 : decode prog_1_method_39_code 114 = .ok (.goto 31, 3) := by decide +kernel
theorem dX7_lay_117 : decode prog_1_method_39_code 117 = .ok (.iload_n 2, 1) := by decide +kernel
theorem dX7_lay_118 : decode prog_1_method_39_code 118 = .ok (.iconst 2, 1) := by decide +kernel
theorem dX7_lay_119 : decode prog_1_method_39_code 119 = .ok (.if_icmp .ne 20, 3) := by decide +kernel
theorem dX7_lay_122 : decode prog_1_method_39_code 122 = .ok (.aload 4, 2) := by decide +kernel
theorem dX7_lay_124 : decode prog_1_method_39_code 124 = .ok (.getfield 301, 3) := by decide +kernel
theorem dX7_lay_127 : decode prog_1_method_39_code 127 = .ok (.aload_n 0, 1) := by decide +kernel
theorem dX7_lay_128 : decode prog_1_method_39_code 128 = .ok (.getfield 31, 3) := by decide +kernel
theorem dX7_lay_131 : decode prog_1_method_39_code 131 = .ok (.iload_n 3, 1) := by decide +kernel
theorem dX7_lay_132 : decode prog_1_method_39_code 132 = .ok (.aaload, 1) := by decide +kernel
theorem dX7_lay_133 : decode prog_1_method_39_code 133 = .ok (.invokevirtual 305, 3) := by decide +kernel
theorem dX7_lay_136 : decode prog_1_method_39_code 136 = .ok (.goto 9, 3) := by decide +kernel
theorem dX7_lay_139 : decode prog_1_method_39_code 139 = .ok (.aload 4, 2) := by decide +kernel
theorem dX7_lay_141 : decode prog_1_method_39_code 141 = .ok (.iload_n 3, 1) := by decide +kernel
theorem dX7_lay_142 : decode prog_1_method_39_code 142 = .ok (.putfield 308, 3) := by decide +kernel
theorem dX7_lay_145 : decode prog_1_method_39_code 145 = .ok (.iload 5, 2) := by decide +kernel
theorem dX7_lay_147 : decode prog_1_method_39_code 147 = .ok (.ireturn, 1) := by decide +kernel
theorem dX4_refusalAs_0 : decode prog_6_method_2_code 0 = .ok (.aload_n 0, 1) := by decide +kernel
theorem dX4_refusalAs_1 : decode prog_6_method_2_code 1 = .ok (.getfield 9, 3) := by decide +kernel
theorem dX4_refusalAs_4 : decode prog_6_method_2_code 4 = .ok (.ifCond .ne 6, 3) := by decide +kernel
theorem dX4_refusalAs_7 : decode prog_6_method_2_code 7 = .ok (.ldc 29, 2) := by decide +kernel
theorem dX4_refusalAs_9 : decode prog_6_method_2_code 9 = .ok (.ireturn, 1) := by decide +kernel
theorem dX4_refusalAs_10 : decode prog_6_method_2_code 10 = .ok (.aload_n 0, 1) := by decide +kernel
theorem dX4_refusalAs_11 : decode prog_6_method_2_code 11 = .ok (.getfield 9, 3) := by decide +kernel
theorem dX4_refusalAs_14 : decode prog_6_method_2_code 14 = .ok (.iload_n 1, 1) := by decide +kernel
theorem dX4_refusalAs_15 : decode prog_6_method_2_code 15 = .ok (.if_icmp .ne 7, 3) := by decide +kernel
theorem dX4_refusalAs_18 : decode prog_6_method_2_code 18 = .ok (.iconst 0, 1) := by decide +kernel
theorem dX4_refusalAs_19 : decode prog_6_method_2_code 19 = .ok (.goto 5, 3) := by decide +kernel
theorem dX4_refusalAs_22 : decode prog_6_method_2_code 22 = .ok (.ldc 30, 2) := by decide +kernel
theorem dX4_refusalAs_24 : decode prog_6_method_2_code 24 = .ok (.ireturn, 1) := by decide +kernel
theorem dX7_ask_0 : decode prog_1_method_40_code 0 = .ok (.iload_n 1, 1) := by decide +kernel
theorem dX7_ask_1 : decode prog_1_method_40_code 1 = .ok (.invokestatic 288, 3) := by decide +kernel
theorem dX7_ask_4 : decode prog_1_method_40_code 4 = .ok (.ifCond .eq 10, 3) := by decide +kernel
theorem dX7_ask_7 : decode prog_1_method_40_code 7 = .ok (.iload_n 2, 1) := by decide +kernel
theorem dX7_ask_8 : decode prog_1_method_40_code 8 = .ok (.invokestatic 102, 3) := by decide +kernel
theorem dX7_ask_11 : decode prog_1_method_40_code 11 = .ok (.ifCond .ne 6, 3) := by decide +kernel
theorem dX7_ask_14 : decode prog_1_method_40_code 14 = .ok (.ldc 51, 2) := by decide +kernel
theorem dX7_ask_16 : decode prog_1_method_40_code 16 = .ok (.ireturn, 1) := by decide +kernel
theorem dX7_ask_17 : decode prog_1_method_40_code 17 = .ok (.aload_n 0, 1) := by decide +kernel
theorem dX7_ask_18 : decode prog_1_method_40_code 18 = .ok (.getfield 37, 3) := by decide +kernel
theorem dX7_ask_21 : decode prog_1_method_40_code 21 = .ok (.iload_n 1, 1) := by decide +kernel
theorem dX7_ask_22 : decode prog_1_method_40_code 22 = .ok (.aaload, 1) := by decide +kernel
theorem dX7_ask_23 : decode prog_1_method_40_code 23 = .ok (.iconst 1, 1) := by decide +kernel
theorem dX7_ask_24 : decode prog_1_method_40_code 24 = .ok (.invokevirtual 311, 3) := by decide +kernel
theorem dX7_ask_27 : decode prog_1_method_40_code 27 = .ok (.istore_n 3, 1) := by decide +kernel
theorem dX7_ask_28 : decode prog_1_method_40_code 28 = .ok (.iload_n 3, 1) := by decide +kernel
theorem dX7_ask_29 : decode prog_1_method_40_code 29 = .ok (.ifCond .eq 5, 3) := by decide +kernel
theorem dX7_ask_32 : decode prog_1_method_40_code 32 = .ok (.iload_n 3, 1) := by decide +kernel
theorem dX7_ask_33 : decode prog_1_method_40_code 33 = .ok (.ireturn, 1) := by decide +kernel
theorem dX7_ask_34 : decode prog_1_method_40_code 34 = .ok (.aload_n 0, 1) := by decide +kernel
theorem dX7_ask_35 : decode prog_1_method_40_code 35 = .ok (.getfield 37, 3) := by decide +kernel
theorem dX7_ask_38 : decode prog_1_method_40_code 38 = .ok (.iload_n 1, 1) := by decide +kernel
theorem dX7_ask_39 : decode prog_1_method_40_code 39 = .ok (.aaload, 1) := by decide +kernel
theorem dX7_ask_40 : decode prog_1_method_40_code 40 = .ok (.getfield 294, 3) := by decide +kernel
theorem dX7_ask_43 : decode prog_1_method_40_code 43 = .ok (.astore 4, 2) := by decide +kernel
theorem dX7_ask_45 : decode prog_1_method_40_code 45 = .ok (.aload 4, 2) := by decide +kernel
theorem dX7_ask_47 : decode prog_1_method_40_code 47 = .ok (.iload_n 2, 1) := by decide +kernel
theorem dX7_ask_48 : decode prog_1_method_40_code 48 = .ok (.invokevirtual 138, 3) := by decide +kernel
theorem dX7_ask_51 : decode prog_1_method_40_code 51 = .ok (.ifCond .eq 11, 3) := by decide +kernel
theorem dX7_ask_54 : decode prog_1_method_40_code 54 = .ok (.aload 4, 2) := by decide +kernel
theorem dX7_ask_56 : decode prog_1_method_40_code 56 = .ok (.invokevirtual 134, 3) := by decide +kernel
theorem dX7_ask_59 : decode prog_1_method_40_code 59 = .ok (.goto 5, 3) := by decide +kernel
theorem dX7_ask_62 : decode prog_1_method_40_code 62 = .ok (.ldc 141, 2) := by decide +kernel
theorem dX7_ask_64 : decode prog_1_method_40_code 64 = .ok (.ireturn, 1) := by decide +kernel
theorem dX7_item_0 : decode prog_1_method_41_code 0 = .ok (.iload_n 1, 1) := by decide +kernel
theorem dX7_item_1 : decode prog_1_method_41_code 1 = .ok (.invokestatic 288, 3) := by decide +kernel
theorem dX7_item_4 : decode prog_1_method_41_code 4 = .ok (.ifCond .ne 6, 3) := by decide +kernel
theorem dX7_item_7 : decode prog_1_method_41_code 7 = .ok (.ldc 51, 2) := by decide +kernel
theorem dX7_item_9 : decode prog_1_method_41_code 9 = .ok (.ireturn, 1) := by decide +kernel
theorem dX7_item_10 : decode prog_1_method_41_code 10 = .ok (.aload_n 0, 1) := by decide +kernel
theorem dX7_item_11 : decode prog_1_method_41_code 11 = .ok (.getfield 37, 3) := by decide +kernel
theorem dX7_item_14 : decode prog_1_method_41_code 14 = .ok (.iload_n 1, 1) := by decide +kernel
theorem dX7_item_15 : decode prog_1_method_41_code 15 = .ok (.aaload, 1) := by decide +kernel
theorem dX7_item_16 : decode prog_1_method_41_code 16 = .ok (.iconst 2, 1) := by decide +kernel
theorem dX7_item_17 : decode prog_1_method_41_code 17 = .ok (.invokevirtual 311, 3) := by decide +kernel
theorem dX7_item_20 : decode prog_1_method_41_code 20 = .ok (.istore_n 3, 1) := by decide +kernel
theorem dX7_item_21 : decode prog_1_method_41_code 21 = .ok (.iload_n 3, 1) := by decide +kernel
theorem dX7_item_22 : decode prog_1_method_41_code 22 = .ok (.ifCond .eq 5, 3) := by decide +kernel
theorem dX7_item_25 : decode prog_1_method_41_code 25 = .ok (.iload_n 3, 1) := by decide +kernel
theorem dX7_item_26 : decode prog_1_method_41_code 26 = .ok (.ireturn, 1) := by decide +kernel
theorem dX7_item_27 : decode prog_1_method_41_code 27 = .ok (.aload_n 0, 1) := by decide +kernel
theorem dX7_item_28 : decode prog_1_method_41_code 28 = .ok (.getfield 37, 3) := by decide +kernel
theorem dX7_item_31 : decode prog_1_method_41_code 31 = .ok (.iload_n 1, 1) := by decide +kernel
theorem dX7_item_32 : decode prog_1_method_41_code 32 = .ok (.aaload, 1) := by decide +kernel
theorem dX7_item_33 : decode prog_1_method_41_code 33 = .ok (.getfield 301, 3) := by decide +kernel
theorem dX7_item_36 : decode prog_1_method_41_code 36 = .ok (.astore 4, 2) := by decide +kernel
theorem dX7_item_38 : decode prog_1_method_41_code 38 = .ok (.iload_n 2, 1) := by decide +kernel
theorem dX7_item_39 : decode prog_1_method_41_code 39 = .ok (.iconst 0, 1) := by decide +kernel
theorem dX7_item_40 : decode prog_1_method_41_code 40 = .ok (.aload 4, 2) := by decide +kernel
theorem dX7_item_42 : decode prog_1_method_41_code 42 = .ok (.getfield 221, 3) := by decide +kernel
theorem dX7_item_45 : decode prog_1_method_41_code 45 = .ok (.iconst 1, 1) := by decide +kernel
theorem dX7_item_46 : decode prog_1_method_41_code 46 = .ok (.isub, 1) := by decide +kernel
theorem dX7_item_47 : decode prog_1_method_41_code 47 = .ok (.invokestatic 47, 3) := by decide +kernel
theorem dX7_item_50 : decode prog_1_method_41_code 50 = .ok (.ifCond .ne 7, 3) := by decide +kernel
theorem dX7_item_53 : decode prog_1_method_41_code 53 = .ok (.ldc_w 271, 3) := by decide +kernel
theorem dX7_item_56 : decode prog_1_method_41_code 56 = .ok (.ireturn, 1) := by decide +kernel
theorem dX7_item_57 : decode prog_1_method_41_code 57 = .ok (.aload 4, 2) := by decide +kernel
theorem dX7_item_59 : decode prog_1_method_41_code 59 = .ok (.iload_n 2, 1) := by decide +kernel
theorem dX7_item_60 : decode prog_1_method_41_code 60 = .ok (.invokevirtual 224, 3) := by decide +kernel
theorem dX7_item_63 : decode prog_1_method_41_code 63 = .ok (.ifCond .eq 13, 3) := by decide +kernel
theorem dX7_item_66 : decode prog_1_method_41_code 66 = .ok (.aload 4, 2) := by decide +kernel
theorem dX7_item_68 : decode prog_1_method_41_code 68 = .ok (.getfield 227, 3) := by decide +kernel
theorem dX7_item_71 : decode prog_1_method_41_code 71 = .ok (.iload_n 2, 1) := by decide +kernel
theorem dX7_item_72 : decode prog_1_method_41_code 72 = .ok (.iaload, 1) := by decide +kernel
theorem dX7_item_73 : decode prog_1_method_41_code 73 = .ok (.goto 5, 3) := by decide +kernel
theorem dX7_item_76 : decode prog_1_method_41_code 76 = .ok (.ldc 141, 2) := by decide +kernel
theorem dX7_item_78 : decode prog_1_method_41_code 78 = .ok (.ireturn, 1) := by decide +kernel
theorem dX7_rest_0 : decode prog_1_method_42_code 0 = .ok (.iload_n 1, 1) := by decide +kernel
theorem dX7_rest_1 : decode prog_1_method_42_code 1 = .ok (.invokestatic 288, 3) := by decide +kernel
theorem dX7_rest_4 : decode prog_1_method_42_code 4 = .ok (.ifCond .ne 6, 3) := by decide +kernel
theorem dX7_rest_7 : decode prog_1_method_42_code 7 = .ok (.ldc 51, 2) := by decide +kernel
theorem dX7_rest_9 : decode prog_1_method_42_code 9 = .ok (.ireturn, 1) := by decide +kernel
theorem dX7_rest_10 : decode prog_1_method_42_code 10 = .ok (.aload_n 0, 1) := by decide +kernel
theorem dX7_rest_11 : decode prog_1_method_42_code 11 = .ok (.getfield 37, 3) := by decide +kernel
theorem dX7_rest_14 : decode prog_1_method_42_code 14 = .ok (.iload_n 1, 1) := by decide +kernel
theorem dX7_rest_15 : decode prog_1_method_42_code 15 = .ok (.aaload, 1) := by decide +kernel
theorem dX7_rest_16 : decode prog_1_method_42_code 16 = .ok (.iconst 3, 1) := by decide +kernel
theorem dX7_rest_17 : decode prog_1_method_42_code 17 = .ok (.invokevirtual 311, 3) := by decide +kernel
theorem dX7_rest_20 : decode prog_1_method_42_code 20 = .ok (.istore_n 3, 1) := by decide +kernel
theorem dX7_rest_21 : decode prog_1_method_42_code 21 = .ok (.iload_n 3, 1) := by decide +kernel
theorem dX7_rest_22 : decode prog_1_method_42_code 22 = .ok (.ifCond .eq 5, 3) := by decide +kernel
theorem dX7_rest_25 : decode prog_1_method_42_code 25 = .ok (.iload_n 3, 1) := by decide +kernel
theorem dX7_rest_26 : decode prog_1_method_42_code 26 = .ok (.ireturn, 1) := by decide +kernel
theorem dX7_rest_27 : decode prog_1_method_42_code 27 = .ok (.iload_n 2, 1) := by decide +kernel
theorem dX7_rest_28 : decode prog_1_method_42_code 28 = .ok (.ifCond .ne 8, 3) := by decide +kernel
theorem dX7_rest_31 : decode prog_1_method_42_code 31 = .ok (.ldc 176, 2) := by decide +kernel
theorem dX7_rest_33 : decode prog_1_method_42_code 33 = .ok (.goto 14, 3) := by decide +kernel
theorem dX7_rest_36 : decode prog_1_method_42_code 36 = .ok (.aload_n 0, 1) := by decide +kernel
theorem dX7_rest_37 : decode prog_1_method_42_code 37 = .ok (.getfield 37, 3) := by decide +kernel
theorem dX7_rest_40 : decode prog_1_method_42_code 40 = .ok (.iload_n 1, 1) := by decide +kernel
theorem dX7_rest_41 : decode prog_1_method_42_code 41 = .ok (.aaload, 1) := by decide +kernel
theorem dX7_rest_42 : decode prog_1_method_42_code 42 = .ok (.getfield 308, 3) := by decide +kernel
theorem dX7_rest_45 : decode prog_1_method_42_code 45 = .ok (.iload_n 2, 1) := by decide +kernel
theorem dX7_rest_46 : decode prog_1_method_42_code 46 = .ok (.irem, 1) := by decide +kernel
theorem dX7_rest_47 : decode prog_1_method_42_code 47 = .ok (.ireturn, 1) := by decide +kernel
theorem dX7_tell_0 : decode prog_1_method_43_code 0 = .ok (.aload_n 0, 1) := by decide +kernel
theorem dX7_tell_1 : decode prog_1_method_43_code 1 = .ok (.getfield 314, 3) := by decide +kernel
theorem dX7_tell_4 : decode prog_1_method_43_code 4 = .ok (.bipush 60, 2) := by decide +kernel
theorem dX7_tell_6 : decode prog_1_method_43_code 6 = .ok (.if_icmp .lt 6, 3) := by decide +kernel
theorem dX7_tell_9 : decode prog_1_method_43_code 9 = .ok (.ldc 56, 2) := by decide +kernel
theorem dX7_tell_11 : decode prog_1_method_43_code 11 = .ok (.ireturn, 1) := by decide +kernel
theorem dX7_tell_12 : decode prog_1_method_43_code 12 = .ok (.aload_n 0, 1) := by decide +kernel
theorem dX7_tell_13 : decode prog_1_method_43_code 13 = .ok (.getfield 41, 3) := by decide +kernel
theorem dX7_tell_16 : decode prog_1_method_43_code 16 = .ok (.aload_n 0, 1) := by decide +kernel
theorem dX7_tell_17 : decode prog_1_method_43_code 17 = .ok (.getfield 314, 3) := by decide +kernel
theorem dX7_tell_20 : decode prog_1_method_43_code 20 = .ok (.iload_n 1, 1) := by decide +kernel
theorem dX7_tell_21 : decode prog_1_method_43_code 21 = .ok (.iastore, 1) := by decide +kernel
theorem dX7_tell_22 : decode prog_1_method_43_code 22 = .ok (.aload_n 0, 1) := by decide +kernel
theorem dX7_tell_23 : decode prog_1_method_43_code 23 = .ok (.dup, 1) := by decide +kernel
theorem dX7_tell_24 : decode prog_1_method_43_code 24 = .ok (.getfield 314, 3) := by decide +kernel
theorem dX7_tell_27 : decode prog_1_method_43_code 27 = .ok (.iconst 1, 1) := by decide +kernel
theorem dX7_tell_28 : decode prog_1_method_43_code 28 = .ok (.iadd, 1) := by decide +kernel
theorem dX7_tell_29 : decode prog_1_method_43_code 29 = .ok (.putfield 314, 3) := by decide +kernel
theorem dX7_tell_32 : decode prog_1_method_43_code 32 = .ok (.aload_n 0, 1) := by decide +kernel
theorem dX7_tell_33 : decode prog_1_method_43_code 33 = .ok (.getfield 314, 3) := by decide +kernel
theorem dX7_tell_36 : decode prog_1_method_43_code 36 = .ok (.ireturn, 1) := by decide +kernel
theorem dX7_waitsAt_0 : decode prog_1_method_45_code 0 = .ok (.iload_n 1, 1) := by decide +kernel
theorem dX7_waitsAt_1 : decode prog_1_method_45_code 1 = .ok (.iconst 0, 1) := by decide +kernel
theorem dX7_waitsAt_2 : decode prog_1_method_45_code 2 = .ok (.iload_n 2, 1) := by decide +kernel
theorem dX7_waitsAt_3 : decode prog_1_method_45_code 3 = .ok (.iconst 1, 1) := by decide +kernel
theorem dX7_waitsAt_4 : decode prog_1_method_45_code 4 = .ok (.isub, 1) := by decide +kernel
theorem dX7_waitsAt_5 : decode prog_1_method_45_code 5 = .ok (.invokestatic 47, 3) := by decide +kernel
theorem dX7_waitsAt_8 : decode prog_1_method_45_code 8 = .ok (.ifCond .eq 17, 3) := by decide +kernel
theorem dX7_waitsAt_11 : decode prog_1_method_45_code 11 = .ok (.aload_n 0, 1) := by decide +kernel
theorem dX7_waitsAt_12 : decode prog_1_method_45_code 12 = .ok (.getfield 41, 3) := by decide +kernel
theorem dX7_waitsAt_15 : decode prog_1_method_45_code 15 = .ok (.iload_n 1, 1) := by decide +kernel
theorem dX7_waitsAt_16 : decode prog_1_method_45_code 16 = .ok (.iaload, 1) := by decide +kernel
theorem dX7_waitsAt_17 : decode prog_1_method_45_code 17 = .ok (.iload_n 3, 1) := by decide +kernel
theorem dX7_waitsAt_18 : decode prog_1_method_45_code 18 = .ok (.if_icmp .ne 7, 3) := by decide +kernel
theorem dX7_waitsAt_21 : decode prog_1_method_45_code 21 = .ok (.iconst 1, 1) := by decide +kernel
theorem dX7_waitsAt_22 : decode prog_1_method_45_code 22 = .ok (.goto 4, 3) := by decide +kernel
theorem dX7_waitsAt_25 : decode prog_1_method_45_code 25 = .ok (.iconst 0, 1) := by decide +kernel
theorem dX7_waitsAt_26 : decode prog_1_method_45_code 26 = .ok (.ireturn, 1) := by decide +kernel
theorem dX7_check_0 : decode prog_1_method_44_code 0 = .ok (.aload_n 0, 1) := by decide +kernel
theorem dX7_check_1 : decode prog_1_method_44_code 1 = .ok (.getfield 314, 3) := by decide +kernel
theorem dX7_check_4 : decode prog_1_method_44_code 4 = .ok (.istore_n 2, 1) := by decide +kernel
theorem dX7_check_5 : decode prog_1_method_44_code 5 = .ok (.aload_n 0, 1) := by decide +kernel
theorem dX7_check_6 : decode prog_1_method_44_code 6 = .ok (.iconst 0, 1) := by decide +kernel
theorem dX7_check_7 : decode prog_1_method_44_code 7 = .ok (.putfield 314, 3) := by decide +kernel
theorem dX7_check_10 : decode prog_1_method_44_code 10 = .ok (.iload_n 1, 1) := by decide +kernel
theorem dX7_check_11 : decode prog_1_method_44_code 11 = .ok (.iconst 1, 1) := by decide +kernel
theorem dX7_check_12 : decode prog_1_method_44_code 12 = .ok (.bipush 30, 2) := by decide +kernel
theorem dX7_check_14 : decode prog_1_method_44_code 14 = .ok (.invokestatic 47, 3) := by decide +kernel
theorem dX7_check_17 : decode prog_1_method_44_code 17 = .ok (.ifCond .ne 6, 3) := by decide +kernel
theorem dX7_check_20 : decode prog_1_method_44_code 20 = .ok (.ldc 51, 2) := by decide +kernel
theorem dX7_check_22 : decode prog_1_method_44_code 22 = .ok (.ireturn, 1) := by decide +kernel
theorem dX7_check_23 : decode prog_1_method_44_code 23 = .ok (.aload_n 0, 1) := by decide +kernel
theorem dX7_check_24 : decode prog_1_method_44_code 24 = .ok (.getfield 317, 3) := by decide +kernel
theorem dX7_check_27 : decode prog_1_method_44_code 27 = .ok (.ifCond .ne 6, 3) := by decide +kernel
theorem dX7_check_30 : decode prog_1_method_44_code 30 = .ok (.ldc 176, 2) := by decide +kernel
theorem dX7_check_32 : decode prog_1_method_44_code 32 = .ok (.ireturn, 1) := by decide +kernel
theorem dX7_check_33 : decode prog_1_method_44_code 33 = .ok (.aload_n 0, 1) := by decide +kernel
theorem dX7_check_34 : decode prog_1_method_44_code 34 = .ok (.getfield 16, 3) := by decide +kernel
theorem dX7_check_37 : decode prog_1_method_44_code 37 = .ok (.aload_n 0, 1) := by decide +kernel
theorem dX7_check_38 : decode prog_1_method_44_code 38 = .ok (.getfield 19, 3) := by decide +kernel
theorem dX7_check_41 : decode prog_1_method_44_code 41 = .ok (.invokevirtual 180, 3) := by decide +kernel
theorem dX7_check_44 : decode prog_1_method_44_code 44 = .ok (.iload_n 1, 1) := by decide +kernel
theorem dX7_check_45 : decode prog_1_method_44_code 45 = .ok (.sipush 9999, 3) := by decide +kernel
theorem dX7_check_48 : decode prog_1_method_44_code 48 = .ok (.aload_n 0, 1) := by decide +kernel
theorem dX7_check_49 : decode prog_1_method_44_code 49 = .ok (.getfield 16, 3) := by decide +kernel
theorem dX7_check_52 : decode prog_1_method_44_code 52 = .ok (.getfield 163, 3) := by decide +kernel
theorem dX7_check_55 : decode prog_1_method_44_code 55 = .ok (.isub, 1) := by decide +kernel
theorem dX7_check_56 : decode prog_1_method_44_code 56 = .ok (.invokestatic 142, 3) := by decide +kernel
theorem dX7_check_59 : decode prog_1_method_44_code 59 = .ok (.istore_n 3, 1) := by decide +kernel
theorem dX7_check_60 : decode prog_1_method_44_code 60 = .ok (.iconst 0, 1) := by decide +kernel
theorem dX7_check_61 : decode prog_1_method_44_code 61 = .ok (.istore 4, 2) := by decide +kernel
theorem dX7_check_63 : decode prog_1_method_44_code 63 = .ok (.iload 4, 2) := by decide +kernel
theorem dX7_check_65 : decode prog_1_method_44_code 65 = .ok (.iload_n 3, 1) := by decide +kernel
theorem dX7_check_66 : decode prog_1_method_44_code 66 = .ok (.if_icmp .ge 67, 3) := by decide +kernel
theorem dX7_check_69 : decode prog_1_method_44_code 69 = .ok (.aload_n 0, 1) := by decide +kernel
theorem dX7_check_70 : decode prog_1_method_44_code 70 = .ok (.getfield 16, 3) := by decide +kernel
theorem dX7_check_73 : decode prog_1_method_44_code 73 = .ok (.invokevirtual 166, 3) := by decide +kernel
theorem dX7_check_76 : decode prog_1_method_44_code 76 = .ok (.istore 5, 2) := by decide +kernel
theorem dX7_check_78 : decode prog_1_method_44_code 78 = .ok (.aload_n 0, 1) := by decide +kernel
theorem dX7_check_79 : decode prog_1_method_44_code 79 = .ok (.iconst 2, 1) := by decide +kernel
theorem dX7_check_80 : decode prog_1_method_44_code 80 = .ok (.iload 4, 2) := by decide +kernel
theorem dX7_check_82 : decode prog_1_method_44_code 82 = .ok (.imul, 1) := by decide +kernel
theorem dX7_check_83 : decode prog_1_method_44_code 83 = .ok (.iload_n 2, 1) := by decide +kernel
theorem dX7_check_84 : decode prog_1_method_44_code 84 = .ok (.iload 5, 2) := by decide +kernel
theorem dX7_check_86 : decode prog_1_method_44_code 86 = .ok (.invokevirtual 321, 3) := by decide +kernel
theorem dX7_check_89 : decode prog_1_method_44_code 89 = .ok (.ifCond .ne 10, 3) := by decide +kernel
theorem dX7_check_92 : decode prog_1_method_44_code 92 = .ok (.iconst 1, 1) := by decide +kernel
theorem dX7_check_93 : decode prog_1_method_44_code 93 = .ok (.iconst 2, 1) := by decide +kernel
theorem dX7_check_94 : decode prog_1_method_44_code 94 = .ok (.iload 4, 2) := by decide +kernel
theorem dX7_check_96 : decode prog_1_method_44_code 96 = .ok (.imul, 1) := by decide +kernel
theorem dX7_check_97 : decode prog_1_method_44_code 97 = .ok (.iadd, 1) := by decide +kernel
theorem dX7_check_98 : decode prog_1_method_44_code 98 = .ok (.ireturn, 1) := by decide +kernel
theorem dX7_check_99 : decode prog_1_method_44_code 99 = .ok (.aload_n 0, 1) := by decide +kernel
theorem dX7_check_100 : decode prog_1_method_44_code 100 = .ok (.iconst 2, 1) := by decide +kernel
theorem dX7_check_101 : decode prog_1_method_44_code 101 = .ok (.iload 4, 2) := by decide +kernel
theorem dX7_check_103 : decode prog_1_method_44_code 103 = .ok (.imul, 1) := by decide +kernel
theorem dX7_check_104 : decode prog_1_method_44_code 104 = .ok (.iconst 1, 1) := by decide +kernel
theorem dX7_check_105 : decode prog_1_method_44_code 105 = .ok (.iadd, 1) := by decide +kernel
theorem dX7_check_106 : decode prog_1_method_44_code 106 = .ok (.iload_n 2, 1) := by decide +kernel
theorem dX7_check_107 : decode prog_1_method_44_code 107 = .ok (.aload_n 0, 1) := by decide +kernel
theorem dX7_check_108 : decode prog_1_method_44_code 108 = .ok (.getfield 16, 3) := by decide +kernel
theorem dX7_check_111 : decode prog_1_method_44_code 111 = .ok (.invokevirtual 187, 3) := by decide +kernel
theorem dX7_check_114 : decode prog_1_method_44_code 114 = .ok (.invokevirtual 321, 3) := by decide +kernel
theorem dX7_check_117 : decode prog_1_method_44_code 117 = .ok (.ifCond .ne 10, 3) := by decide +kernel
theorem dX7_check_120 : decode prog_1_method_44_code 120 = .ok (.iconst 2, 1) := by decide +kernel
theorem dX7_check_121 : decode prog_1_method_44_code 121 = .ok (.iconst 2, 1) := by decide +kernel
theorem dX7_check_122 : decode prog_1_method_44_code 122 = .ok (.iload 4, 2) := by decide +kernel
theorem dX7_check_124 : decode prog_1_method_44_code 124 = .ok (.imul, 1) := by decide +kernel
theorem dX7_check_125 : decode prog_1_method_44_code 125 = .ok (.iadd, 1) := by decide +kernel
theorem dX7_check_126 : decode prog_1_method_44_code 126 = .ok (.ireturn, 1) := by decide +kernel
theorem dX7_check_127 : decode prog_1_method_44_code 127 = .ok (.iinc 4 1, 3) := by decide +kernel
theorem dX7_check_130 : decode prog_1_method_44_code 130 = .ok (.goto (-67), 3) := by decide +kernel
theorem dX7_check_133 : decode prog_1_method_44_code 133 = .ok (.iload_n 2, 1) := by decide +kernel
theorem dX7_check_134 : decode prog_1_method_44_code 134 = .ok (.iconst 2, 1) := by decide +kernel
theorem dX7_check_135 : decode prog_1_method_44_code 135 = .ok (.iload_n 3, 1) := by decide +kernel
theorem dX7_check_136 : decode prog_1_method_44_code 136 = .ok (.imul, 1) := by decide +kernel
theorem dX7_check_137 : decode prog_1_method_44_code 137 = .ok (.if_icmp .le 11, 3) := by decide +kernel
theorem dX7_check_140 : decode prog_1_method_44_code 140 = .ok (.iconst 1, 1) := by decide +kernel
theorem dX7_check_141 : decode prog_1_method_44_code 141 = .ok (.iconst 2, 1) := by decide +kernel
theorem dX7_check_142 : decode prog_1_method_44_code 142 = .ok (.iload_n 3, 1) := by decide +kernel
theorem dX7_check_143 : decode prog_1_method_44_code 143 = .ok (.imul, 1) := by decide +kernel
theorem dX7_check_144 : decode prog_1_method_44_code 144 = .ok (.iadd, 1) := by decide +kernel
theorem dX7_check_145 : decode prog_1_method_44_code 145 = .ok (.goto 4, 3) := by decide +kernel
theorem dX7_check_148 : decode prog_1_method_44_code 148 = .ok (.iconst 0, 1) := by decide +kernel
theorem dX7_check_149 : decode prog_1_method_44_code 149 = .ok (.ireturn, 1) := by decide +kernel
theorem dX7_keep_0 : decode prog_1_method_46_code 0 = .ok (.aload_n 0, 1) := by decide +kernel
theorem dX7_keep_1 : decode prog_1_method_46_code 1 = .ok (.getfield 19, 3) := by decide +kernel
theorem dX7_keep_4 : decode prog_1_method_46_code 4 = .ok (.aload_n 0, 1) := by decide +kernel
theorem dX7_keep_5 : decode prog_1_method_46_code 5 = .ok (.getfield 10, 3) := by decide +kernel
theorem dX7_keep_8 : decode prog_1_method_46_code 8 = .ok (.invokevirtual 180, 3) := by decide +kernel
theorem dX7_keep_11 : decode prog_1_method_46_code 11 = .ok (.aload_n 0, 1) := by decide +kernel
theorem dX7_keep_12 : decode prog_1_method_46_code 12 = .ok (.iconst 1, 1) := by decide +kernel
theorem dX7_keep_13 : decode prog_1_method_46_code 13 = .ok (.putfield 317, 3) := by decide +kernel
theorem dX7_keep_16 : decode prog_1_method_46_code 16 = .ok (.aload_n 0, 1) := by decide +kernel
theorem dX7_keep_17 : decode prog_1_method_46_code 17 = .ok (.getfield 10, 3) := by decide +kernel
theorem dX7_keep_20 : decode prog_1_method_46_code 20 = .ok (.getfield 52, 3) := by decide +kernel
theorem dX7_keep_23 : decode prog_1_method_46_code 23 = .ok (.ireturn, 1) := by decide +kernel
theorem dX7_back_0 : decode prog_1_method_47_code 0 = .ok (.aload_n 0, 1) := by decide +kernel
theorem dX7_back_1 : decode prog_1_method_47_code 1 = .ok (.getfield 317, 3) := by decide +kernel
theorem dX7_back_4 : decode prog_1_method_47_code 4 = .ok (.ifCond .ne 6, 3) := by decide +kernel
theorem dX7_back_7 : decode prog_1_method_47_code 7 = .ok (.ldc 176, 2) := by decide +kernel
theorem dX7_back_9 : decode prog_1_method_47_code 9 = .ok (.ireturn, 1) := by decide +kernel
theorem dX7_back_10 : decode prog_1_method_47_code 10 = .ok (.aload_n 0, 1) := by decide +kernel
theorem dX7_back_11 : decode prog_1_method_47_code 11 = .ok (.getfield 10, 3) := by decide +kernel
theorem dX7_back_14 : decode prog_1_method_47_code 14 = .ok (.aload_n 0, 1) := by decide +kernel
theorem dX7_back_15 : decode prog_1_method_47_code 15 = .ok (.getfield 19, 3) := by decide +kernel
theorem dX7_back_18 : decode prog_1_method_47_code 18 = .ok (.invokevirtual 180, 3) := by decide +kernel
theorem dX7_back_21 : decode prog_1_method_47_code 21 = .ok (.aload_n 0, 1) := by decide +kernel
theorem dX7_back_22 : decode prog_1_method_47_code 22 = .ok (.getfield 10, 3) := by decide +kernel
theorem dX7_back_25 : decode prog_1_method_47_code 25 = .ok (.getfield 52, 3) := by decide +kernel
theorem dX7_back_28 : decode prog_1_method_47_code 28 = .ok (.ireturn, 1) := by decide +kernel
theorem dX7_count_0 : decode prog_1_method_48_code 0 = .ok (.iload_n 1, 1) := by decide +kernel
theorem dX7_count_1 : decode prog_1_method_48_code 1 = .ok (.tableswitch 204 0 15 #[79, 87, 95, 103, 111, 119, 127, 135, 143, 151, 159, 167, 175, 183, 188, 196], 79) := by decide +kernel
theorem dX7_count_80 : decode prog_1_method_48_code 80 = .ok (.aload_n 0, 1) := by decide +kernel
theorem dX7_count_81 : decode prog_1_method_48_code 81 = .ok (.getfield 10, 3) := by decide +kernel
theorem dX7_count_84 : decode prog_1_method_48_code 84 = .ok (.getfield 52, 3) := by decide +kernel
theorem dX7_count_87 : decode prog_1_method_48_code 87 = .ok (.ireturn, 1) := by decide +kernel
theorem dX7_count_88 : decode prog_1_method_48_code 88 = .ok (.aload_n 0, 1) := by decide +kernel
theorem dX7_count_89 : decode prog_1_method_48_code 89 = .ok (.getfield 10, 3) := by decide +kernel
theorem dX7_count_92 : decode prog_1_method_48_code 92 = .ok (.invokevirtual 173, 3) := by decide +kernel
theorem dX7_count_95 : decode prog_1_method_48_code 95 = .ok (.ireturn, 1) := by decide +kernel
theorem dX7_count_96 : decode prog_1_method_48_code 96 = .ok (.aload_n 0, 1) := by decide +kernel
theorem dX7_count_97 : decode prog_1_method_48_code 97 = .ok (.getfield 10, 3) := by decide +kernel
theorem dX7_count_100 : decode prog_1_method_48_code 100 = .ok (.getfield 105, 3) := by decide +kernel
theorem dX7_count_103 : decode prog_1_method_48_code 103 = .ok (.ireturn, 1) := by decide +kernel
theorem dX7_count_104 : decode prog_1_method_48_code 104 = .ok (.aload_n 0, 1) := by decide +kernel
theorem dX7_count_105 : decode prog_1_method_48_code 105 = .ok (.getfield 10, 3) := by decide +kernel
theorem dX7_count_108 : decode prog_1_method_48_code 108 = .ok (.getfield 87, 3) := by decide +kernel
theorem dX7_count_111 : decode prog_1_method_48_code 111 = .ok (.ireturn, 1) := by decide +kernel
theorem dX7_count_112 : decode prog_1_method_48_code 112 = .ok (.aload_n 0, 1) := by decide +kernel
theorem dX7_count_113 : decode prog_1_method_48_code 113 = .ok (.getfield 10, 3) := by decide +kernel
theorem dX7_count_116 : decode prog_1_method_48_code 116 = .ok (.getfield 163, 3) := by decide +kernel
theorem dX7_count_119 : decode prog_1_method_48_code 119 = .ok (.ireturn, 1) := by decide +kernel
theorem dX7_count_120 : decode prog_1_method_48_code 120 = .ok (.aload_n 0, 1) := by decide +kernel
theorem dX7_count_121 : decode prog_1_method_48_code 121 = .ok (.getfield 10, 3) := by decide +kernel
theorem dX7_count_124 : decode prog_1_method_48_code 124 = .ok (.getfield 99, 3) := by decide +kernel
theorem dX7_count_127 : decode prog_1_method_48_code 127 = .ok (.ireturn, 1) := by decide +kernel
theorem dX7_count_128 : decode prog_1_method_48_code 128 = .ok (.aload_n 0, 1) := by decide +kernel
theorem dX7_count_129 : decode prog_1_method_48_code 129 = .ok (.getfield 10, 3) := by decide +kernel
theorem dX7_count_132 : decode prog_1_method_48_code 132 = .ok (.getfield 96, 3) := by decide +kernel
theorem dX7_count_135 : decode prog_1_method_48_code 135 = .ok (.ireturn, 1) := by decide +kernel
theorem dX7_count_136 : decode prog_1_method_48_code 136 = .ok (.aload_n 0, 1) := by decide +kernel
theorem dX7_count_137 : decode prog_1_method_48_code 137 = .ok (.getfield 10, 3) := by decide +kernel
theorem dX7_count_140 : decode prog_1_method_48_code 140 = .ok (.getfield 93, 3) := by decide +kernel
theorem dX7_count_143 : decode prog_1_method_48_code 143 = .ok (.ireturn, 1) := by decide +kernel
theorem dX7_count_144 : decode prog_1_method_48_code 144 = .ok (.aload_n 0, 1) := by decide +kernel
theorem dX7_count_145 : decode prog_1_method_48_code 145 = .ok (.getfield 10, 3) := by decide +kernel
theorem dX7_count_148 : decode prog_1_method_48_code 148 = .ok (.getfield 193, 3) := by decide +kernel
theorem dX7_count_151 : decode prog_1_method_48_code 151 = .ok (.ireturn, 1) := by decide +kernel
theorem dX7_count_152 : decode prog_1_method_48_code 152 = .ok (.aload_n 0, 1) := by decide +kernel
theorem dX7_count_153 : decode prog_1_method_48_code 153 = .ok (.getfield 10, 3) := by decide +kernel
theorem dX7_count_156 : decode prog_1_method_48_code 156 = .ok (.getfield 196, 3) := by decide +kernel
theorem dX7_count_159 : decode prog_1_method_48_code 159 = .ok (.ireturn, 1) := by decide +kernel
theorem dX7_count_160 : decode prog_1_method_48_code 160 = .ok (.aload_n 0, 1) := by decide +kernel
theorem dX7_count_161 : decode prog_1_method_48_code 161 = .ok (.getfield 10, 3) := by decide +kernel
theorem dX7_count_164 : decode prog_1_method_48_code 164 = .ok (.getfield 199, 3) := by decide +kernel
theorem dX7_count_167 : decode prog_1_method_48_code 167 = .ok (.ireturn, 1) := by decide +kernel
theorem dX7_count_168 : decode prog_1_method_48_code 168 = .ok (.aload_n 0, 1) := by decide +kernel
theorem dX7_count_169 : decode prog_1_method_48_code 169 = .ok (.getfield 10, 3) := by decide +kernel
theorem dX7_count_172 : decode prog_1_method_48_code 172 = .ok (.invokevirtual 187, 3) := by decide +kernel
theorem dX7_count_175 : decode prog_1_method_48_code 175 = .ok (.ireturn, 1) := by decide +kernel
theorem dX7_count_176 : decode prog_1_method_48_code 176 = .ok (.aload_n 0, 1) := by decide +kernel
theorem dX7_count_177 : decode prog_1_method_48_code 177 = .ok (.getfield 10, 3) := by decide +kernel
theorem dX7_count_180 : decode prog_1_method_48_code 180 = .ok (.getfield 240, 3) := by decide +kernel
theorem dX7_count_183 : decode prog_1_method_48_code 183 = .ok (.ireturn, 1) := by decide +kernel
theorem dX7_count_184 : decode prog_1_method_48_code 184 = .ok (.aload_n 0, 1) := by decide +kernel
theorem dX7_count_185 : decode prog_1_method_48_code 185 = .ok (.getfield 314, 3) := by decide +kernel
theorem dX7_count_188 : decode prog_1_method_48_code 188 = .ok (.ireturn, 1) := by decide +kernel
theorem dX7_count_189 : decode prog_1_method_48_code 189 = .ok (.aload_n 0, 1) := by decide +kernel
theorem dX7_count_190 : decode prog_1_method_48_code 190 = .ok (.getfield 25, 3) := by decide +kernel
theorem dX7_count_193 : decode prog_1_method_48_code 193 = .ok (.getfield 233, 3) := by decide +kernel
theorem dX7_count_196 : decode prog_1_method_48_code 196 = .ok (.ireturn, 1) := by decide +kernel
theorem dX7_count_197 : decode prog_1_method_48_code 197 = .ok (.aload_n 0, 1) := by decide +kernel
theorem dX7_count_198 : decode prog_1_method_48_code 198 = .ok (.getfield 10, 3) := by decide +kernel
theorem dX7_count_201 : decode prog_1_method_48_code 201 = .ok (.getfield 154, 3) := by decide +kernel
theorem dX7_count_204 : decode prog_1_method_48_code 204 = .ok (.ireturn, 1) := by decide +kernel
theorem dX7_count_205 : decode prog_1_method_48_code 205 = .ok (.ldc 51, 2) := by decide +kernel
theorem dX7_count_207 : decode prog_1_method_48_code 207 = .ok (.ireturn, 1) := by decide +kernel
theorem dX8_isIn_0 : decode prog_10_method_2_code 0 = .ok (.lload_n 0, 1) := by decide +kernel
theorem dX8_isIn_1 : decode prog_10_method_2_code 1 = .ok (.lload_n 2, 1) := by decide +kernel
theorem dX8_isIn_2 : decode prog_10_method_2_code 2 = .ok (.lcmp, 1) := by decide +kernel
theorem dX8_isIn_3 : decode prog_10_method_2_code 3 = .ok (.ifCond .lt 14, 3) := by decide +kernel
theorem dX8_isIn_6 : decode prog_10_method_2_code 6 = .ok (.lload_n 0, 1) := by decide +kernel
theorem dX8_isIn_7 : decode prog_10_method_2_code 7 = .ok (.lload 4, 2) := by decide +kernel
theorem dX8_isIn_9 : decode prog_10_method_2_code 9 = .ok (.lcmp, 1) := by decide +kernel
theorem dX8_isIn_10 : decode prog_10_method_2_code 10 = .ok (.ifCond .gt 7, 3) := by decide +kernel
theorem dX8_isIn_13 : decode prog_10_method_2_code 13 = .ok (.iconst 1, 1) := by decide +kernel
theorem dX8_isIn_14 : decode prog_10_method_2_code 14 = .ok (.goto 4, 3) := by decide +kernel
theorem dX8_isIn_17 : decode prog_10_method_2_code 17 = .ok (.iconst 0, 1) := by decide +kernel
theorem dX8_isIn_18 : decode prog_10_method_2_code 18 = .ok (.ireturn, 1) := by decide +kernel
theorem dX8_child_0 : decode prog_10_method_13_code 0 = .ok (.iload_n 1, 1) := by decide +kernel
theorem dX8_child_1 : decode prog_10_method_13_code 1 = .ok (.i2l, 1) := by decide +kernel
theorem dX8_child_2 : decode prog_10_method_13_code 2 = .ok (.lconst 1, 1) := by decide +kernel
theorem dX8_child_3 : decode prog_10_method_13_code 3 = .ok (.ldc2_w 70, 3) := by decide +kernel
theorem dX8_child_6 : decode prog_10_method_13_code 6 = .ok (.invokestatic 65, 3) := by decide +kernel
theorem dX8_child_9 : decode prog_10_method_13_code 9 = .ok (.ifCond .ne 6, 3) := by decide +kernel
theorem dX8_child_12 : decode prog_10_method_13_code 12 = .ok (.ldc 72, 2) := by decide +kernel
theorem dX8_child_14 : decode prog_10_method_13_code 14 = .ok (.ireturn, 1) := by decide +kernel
theorem dX8_child_15 : decode prog_10_method_13_code 15 = .ok (.aload_n 0, 1) := by decide +kernel
theorem dX8_child_16 : decode prog_10_method_13_code 16 = .ok (.getfield 7, 3) := by decide +kernel
theorem dX8_child_19 : decode prog_10_method_13_code 19 = .ok (.iconst 0, 1) := by decide +kernel
theorem dX8_child_20 : decode prog_10_method_13_code 20 = .ok (.iaload, 1) := by decide +kernel
theorem dX8_child_21 : decode prog_10_method_13_code 21 = .ok (.bipush 10, 2) := by decide +kernel
theorem dX8_child_23 : decode prog_10_method_13_code 23 = .ok (.if_icmp .ne 6, 3) := by decide +kernel
theorem dX8_child_26 : decode prog_10_method_13_code 26 = .ok (.ldc 73, 2) := by decide +kernel
theorem dX8_child_28 : decode prog_10_method_13_code 28 = .ok (.ireturn, 1) := by decide +kernel
theorem dX8_child_29 : decode prog_10_method_13_code 29 = .ok (.bipush 12, 2) := by decide +kernel
theorem dX8_child_31 : decode prog_10_method_13_code 31 = .ok (.iconst 3, 1) := by decide +kernel
theorem dX8_child_32 : decode prog_10_method_13_code 32 = .ok (.aload_n 0, 1) := by decide +kernel
theorem dX8_child_33 : decode prog_10_method_13_code 33 = .ok (.getfield 7, 3) := by decide +kernel
theorem dX8_child_36 : decode prog_10_method_13_code 36 = .ok (.iconst 0, 1) := by decide +kernel
theorem dX8_child_37 : decode prog_10_method_13_code 37 = .ok (.iaload, 1) := by decide +kernel
theorem dX8_child_38 : decode prog_10_method_13_code 38 = .ok (.imul, 1) := by decide +kernel
theorem dX8_child_39 : decode prog_10_method_13_code 39 = .ok (.iadd, 1) := by decide +kernel
theorem dX8_child_40 : decode prog_10_method_13_code 40 = .ok (.istore_n 2, 1) := by decide +kernel
theorem dX8_child_41 : decode prog_10_method_13_code 41 = .ok (.aload_n 0, 1) := by decide +kernel
theorem dX8_child_42 : decode prog_10_method_13_code 42 = .ok (.getfield 7, 3) := by decide +kernel
theorem dX8_child_45 : decode prog_10_method_13_code 45 = .ok (.iload_n 2, 1) := by decide +kernel
theorem dX8_child_46 : decode prog_10_method_13_code 46 = .ok (.iload_n 1, 1) := by decide +kernel
theorem dX8_child_47 : decode prog_10_method_13_code 47 = .ok (.iastore, 1) := by decide +kernel
theorem dX8_child_48 : decode prog_10_method_13_code 48 = .ok (.aload_n 0, 1) := by decide +kernel
theorem dX8_child_49 : decode prog_10_method_13_code 49 = .ok (.getfield 7, 3) := by decide +kernel
theorem dX8_child_52 : decode prog_10_method_13_code 52 = .ok (.iload_n 2, 1) := by decide +kernel
theorem dX8_child_53 : decode prog_10_method_13_code 53 = .ok (.iconst 1, 1) := by decide +kernel
theorem dX8_child_54 : decode prog_10_method_13_code 54 = .ok (.iadd, 1) := by decide +kernel
theorem dX8_child_55 : decode prog_10_method_13_code 55 = .ok (.iconst 0, 1) := by decide +kernel
theorem dX8_child_56 : decode prog_10_method_13_code 56 = .ok (.iastore, 1) := by decide +kernel
theorem dX8_child_57 : decode prog_10_method_13_code 57 = .ok (.aload_n 0, 1) := by decide +kernel
theorem dX8_child_58 : decode prog_10_method_13_code 58 = .ok (.getfield 7, 3) := by decide +kernel
theorem dX8_child_61 : decode prog_10_method_13_code 61 = .ok (.iload_n 2, 1) := by decide +kernel
theorem dX8_child_62 : decode prog_10_method_13_code 62 = .ok (.iconst 2, 1) := by decide +kernel
theorem dX8_child_63 : decode prog_10_method_13_code 63 = .ok (.iadd, 1) := by decide +kernel
theorem dX8_child_64 : decode prog_10_method_13_code 64 = .ok (.iconst 0, 1) := by decide +kernel
theorem dX8_child_65 : decode prog_10_method_13_code 65 = .ok (.iastore, 1) := by decide +kernel
theorem dX8_child_66 : decode prog_10_method_13_code 66 = .ok (.aload_n 0, 1) := by decide +kernel
theorem dX8_child_67 : decode prog_10_method_13_code 67 = .ok (.getfield 7, 3) := by decide +kernel
theorem dX8_child_70 : decode prog_10_method_13_code 70 = .ok (.iconst 0, 1) := by decide +kernel
theorem dX8_child_71 : decode prog_10_method_13_code 71 = .ok (.dup2, 1) := by decide +kernel
theorem dX8_child_72 : decode prog_10_method_13_code 72 = .ok (.iaload, 1) := by decide +kernel
theorem dX8_child_73 : decode prog_10_method_13_code 73 = .ok (.iconst 1, 1) := by decide +kernel
theorem dX8_child_74 : decode prog_10_method_13_code 74 = .ok (.iadd, 1) := by decide +kernel
theorem dX8_child_75 : decode prog_10_method_13_code 75 = .ok (.iastore, 1) := by decide +kernel
theorem dX8_child_76 : decode prog_10_method_13_code 76 = .ok (.aload_n 0, 1) := by decide +kernel
theorem dX8_child_77 : decode prog_10_method_13_code 77 = .ok (.getfield 7, 3) := by decide +kernel
theorem dX8_child_80 : decode prog_10_method_13_code 80 = .ok (.iconst 0, 1) := by decide +kernel
theorem dX8_child_81 : decode prog_10_method_13_code 81 = .ok (.iaload, 1) := by decide +kernel
theorem dX8_child_82 : decode prog_10_method_13_code 82 = .ok (.iconst 1, 1) := by decide +kernel
theorem dX8_child_83 : decode prog_10_method_13_code 83 = .ok (.isub, 1) := by decide +kernel
theorem dX8_child_84 : decode prog_10_method_13_code 84 = .ok (.ireturn, 1) := by decide +kernel
theorem dX8_textAt_0 : decode prog_10_method_6_code 0 = .ok (.bipush 92, 2) := by decide +kernel
theorem dX8_textAt_2 : decode prog_10_method_6_code 2 = .ok (.sipush 200, 3) := by decide +kernel
theorem dX8_textAt_5 : decode prog_10_method_6_code 5 = .ok (.iload_n 1, 1) := by decide +kernel
theorem dX8_textAt_6 : decode prog_10_method_6_code 6 = .ok (.imul, 1) := by decide +kernel
theorem dX8_textAt_7 : decode prog_10_method_6_code 7 = .ok (.iadd, 1) := by decide +kernel
theorem dX8_textAt_8 : decode prog_10_method_6_code 8 = .ok (.ireturn, 1) := by decide +kernel
theorem dX8_counts_0 : decode prog_10_method_79_code 0 = .ok (.iconst (-1), 1) := by decide +kernel
theorem dX8_counts_1 : decode prog_10_method_79_code 1 = .ok (.istore_n 2, 1) := by decide +kernel
theorem dX8_counts_2 : decode prog_10_method_79_code 2 = .ok (.iconst 0, 1) := by decide +kernel
theorem dX8_counts_3 : decode prog_10_method_79_code 3 = .ok (.istore_n 3, 1) := by decide +kernel
theorem dX8_counts_4 : decode prog_10_method_79_code 4 = .ok (.iload_n 3, 1) := by decide +kernel
theorem dX8_counts_5 : decode prog_10_method_79_code 5 = .ok (.aload_n 0, 1) := by decide +kernel
theorem dX8_counts_6 : decode prog_10_method_79_code 6 = .ok (.getfield 7, 3) := by decide +kernel
theorem dX8_counts_9 : decode prog_10_method_79_code 9 = .ok (.iconst 3, 1) := by decide +kernel
theorem dX8_counts_10 : decode prog_10_method_79_code 10 = .ok (.iaload, 1) := by decide +kernel
theorem dX8_counts_11 : decode prog_10_method_79_code 11 = .ok (.if_icmp .ge 29, 3) := by decide +kernel
theorem dX8_counts_14 : decode prog_10_method_79_code 14 = .ok (.aload_n 0, 1) := by decide +kernel
theorem dX8_counts_15 : decode prog_10_method_79_code 15 = .ok (.getfield 7, 3) := by decide +kernel
theorem dX8_counts_18 : decode prog_10_method_79_code 18 = .ok (.aload_n 0, 1) := by decide +kernel
theorem dX8_counts_19 : decode prog_10_method_79_code 19 = .ok (.iload_n 3, 1) := by decide +kernel
theorem dX8_counts_20 : decode prog_10_method_79_code 20 = .ok (.invokevirtual 278, 3) := by decide +kernel
theorem dX8_counts_23 : decode prog_10_method_79_code 23 = .ok (.iaload, 1) := by decide +kernel
theorem dX8_counts_24 : decode prog_10_method_79_code 24 = .ok (.iload_n 1, 1) := by decide +kernel
theorem dX8_counts_25 : decode prog_10_method_79_code 25 = .ok (.if_icmp .ne 7, 3) := by decide +kernel
theorem dX8_counts_28 : decode prog_10_method_79_code 28 = .ok (.iload_n 3, 1) := by decide +kernel
theorem dX8_counts_29 : decode prog_10_method_79_code 29 = .ok (.goto 4, 3) := by decide +kernel
theorem dX8_counts_32 : decode prog_10_method_79_code 32 = .ok (.iload_n 2, 1) := by decide +kernel
theorem dX8_counts_33 : decode prog_10_method_79_code 33 = .ok (.istore_n 2, 1) := by decide +kernel
theorem dX8_counts_34 : decode prog_10_method_79_code 34 = .ok (.iinc 3 1, 3) := by decide +kernel
theorem dX8_counts_37 : decode prog_10_method_79_code 37 = .ok (.goto (-33), 3) := by decide +kernel
theorem dX8_counts_40 : decode prog_10_method_79_code 40 = .ok (.iload_n 2, 1) := by decide +kernel
theorem dX8_counts_41 : decode prog_10_method_79_code 41 = .ok (.ireturn, 1) := by decide +kernel
theorem dX8_held_0 : decode prog_10_method_4_code 0 = .ok (.iload_n 0, 1) := by decide +kernel
theorem dX8_held_1 : decode prog_10_method_4_code 1 = .ok (.iload_n 1, 1) := by decide +kernel
theorem dX8_held_2 : decode prog_10_method_4_code 2 = .ok (.if_icmp .ge 7, 3) := by decide +kernel
theorem dX8_held_5 : decode prog_10_method_4_code 5 = .ok (.iload_n 1, 1) := by decide +kernel
theorem dX8_held_6 : decode prog_10_method_4_code 6 = .ok (.goto 13, 3) := by decide +kernel
theorem dX8_held_9 : decode prog_10_method_4_code 9 = .ok (.iload_n 0, 1) := by decide +kernel
theorem dX8_held_10 : decode prog_10_method_4_code 10 = .ok (.iload_n 2, 1) := by decide +kernel
theorem dX8_held_11 : decode prog_10_method_4_code 11 = .ok (.if_icmp .le 7, 3) := by decide +kernel
theorem dX8_held_14 : decode prog_10_method_4_code 14 = .ok (.iload_n 2, 1) := by decide +kernel
theorem dX8_held_15 : decode prog_10_method_4_code 15 = .ok (.goto 4, 3) := by decide +kernel
theorem dX8_held_18 : decode prog_10_method_4_code 18 = .ok (.iload_n 0, 1) := by decide +kernel
theorem dX8_held_19 : decode prog_10_method_4_code 19 = .ok (.ireturn, 1) := by decide +kernel
theorem dX8_own_0 : decode prog_10_method_7_code 0 = .ok (.aload_n 0, 1) := by decide +kernel
theorem dX8_own_1 : decode prog_10_method_7_code 1 = .ok (.getfield 7, 3) := by decide +kernel
theorem dX8_own_4 : decode prog_10_method_7_code 4 = .ok (.bipush 12, 2) := by decide +kernel
theorem dX8_own_6 : decode prog_10_method_7_code 6 = .ok (.iconst 3, 1) := by decide +kernel
theorem dX8_own_7 : decode prog_10_method_7_code 7 = .ok (.iload_n 1, 1) := by decide +kernel
theorem dX8_own_8 : decode prog_10_method_7_code 8 = .ok (.imul, 1) := by decide +kernel
theorem dX8_own_9 : decode prog_10_method_7_code 9 = .ok (.iadd, 1) := by decide +kernel
theorem dX8_own_10 : decode prog_10_method_7_code 10 = .ok (.iload_n 2, 1) := by decide +kernel
theorem dX8_own_11 : decode prog_10_method_7_code 11 = .ok (.iadd, 1) := by decide +kernel
theorem dX8_own_12 : decode prog_10_method_7_code 12 = .ok (.iaload, 1) := by decide +kernel
theorem dX8_own_13 : decode prog_10_method_7_code 13 = .ok (.ireturn, 1) := by decide +kernel
theorem dX8_sortNow_0 : decode prog_10_method_14_code 0 = .ok (.aload_n 0, 1) := by decide +kernel
theorem dX8_sortNow_1 : decode prog_10_method_14_code 1 = .ok (.getfield 7, 3) := by decide +kernel
theorem dX8_sortNow_4 : decode prog_10_method_14_code 4 = .ok (.iconst 4, 1) := by decide +kernel
theorem dX8_sortNow_5 : decode prog_10_method_14_code 5 = .ok (.iaload, 1) := by decide +kernel
theorem dX8_sortNow_6 : decode prog_10_method_14_code 6 = .ok (.aload_n 0, 1) := by decide +kernel
theorem dX8_sortNow_7 : decode prog_10_method_14_code 7 = .ok (.getfield 7, 3) := by decide +kernel
theorem dX8_sortNow_10 : decode prog_10_method_14_code 10 = .ok (.iconst 2, 1) := by decide +kernel
theorem dX8_sortNow_11 : decode prog_10_method_14_code 11 = .ok (.iaload, 1) := by decide +kernel
theorem dX8_sortNow_12 : decode prog_10_method_14_code 12 = .ok (.if_icmp .ge 20, 3) := by decide +kernel
theorem dX8_sortNow_15 : decode prog_10_method_14_code 15 = .ok (.aload_n 0, 1) := by decide +kernel
theorem dX8_sortNow_16 : decode prog_10_method_14_code 16 = .ok (.getfield 7, 3) := by decide +kernel
theorem dX8_sortNow_19 : decode prog_10_method_14_code 19 = .ok (.bipush 72, 2) := by decide +kernel
theorem dX8_sortNow_21 : decode prog_10_method_14_code 21 = .ok (.aload_n 0, 1) := by decide +kernel
theorem dX8_sortNow_22 : decode prog_10_method_14_code 22 = .ok (.getfield 7, 3) := by decide +kernel
theorem dX8_sortNow_25 : decode prog_10_method_14_code 25 = .ok (.iconst 4, 1) := by decide +kernel
theorem dX8_sortNow_26 : decode prog_10_method_14_code 26 = .ok (.iaload, 1) := by decide +kernel
theorem dX8_sortNow_27 : decode prog_10_method_14_code 27 = .ok (.iadd, 1) := by decide +kernel
theorem dX8_sortNow_28 : decode prog_10_method_14_code 28 = .ok (.iaload, 1) := by decide +kernel
theorem dX8_sortNow_29 : decode prog_10_method_14_code 29 = .ok (.goto 4, 3) := by decide +kernel
theorem dX8_sortNow_32 : decode prog_10_method_14_code 32 = .ok (.iconst 0, 1) := by decide +kernel
theorem dX8_sortNow_33 : decode prog_10_method_14_code 33 = .ok (.ireturn, 1) := by decide +kernel
theorem dX8_joined_0 : decode prog_10_method_81_code 0 = .ok (.iload_n 0, 1) := by decide +kernel
theorem dX8_joined_1 : decode prog_10_method_81_code 1 = .ok (.tableswitch 196 38 62 #[182, 196, 196, 196, 123, 115, 196, 119, 196, 127, 196, 196, 196, 196, 196, 196, 196, 196, 196, 196, 196, 196, 149, 171, 160], 115) := by decide +kernel
theorem dX8_joined_116 : decode prog_10_method_81_code 116 = .ok (.iload_n 1, 1) := by decide +kernel
theorem dX8_joined_117 : decode prog_10_method_81_code 117 = .ok (.iload_n 2, 1) := by decide +kernel
theorem dX8_joined_118 : decode prog_10_method_81_code 118 = .ok (.iadd, 1) := by decide +kernel
theorem dX8_joined_119 : decode prog_10_method_81_code 119 = .ok (.ireturn, 1) := by decide +kernel
theorem dX8_joined_120 : decode prog_10_method_81_code 120 = .ok (.iload_n 1, 1) := by decide +kernel
theorem dX8_joined_121 : decode prog_10_method_81_code 121 = .ok (.iload_n 2, 1) := by decide +kernel
theorem dX8_joined_122 : decode prog_10_method_81_code 122 = .ok (.isub, 1) := by decide +kernel
theorem dX8_joined_123 : decode prog_10_method_81_code 123 = .ok (.ireturn, 1) := by decide +kernel
theorem dX8_joined_124 : decode prog_10_method_81_code 124 = .ok (.iload_n 1, 1) := by decide +kernel
theorem dX8_joined_125 : decode prog_10_method_81_code 125 = .ok (.iload_n 2, 1) := by decide +kernel
theorem dX8_joined_126 : decode prog_10_method_81_code 126 = .ok (.imul, 1) := by decide +kernel
theorem dX8_joined_127 : decode prog_10_method_81_code 127 = .ok (.ireturn, 1) := by decide +kernel
theorem dX8_joined_128 : decode prog_10_method_81_code 128 = .ok (.iload_n 2, 1) := by decide +kernel
theorem dX8_joined_129 : decode prog_10_method_81_code 129 = .ok (.ifCond .ne 7, 3) := by decide +kernel
theorem dX8_joined_132 : decode prog_10_method_81_code 132 = .ok (.iconst 0, 1) := by decide +kernel
theorem dX8_joined_133 : decode prog_10_method_81_code 133 = .ok (.goto 16, 3) := by decide +kernel
theorem dX8_joined_136 : decode prog_10_method_81_code 136 = .ok (.iload_n 2, 1) := by decide +kernel
theorem dX8_joined_137 : decode prog_10_method_81_code 137 = .ok (.iconst (-1), 1) := by decide +kernel
theorem dX8_joined_138 : decode prog_10_method_81_code 138 = .ok (.if_icmp .ne 8, 3) := by decide +kernel
theorem dX8_joined_141 : decode prog_10_method_81_code 141 = .ok (.iload_n 1, 1) := by decide +kernel
theorem dX8_joined_142 : decode prog_10_method_81_code 142 = .ok (.ineg, 1) := by decide +kernel
theorem dX8_joined_143 : decode prog_10_method_81_code 143 = .ok (.goto 6, 3) := by decide +kernel
theorem dX8_joined_146 : decode prog_10_method_81_code 146 = .ok (.iload_n 1, 1) := by decide +kernel
theorem dX8_joined_147 : decode prog_10_method_81_code 147 = .ok (.iload_n 2, 1) := by decide +kernel
theorem dX8_joined_148 : decode prog_10_method_81_code 148 = .ok (.idiv, 1) := by decide +kernel
theorem dX8_joined_149 : decode prog_10_method_81_code 149 = .ok (.ireturn, 1) := by decide +kernel
theorem dX8_joined_150 : decode prog_10_method_81_code 150 = .ok (.iload_n 1, 1) := by decide +kernel
theorem dX8_joined_151 : decode prog_10_method_81_code 151 = .ok (.iload_n 2, 1) := by decide +kernel
theorem dX8_joined_152 : decode prog_10_method_81_code 152 = .ok (.if_icmp .ge 7, 3) := by decide +kernel
theorem dX8_joined_155 : decode prog_10_method_81_code 155 = .ok (.iconst 1, 1) := by decide +kernel
theorem dX8_joined_156 : decode prog_10_method_81_code 156 = .ok (.goto 4, 3) := by decide +kernel
theorem dX8_joined_159 : decode prog_10_method_81_code 159 = .ok (.iconst 0, 1) := by decide +kernel
theorem dX8_joined_160 : decode prog_10_method_81_code 160 = .ok (.ireturn, 1) := by decide +kernel
theorem dX8_joined_161 : decode prog_10_method_81_code 161 = .ok (.iload_n 1, 1) := by decide +kernel
theorem dX8_joined_162 : decode prog_10_method_81_code 162 = .ok (.iload_n 2, 1) := by decide +kernel
theorem dX8_joined_163 : decode prog_10_method_81_code 163 = .ok (.if_icmp .le 7, 3) := by decide +kernel
theorem dX8_joined_166 : decode prog_10_method_81_code 166 = .ok (.iconst 1, 1) := by decide +kernel
theorem dX8_joined_167 : decode prog_10_method_81_code 167 = .ok (.goto 4, 3) := by decide +kernel
theorem dX8_joined_170 : decode prog_10_method_81_code 170 = .ok (.iconst 0, 1) := by decide +kernel
theorem dX8_joined_171 : decode prog_10_method_81_code 171 = .ok (.ireturn, 1) := by decide +kernel
theorem dX8_joined_172 : decode prog_10_method_81_code 172 = .ok (.iload_n 1, 1) := by decide +kernel
theorem dX8_joined_173 : decode prog_10_method_81_code 173 = .ok (.iload_n 2, 1) := by decide +kernel
theorem dX8_joined_174 : decode prog_10_method_81_code 174 = .ok (.if_icmp .ne 7, 3) := by decide +kernel
theorem dX8_joined_177 : decode prog_10_method_81_code 177 = .ok (.iconst 1, 1) := by decide +kernel
theorem dX8_joined_178 : decode prog_10_method_81_code 178 = .ok (.goto 4, 3) := by decide +kernel
theorem dX8_joined_181 : decode prog_10_method_81_code 181 = .ok (.iconst 0, 1) := by decide +kernel
theorem dX8_joined_182 : decode prog_10_method_81_code 182 = .ok (.ireturn, 1) := by decide +kernel
theorem dX8_joined_183 : decode prog_10_method_81_code 183 = .ok (.iload_n 1, 1) := by decide +kernel
theorem dX8_joined_184 : decode prog_10_method_81_code 184 = .ok (.ifCond .eq 11, 3) := by decide +kernel
theorem dX8_joined_187 : decode prog_10_method_81_code 187 = .ok (.iload_n 2, 1) := by decide +kernel
theorem dX8_joined_188 : decode prog_10_method_81_code 188 = .ok (.ifCond .eq 7, 3) := by decide +kernel
theorem dX8_joined_191 : decode prog_10_method_81_code 191 = .ok (.iconst 1, 1) := by decide +kernel
theorem dX8_joined_192 : decode prog_10_method_81_code 192 = .ok (.goto 4, 3) := by decide +kernel
theorem dX8_joined_195 : decode prog_10_method_81_code 195 = .ok (.iconst 0, 1) := by decide +kernel
theorem dX8_joined_196 : decode prog_10_method_81_code 196 = .ok (.ireturn, 1) := by decide +kernel
theorem dX8_joined_197 : decode prog_10_method_81_code 197 = .ok (.iload_n 1, 1) := by decide +kernel
theorem dX8_joined_198 : decode prog_10_method_81_code 198 = .ok (.ifCond .ne 7, 3) := by decide +kernel
theorem dX8_joined_201 : decode prog_10_method_81_code 201 = .ok (.iload_n 2, 1) := by decide +kernel
theorem dX8_joined_202 : decode prog_10_method_81_code 202 = .ok (.ifCond .eq 7, 3) := by decide +kernel
theorem dX8_joined_205 : decode prog_10_method_81_code 205 = .ok (.iconst 1, 1) := by decide +kernel
theorem dX8_joined_206 : decode prog_10_method_81_code 206 = .ok (.goto 4, 3) := by decide +kernel
theorem dX8_joined_209 : decode prog_10_method_81_code 209 = .ok (.iconst 0, 1) := by decide +kernel
theorem dX8_joined_210 : decode prog_10_method_81_code 210 = .ok (.ireturn, 1) := by decide +kernel
theorem dX8_worked_0 : decode prog_10_method_82_code 0 = .ok (.iconst 0, 1) := by decide +kernel
theorem dX8_worked_1 : decode prog_10_method_82_code 1 = .ok (.istore_n 2, 1) := by decide +kernel
theorem dX8_worked_2 : decode prog_10_method_82_code 2 = .ok (.iconst 0, 1) := by decide +kernel
theorem dX8_worked_3 : decode prog_10_method_82_code 3 = .ok (.istore_n 3, 1) := by decide +kernel
theorem dX8_worked_4 : decode prog_10_method_82_code 4 = .ok (.iload_n 3, 1) := by decide +kernel
theorem dX8_worked_5 : decode prog_10_method_82_code 5 = .ok (.aload_n 0, 1) := by decide +kernel
theorem dX8_worked_6 : decode prog_10_method_82_code 6 = .ok (.getfield 7, 3) := by decide +kernel
theorem dX8_worked_9 : decode prog_10_method_82_code 9 = .ok (.aload_n 0, 1) := by decide +kernel
theorem dX8_worked_10 : decode prog_10_method_82_code 10 = .ok (.iload_n 1, 1) := by decide +kernel
theorem dX8_worked_11 : decode prog_10_method_82_code 11 = .ok (.invokevirtual 278, 3) := by decide +kernel
theorem dX8_worked_14 : decode prog_10_method_82_code 14 = .ok (.iconst 2, 1) := by decide +kernel
theorem dX8_worked_15 : decode prog_10_method_82_code 15 = .ok (.iadd, 1) := by decide +kernel
theorem dX8_worked_16 : decode prog_10_method_82_code 16 = .ok (.iaload, 1) := by decide +kernel
theorem dX8_worked_17 : decode prog_10_method_82_code 17 = .ok (.if_icmp .ge 146, 3) := by decide +kernel
theorem dX8_worked_20 : decode prog_10_method_82_code 20 = .ok (.aload_n 0, 1) := by decide +kernel
theorem dX8_worked_21 : decode prog_10_method_82_code 21 = .ok (.getfield 7, 3) := by decide +kernel
theorem dX8_worked_24 : decode prog_10_method_82_code 24 = .ok (.aload_n 0, 1) := by decide +kernel
theorem dX8_worked_25 : decode prog_10_method_82_code 25 = .ok (.iload_n 1, 1) := by decide +kernel
theorem dX8_worked_26 : decode prog_10_method_82_code 26 = .ok (.invokevirtual 278, 3) := by decide +kernel
theorem dX8_worked_29 : decode prog_10_method_82_code 29 = .ok (.iconst 4, 1) := by decide +kernel
theorem dX8_worked_30 : decode prog_10_method_82_code 30 = .ok (.iadd, 1) := by decide +kernel
theorem dX8_worked_31 : decode prog_10_method_82_code 31 = .ok (.iconst 2, 1) := by decide +kernel
theorem dX8_worked_32 : decode prog_10_method_82_code 32 = .ok (.iload_n 3, 1) := by decide +kernel
theorem dX8_worked_33 : decode prog_10_method_82_code 33 = .ok (.imul, 1) := by decide +kernel
theorem dX8_worked_34 : decode prog_10_method_82_code 34 = .ok (.iadd, 1) := by decide +kernel
theorem dX8_worked_35 : decode prog_10_method_82_code 35 = .ok (.iaload, 1) := by decide +kernel
theorem dX8_worked_36 : decode prog_10_method_82_code 36 = .ok (.istore 4, 2) := by decide +kernel
theorem dX8_worked_38 : decode prog_10_method_82_code 38 = .ok (.aload_n 0, 1) := by decide +kernel
theorem dX8_worked_39 : decode prog_10_method_82_code 39 = .ok (.getfield 7, 3) := by decide +kernel
theorem dX8_worked_42 : decode prog_10_method_82_code 42 = .ok (.aload_n 0, 1) := by decide +kernel
theorem dX8_worked_43 : decode prog_10_method_82_code 43 = .ok (.iload_n 1, 1) := by decide +kernel
theorem dX8_worked_44 : decode prog_10_method_82_code 44 = .ok (.invokevirtual 278, 3) := by decide +kernel
theorem dX8_worked_47 : decode prog_10_method_82_code 47 = .ok (.iconst 4, 1) := by decide +kernel
theorem dX8_worked_48 : decode prog_10_method_82_code 48 = .ok (.iadd, 1) := by decide +kernel
theorem dX8_worked_49 : decode prog_10_method_82_code 49 = .ok (.iconst 2, 1) := by decide +kernel
theorem dX8_worked_50 : decode prog_10_method_82_code 50 = .ok (.iload_n 3, 1) := by decide +kernel
theorem dX8_worked_51 : decode prog_10_method_82_code 51 = .ok (.imul, 1) := by decide +kernel
theorem dX8_worked_52 : decode prog_10_method_82_code 52 = .ok (.iadd, 1) := by decide +kernel
theorem dX8_worked_53 : decode prog_10_method_82_code 53 = .ok (.iconst 1, 1) := by decide +kernel
theorem dX8_worked_54 : decode prog_10_method_82_code 54 = .ok (.iadd, 1) := by decide +kernel
theorem dX8_worked_55 : decode prog_10_method_82_code 55 = .ok (.iaload, 1) := by decide +kernel
theorem dX8_worked_56 : decode prog_10_method_82_code 56 = .ok (.istore 5, 2) := by decide +kernel
theorem dX8_worked_58 : decode prog_10_method_82_code 58 = .ok (.iload 4, 2) := by decide +kernel
theorem dX8_worked_60 : decode prog_10_method_82_code 60 = .ok (.iconst 2, 1) := by decide +kernel
theorem dX8_worked_61 : decode prog_10_method_82_code 61 = .ok (.if_icmp .eq 32, 3) := by decide +kernel
theorem dX8_worked_64 : decode prog_10_method_82_code 64 = .ok (.aload_n 0, 1) := by decide +kernel
theorem dX8_worked_65 : decode prog_10_method_82_code 65 = .ok (.getfield 52, 3) := by decide +kernel
theorem dX8_worked_68 : decode prog_10_method_82_code 68 = .ok (.iload_n 2, 1) := by decide +kernel
theorem dX8_worked_69 : decode prog_10_method_82_code 69 = .ok (.iload 4, 2) := by decide +kernel
theorem dX8_worked_71 : decode prog_10_method_82_code 71 = .ok (.ifCond .ne 8, 3) := by decide +kernel
theorem dX8_worked_74 : decode prog_10_method_82_code 74 = .ok (.iload 5, 2) := by decide +kernel
theorem dX8_worked_76 : decode prog_10_method_82_code 76 = .ok (.goto 10, 3) := by decide +kernel
theorem dX8_worked_79 : decode prog_10_method_82_code 79 = .ok (.aload_n 0, 1) := by decide +kernel
theorem dX8_worked_80 : decode prog_10_method_82_code 80 = .ok (.getfield 49, 3) := by decide +kernel
theorem dX8_worked_83 : decode prog_10_method_82_code 83 = .ok (.iload 5, 2) := by decide +kernel
theorem dX8_worked_85 : decode prog_10_method_82_code 85 = .ok (.iaload, 1) := by decide +kernel
theorem dX8_worked_86 : decode prog_10_method_82_code 86 = .ok (.iastore, 1) := by decide +kernel
theorem dX8_worked_87 : decode prog_10_method_82_code 87 = .ok (.iinc 2 1, 3) := by decide +kernel
theorem dX8_worked_90 : decode prog_10_method_82_code 90 = .ok (.goto 67, 3) := by decide +kernel
theorem dX8_worked_93 : decode prog_10_method_82_code 93 = .ok (.iload 5, 2) := by decide +kernel
theorem dX8_worked_95 : decode prog_10_method_82_code 95 = .ok (.bipush 33, 2) := by decide +kernel
theorem dX8_worked_97 : decode prog_10_method_82_code 97 = .ok (.if_icmp .ne 30, 3) := by decide +kernel
theorem dX8_worked_100 : decode prog_10_method_82_code 100 = .ok (.aload_n 0, 1) := by decide +kernel
theorem dX8_worked_101 : decode prog_10_method_82_code 101 = .ok (.getfield 52, 3) := by decide +kernel
theorem dX8_worked_104 : decode prog_10_method_82_code 104 = .ok (.iload_n 2, 1) := by decide +kernel
theorem dX8_worked_105 : decode prog_10_method_82_code 105 = .ok (.iconst 1, 1) := by decide +kernel
theorem dX8_worked_106 : decode prog_10_method_82_code 106 = .ok (.isub, 1) := by decide +kernel
theorem dX8_worked_107 : decode prog_10_method_82_code 107 = .ok (.aload_n 0, 1) := by decide +kernel
theorem dX8_worked_108 : decode prog_10_method_82_code 108 = .ok (.getfield 52, 3) := by decide +kernel
theorem dX8_worked_111 : decode prog_10_method_82_code 111 = .ok (.iload_n 2, 1) := by decide +kernel
theorem dX8_worked_112 : decode prog_10_method_82_code 112 = .ok (.iconst 1, 1) := by decide +kernel
theorem dX8_worked_113 : decode prog_10_method_82_code 113 = .ok (.isub, 1) := by decide +kernel
theorem dX8_worked_114 : decode prog_10_method_82_code 114 = .ok (.iaload, 1) := by decide +kernel
theorem dX8_worked_115 : decode prog_10_method_82_code 115 = .ok (.ifCond .ne 7, 3) := by decide +kernel
theorem dX8_worked_118 : decode prog_10_method_82_code 118 = .ok (.iconst 1, 1) := by decide +kernel
theorem dX8_worked_119 : decode prog_10_method_82_code 119 = .ok (.goto 4, 3) := by decide +kernel
theorem dX8_worked_122 : decode prog_10_method_82_code 122 = .ok (.iconst 0, 1) := by decide +kernel
theorem dX8_worked_123 : decode prog_10_method_82_code 123 = .ok (.iastore, 1) := by decide +kernel
theorem dX8_worked_124 : decode prog_10_method_82_code 124 = .ok (.goto 33, 3) := by decide +kernel
theorem dX8_worked_127 : decode prog_10_method_82_code 127 = .ok (.iinc 2 (-1), 3) := by decide +kernel
theorem dX8_worked_130 : decode prog_10_method_82_code 130 = .ok (.aload_n 0, 1) := by decide +kernel
theorem dX8_worked_131 : decode prog_10_method_82_code 131 = .ok (.getfield 52, 3) := by decide +kernel
theorem dX8_worked_134 : decode prog_10_method_82_code 134 = .ok (.iload_n 2, 1) := by decide +kernel
theorem dX8_worked_135 : decode prog_10_method_82_code 135 = .ok (.iconst 1, 1) := by decide +kernel
theorem dX8_worked_136 : decode prog_10_method_82_code 136 = .ok (.isub, 1) := by decide +kernel
theorem dX8_worked_137 : decode prog_10_method_82_code 137 = .ok (.iload 5, 2) := by decide +kernel
theorem dX8_worked_139 : decode prog_10_method_82_code 139 = .ok (.aload_n 0, 1) := by decide +kernel
theorem dX8_worked_140 : decode prog_10_method_82_code 140 = .ok (.getfield 52, 3) := by decide +kernel
theorem dX8_worked_143 : decode prog_10_method_82_code 143 = .ok (.iload_n 2, 1) := by decide +kernel
theorem dX8_worked_144 : decode prog_10_method_82_code 144 = .ok (.iconst 1, 1) := by decide +kernel
theorem dX8_worked_145 : decode prog_10_method_82_code 145 = .ok (.isub, 1) := by decide +kernel
theorem dX8_worked_146 : decode prog_10_method_82_code 146 = .ok (.iaload, 1) := by decide +kernel
theorem dX8_worked_147 : decode prog_10_method_82_code 147 = .ok (.aload_n 0, 1) := by decide +kernel
theorem dX8_worked_148 : decode prog_10_method_82_code 148 = .ok (.getfield 52, 3) := by decide +kernel
theorem dX8_worked_151 : decode prog_10_method_82_code 151 = .ok (.iload_n 2, 1) := by decide +kernel
theorem dX8_worked_152 : decode prog_10_method_82_code 152 = .ok (.iaload, 1) := by decide +kernel
theorem dX8_worked_153 : decode prog_10_method_82_code 153 = .ok (.invokestatic 290, 3) := by decide +kernel
theorem dX8_worked_156 : decode prog_10_method_82_code 156 = .ok (.iastore, 1) := by decide +kernel
theorem dX8_worked_157 : decode prog_10_method_82_code 157 = .ok (.iinc 3 1, 3) := by decide +kernel
theorem dX8_worked_160 : decode prog_10_method_82_code 160 = .ok (.goto (-156), 3) := by decide +kernel
theorem dX8_worked_163 : decode prog_10_method_82_code 163 = .ok (.aload_n 0, 1) := by decide +kernel
theorem dX8_worked_164 : decode prog_10_method_82_code 164 = .ok (.getfield 52, 3) := by decide +kernel
theorem dX8_worked_167 : decode prog_10_method_82_code 167 = .ok (.iconst 0, 1) := by decide +kernel
theorem dX8_worked_168 : decode prog_10_method_82_code 168 = .ok (.iaload, 1) := by decide +kernel
theorem dX8_worked_169 : decode prog_10_method_82_code 169 = .ok (.ireturn, 1) := by decide +kernel
theorem dX8_holds_0 : decode prog_10_method_18_code 0 = .ok (.aload_n 0, 1) := by decide +kernel
theorem dX8_holds_1 : decode prog_10_method_18_code 1 = .ok (.iconst 0, 1) := by decide +kernel
theorem dX8_holds_2 : decode prog_10_method_18_code 2 = .ok (.invokevirtual 81, 3) := by decide +kernel
theorem dX8_holds_5 : decode prog_10_method_18_code 5 = .ok (.istore_n 2, 1) := by decide +kernel
theorem dX8_holds_6 : decode prog_10_method_18_code 6 = .ok (.iload_n 2, 1) := by decide +kernel
theorem dX8_holds_7 : decode prog_10_method_18_code 7 = .ok (.ifCond .ge 22, 3) := by decide +kernel
theorem dX8_holds_10 : decode prog_10_method_18_code 10 = .ok (.aload_n 0, 1) := by decide +kernel
theorem dX8_holds_11 : decode prog_10_method_18_code 11 = .ok (.invokevirtual 85, 3) := by decide +kernel
theorem dX8_holds_14 : decode prog_10_method_18_code 14 = .ok (.iconst 2, 1) := by decide +kernel
theorem dX8_holds_15 : decode prog_10_method_18_code 15 = .ok (.if_icmp .ne 7, 3) := by decide +kernel
theorem dX8_holds_18 : decode prog_10_method_18_code 18 = .ok (.iconst 1, 1) := by decide +kernel
theorem dX8_holds_19 : decode prog_10_method_18_code 19 = .ok (.goto 9, 3) := by decide +kernel
theorem dX8_holds_22 : decode prog_10_method_18_code 22 = .ok (.aload_n 0, 1) := by decide +kernel
theorem dX8_holds_23 : decode prog_10_method_18_code 23 = .ok (.iload_n 1, 1) := by decide +kernel
theorem dX8_holds_24 : decode prog_10_method_18_code 24 = .ok (.iconst 0, 1) := by decide +kernel
theorem dX8_holds_25 : decode prog_10_method_18_code 25 = .ok (.invokevirtual 74, 3) := by decide +kernel
theorem dX8_holds_28 : decode prog_10_method_18_code 28 = .ok (.ireturn, 1) := by decide +kernel
theorem dX8_holds_29 : decode prog_10_method_18_code 29 = .ok (.aload_n 0, 1) := by decide +kernel
theorem dX8_holds_30 : decode prog_10_method_18_code 30 = .ok (.getfield 49, 3) := by decide +kernel
theorem dX8_holds_33 : decode prog_10_method_18_code 33 = .ok (.bipush 104, 2) := by decide +kernel
theorem dX8_holds_35 : decode prog_10_method_18_code 35 = .ok (.aload_n 0, 1) := by decide +kernel
theorem dX8_holds_36 : decode prog_10_method_18_code 36 = .ok (.iload_n 1, 1) := by decide +kernel
theorem dX8_holds_37 : decode prog_10_method_18_code 37 = .ok (.iconst 0, 1) := by decide +kernel
theorem dX8_holds_38 : decode prog_10_method_18_code 38 = .ok (.invokevirtual 74, 3) := by decide +kernel
theorem dX8_holds_41 : decode prog_10_method_18_code 41 = .ok (.iastore, 1) := by decide +kernel
theorem dX8_holds_42 : decode prog_10_method_18_code 42 = .ok (.aload_n 0, 1) := by decide +kernel
theorem dX8_holds_43 : decode prog_10_method_18_code 43 = .ok (.getfield 49, 3) := by decide +kernel
theorem dX8_holds_46 : decode prog_10_method_18_code 46 = .ok (.bipush 97, 2) := by decide +kernel
theorem dX8_holds_48 : decode prog_10_method_18_code 48 = .ok (.aload_n 0, 1) := by decide +kernel
theorem dX8_holds_49 : decode prog_10_method_18_code 49 = .ok (.iload_n 1, 1) := by decide +kernel
theorem dX8_holds_50 : decode prog_10_method_18_code 50 = .ok (.iconst 1, 1) := by decide +kernel
theorem dX8_holds_51 : decode prog_10_method_18_code 51 = .ok (.invokevirtual 74, 3) := by decide +kernel
theorem dX8_holds_54 : decode prog_10_method_18_code 54 = .ok (.iastore, 1) := by decide +kernel
theorem dX8_holds_55 : decode prog_10_method_18_code 55 = .ok (.aload_n 0, 1) := by decide +kernel
theorem dX8_holds_56 : decode prog_10_method_18_code 56 = .ok (.getfield 49, 3) := by decide +kernel
theorem dX8_holds_59 : decode prog_10_method_18_code 59 = .ok (.bipush 102, 2) := by decide +kernel
theorem dX8_holds_61 : decode prog_10_method_18_code 61 = .ok (.aload_n 0, 1) := by decide +kernel
theorem dX8_holds_62 : decode prog_10_method_18_code 62 = .ok (.invokevirtual 85, 3) := by decide +kernel
theorem dX8_holds_65 : decode prog_10_method_18_code 65 = .ok (.iastore, 1) := by decide +kernel
theorem dX8_holds_66 : decode prog_10_method_18_code 66 = .ok (.aload_n 0, 1) := by decide +kernel
theorem dX8_holds_67 : decode prog_10_method_18_code 67 = .ok (.iload_n 2, 1) := by decide +kernel
theorem dX8_holds_68 : decode prog_10_method_18_code 68 = .ok (.invokevirtual 89, 3) := by decide +kernel
theorem dX8_holds_71 : decode prog_10_method_18_code 71 = .ok (.iconst 1, 1) := by decide +kernel
theorem dX8_holds_72 : decode prog_10_method_18_code 72 = .ok (.bipush 99, 2) := by decide +kernel
theorem dX8_holds_74 : decode prog_10_method_18_code 74 = .ok (.invokestatic 92, 3) := by decide +kernel
theorem dX8_holds_77 : decode prog_10_method_18_code 77 = .ok (.ireturn, 1) := by decide +kernel
theorem dX8_isChild_0 : decode prog_10_method_9_code 0 = .ok (.iload_n 1, 1) := by decide +kernel
theorem dX8_isChild_1 : decode prog_10_method_9_code 1 = .ok (.i2l, 1) := by decide +kernel
theorem dX8_isChild_2 : decode prog_10_method_9_code 2 = .ok (.lconst 0, 1) := by decide +kernel
theorem dX8_isChild_3 : decode prog_10_method_9_code 3 = .ok (.aload_n 0, 1) := by decide +kernel
theorem dX8_isChild_4 : decode prog_10_method_9_code 4 = .ok (.getfield 7, 3) := by decide +kernel
theorem dX8_isChild_7 : decode prog_10_method_9_code 7 = .ok (.iconst 0, 1) := by decide +kernel
theorem dX8_isChild_8 : decode prog_10_method_9_code 8 = .ok (.iaload, 1) := by decide +kernel
theorem dX8_isChild_9 : decode prog_10_method_9_code 9 = .ok (.iconst 1, 1) := by decide +kernel
theorem dX8_isChild_10 : decode prog_10_method_9_code 10 = .ok (.isub, 1) := by decide +kernel
theorem dX8_isChild_11 : decode prog_10_method_9_code 11 = .ok (.i2l, 1) := by decide +kernel
theorem dX8_isChild_12 : decode prog_10_method_9_code 12 = .ok (.invokestatic 65, 3) := by decide +kernel
theorem dX8_isChild_15 : decode prog_10_method_9_code 15 = .ok (.ireturn, 1) := by decide +kernel
theorem dX8_on_0 : decode prog_10_method_16_code 0 = .ok (.aload_n 0, 1) := by decide +kernel
theorem dX8_on_1 : decode prog_10_method_16_code 1 = .ok (.getfield 7, 3) := by decide +kernel
theorem dX8_on_4 : decode prog_10_method_16_code 4 = .ok (.iconst 0, 1) := by decide +kernel
theorem dX8_on_5 : decode prog_10_method_16_code 5 = .ok (.iaload, 1) := by decide +kernel
theorem dX8_on_6 : decode prog_10_method_16_code 6 = .ok (.istore_n 3, 1) := by decide +kernel
theorem dX8_on_7 : decode prog_10_method_16_code 7 = .ok (.aload_n 0, 1) := by decide +kernel
theorem dX8_on_8 : decode prog_10_method_16_code 8 = .ok (.getfield 7, 3) := by decide +kernel
theorem dX8_on_11 : decode prog_10_method_16_code 11 = .ok (.iconst 5, 1) := by decide +kernel
theorem dX8_on_12 : decode prog_10_method_16_code 12 = .ok (.iaload, 1) := by decide +kernel
theorem dX8_on_13 : decode prog_10_method_16_code 13 = .ok (.iconst 1, 1) := by decide +kernel
theorem dX8_on_14 : decode prog_10_method_16_code 14 = .ok (.if_icmp .ne 11, 3) := by decide +kernel
theorem dX8_on_17 : decode prog_10_method_16_code 17 = .ok (.iload_n 1, 1) := by decide +kernel
theorem dX8_on_18 : decode prog_10_method_16_code 18 = .ok (.iload_n 2, 1) := by decide +kernel
theorem dX8_on_19 : decode prog_10_method_16_code 19 = .ok (.iadd, 1) := by decide +kernel
theorem dX8_on_20 : decode prog_10_method_16_code 20 = .ok (.iload_n 3, 1) := by decide +kernel
theorem dX8_on_21 : decode prog_10_method_16_code 21 = .ok (.irem, 1) := by decide +kernel
theorem dX8_on_22 : decode prog_10_method_16_code 22 = .ok (.goto 12, 3) := by decide +kernel
theorem dX8_on_25 : decode prog_10_method_16_code 25 = .ok (.iload_n 1, 1) := by decide +kernel
theorem dX8_on_26 : decode prog_10_method_16_code 26 = .ok (.iload_n 3, 1) := by decide +kernel
theorem dX8_on_27 : decode prog_10_method_16_code 27 = .ok (.iadd, 1) := by decide +kernel
theorem dX8_on_28 : decode prog_10_method_16_code 28 = .ok (.iload_n 2, 1) := by decide +kernel
theorem dX8_on_29 : decode prog_10_method_16_code 29 = .ok (.iload_n 3, 1) := by decide +kernel
theorem dX8_on_30 : decode prog_10_method_16_code 30 = .ok (.irem, 1) := by decide +kernel
theorem dX8_on_31 : decode prog_10_method_16_code 31 = .ok (.isub, 1) := by decide +kernel
theorem dX8_on_32 : decode prog_10_method_16_code 32 = .ok (.iload_n 3, 1) := by decide +kernel
theorem dX8_on_33 : decode prog_10_method_16_code 33 = .ok (.irem, 1) := by decide +kernel
theorem dX8_on_34 : decode prog_10_method_16_code 34 = .ok (.ireturn, 1) := by decide +kernel
theorem dX8_nextOf_0 : decode prog_10_method_17_code 0 = .ok (.iconst 1, 1) := by decide +kernel
theorem dX8_nextOf_1 : decode prog_10_method_17_code 1 = .ok (.istore_n 2, 1) := by decide +kernel
theorem dX8_nextOf_2 : decode prog_10_method_17_code 2 = .ok (.iload_n 2, 1) := by decide +kernel
theorem dX8_nextOf_3 : decode prog_10_method_17_code 3 = .ok (.aload_n 0, 1) := by decide +kernel
theorem dX8_nextOf_4 : decode prog_10_method_17_code 4 = .ok (.getfield 7, 3) := by decide +kernel
theorem dX8_nextOf_7 : decode prog_10_method_17_code 7 = .ok (.iconst 0, 1) := by decide +kernel
theorem dX8_nextOf_8 : decode prog_10_method_17_code 8 = .ok (.iaload, 1) := by decide +kernel
theorem dX8_nextOf_9 : decode prog_10_method_17_code 9 = .ok (.if_icmp .gt 30, 3) := by decide +kernel
theorem dX8_nextOf_12 : decode prog_10_method_17_code 12 = .ok (.aload_n 0, 1) := by decide +kernel
theorem dX8_nextOf_13 : decode prog_10_method_17_code 13 = .ok (.aload_n 0, 1) := by decide +kernel
theorem dX8_nextOf_14 : decode prog_10_method_17_code 14 = .ok (.iload_n 1, 1) := by decide +kernel
theorem dX8_nextOf_15 : decode prog_10_method_17_code 15 = .ok (.iload_n 2, 1) := by decide +kernel
theorem dX8_nextOf_16 : decode prog_10_method_17_code 16 = .ok (.invokevirtual 78, 3) := by decide +kernel
theorem dX8_nextOf_19 : decode prog_10_method_17_code 19 = .ok (.iconst 2, 1) := by decide +kernel
theorem dX8_nextOf_20 : decode prog_10_method_17_code 20 = .ok (.invokevirtual 74, 3) := by decide +kernel
theorem dX8_nextOf_23 : decode prog_10_method_17_code 23 = .ok (.ifCond .ne 10, 3) := by decide +kernel
theorem dX8_nextOf_26 : decode prog_10_method_17_code 26 = .ok (.aload_n 0, 1) := by decide +kernel
theorem dX8_nextOf_27 : decode prog_10_method_17_code 27 = .ok (.iload_n 1, 1) := by decide +kernel
theorem dX8_nextOf_28 : decode prog_10_method_17_code 28 = .ok (.iload_n 2, 1) := by decide +kernel
theorem dX8_nextOf_29 : decode prog_10_method_17_code 29 = .ok (.invokevirtual 78, 3) := by decide +kernel
theorem dX8_nextOf_32 : decode prog_10_method_17_code 32 = .ok (.ireturn, 1) := by decide +kernel
theorem dX8_nextOf_33 : decode prog_10_method_17_code 33 = .ok (.iinc 2 1, 3) := by decide +kernel
theorem dX8_nextOf_36 : decode prog_10_method_17_code 36 = .ok (.goto (-34), 3) := by decide +kernel
theorem dX8_nextOf_39 : decode prog_10_method_17_code 39 = .ok (.iconst (-1), 1) := by decide +kernel
theorem dX8_nextOf_40 : decode prog_10_method_17_code 40 = .ok (.ireturn, 1) := by decide +kernel
theorem dX8_orNone_0 : decode prog_10_method_3_code 0 = .ok (.iload_n 0, 1) := by decide +kernel
theorem dX8_orNone_1 : decode prog_10_method_3_code 1 = .ok (.ifCond .ge 8, 3) := by decide +kernel
theorem dX8_orNone_4 : decode prog_10_method_3_code 4 = .ok (.ldc 64, 2) := by decide +kernel
theorem dX8_orNone_6 : decode prog_10_method_3_code 6 = .ok (.goto 4, 3) := by decide +kernel
theorem dX8_orNone_9 : decode prog_10_method_3_code 9 = .ok (.iload_n 0, 1) := by decide +kernel
theorem dX8_orNone_10 : decode prog_10_method_3_code 10 = .ok (.ireturn, 1) := by decide +kernel
theorem dX8_childTold_0 : decode prog_10_method_19_code 0 = .ok (.aload_n 0, 1) := by decide +kernel
theorem dX8_childTold_1 : decode prog_10_method_19_code 1 = .ok (.iload_n 1, 1) := by decide +kernel
theorem dX8_childTold_2 : decode prog_10_method_19_code 2 = .ok (.invokevirtual 95, 3) := by decide +kernel
theorem dX8_childTold_5 : decode prog_10_method_19_code 5 = .ok (.ifCond .ne 6, 3) := by decide +kernel
theorem dX8_childTold_8 : decode prog_10_method_19_code 8 = .ok (.ldc 72, 2) := by decide +kernel
theorem dX8_childTold_10 : decode prog_10_method_19_code 10 = .ok (.ireturn, 1) := by decide +kernel
theorem dX8_childTold_11 : decode prog_10_method_19_code 11 = .ok (.iload_n 2, 1) := by decide +kernel
theorem dX8_childTold_12 : decode prog_10_method_19_code 12 = .ok (.tableswitch 58 0 4 #[36, 36, 36, 43, 49], 36) := by decide +kernel
theorem dX8_childTold_48 : decode prog_10_method_19_code 48 = .ok (.aload_n 0, 1) := by decide +kernel
theorem dX8_childTold_49 : decode prog_10_method_19_code 49 = .ok (.iload_n 1, 1) := by decide +kernel
theorem dX8_childTold_50 : decode prog_10_method_19_code 50 = .ok (.iload_n 2, 1) := by decide +kernel
theorem dX8_childTold_51 : decode prog_10_method_19_code 51 = .ok (.invokevirtual 74, 3) := by decide +kernel
theorem dX8_childTold_54 : decode prog_10_method_19_code 54 = .ok (.ireturn, 1) := by decide +kernel
theorem dX8_childTold_55 : decode prog_10_method_19_code 55 = .ok (.aload_n 0, 1) := by decide +kernel
theorem dX8_childTold_56 : decode prog_10_method_19_code 56 = .ok (.iload_n 1, 1) := by decide +kernel
theorem dX8_childTold_57 : decode prog_10_method_19_code 57 = .ok (.invokevirtual 99, 3) := by decide +kernel
theorem dX8_childTold_60 : decode prog_10_method_19_code 60 = .ok (.ireturn, 1) := by decide +kernel
theorem dX8_childTold_61 : decode prog_10_method_19_code 61 = .ok (.aload_n 0, 1) := by decide +kernel
theorem dX8_childTold_62 : decode prog_10_method_19_code 62 = .ok (.iload_n 1, 1) := by decide +kernel
theorem dX8_childTold_63 : decode prog_10_method_19_code 63 = .ok (.invokevirtual 102, 3) := by decide +kernel
theorem dX8_childTold_66 : decode prog_10_method_19_code 66 = .ok (.invokestatic 105, 3) := by decide +kernel
theorem dX8_childTold_69 : decode prog_10_method_19_code 69 = .ok (.ireturn, 1) := by decide +kernel
theorem dX8_childTold_70 : decode prog_10_method_19_code 70 = .ok (.ldc 72, 2) := by decide +kernel
theorem dX8_childTold_72 : decode prog_10_method_19_code 72 = .ok (.ireturn, 1) := by decide +kernel
theorem dX8_becomes_0 : decode prog_10_method_5_code 0 = .ok (.aload_n 0, 1) := by decide +kernel
theorem dX8_becomes_1 : decode prog_10_method_5_code 1 = .ok (.getfield 7, 3) := by decide +kernel
theorem dX8_becomes_4 : decode prog_10_method_5_code 4 = .ok (.iload_n 1, 1) := by decide +kernel
theorem dX8_becomes_5 : decode prog_10_method_5_code 5 = .ok (.iaload, 1) := by decide +kernel
theorem dX8_becomes_6 : decode prog_10_method_5_code 6 = .ok (.istore_n 3, 1) := by decide +kernel
theorem dX8_becomes_7 : decode prog_10_method_5_code 7 = .ok (.aload_n 0, 1) := by decide +kernel
theorem dX8_becomes_8 : decode prog_10_method_5_code 8 = .ok (.getfield 7, 3) := by decide +kernel
theorem dX8_becomes_11 : decode prog_10_method_5_code 11 = .ok (.iload_n 1, 1) := by decide +kernel
theorem dX8_becomes_12 : decode prog_10_method_5_code 12 = .ok (.iload_n 2, 1) := by decide +kernel
theorem dX8_becomes_13 : decode prog_10_method_5_code 13 = .ok (.iastore, 1) := by decide +kernel
theorem dX8_becomes_14 : decode prog_10_method_5_code 14 = .ok (.iload_n 3, 1) := by decide +kernel
theorem dX8_becomes_15 : decode prog_10_method_5_code 15 = .ok (.ireturn, 1) := by decide +kernel
theorem dX8_lays_0 : decode prog_10_method_20_code 0 = .ok (.aload_n 0, 1) := by decide +kernel
theorem dX8_lays_1 : decode prog_10_method_20_code 1 = .ok (.iload_n 1, 1) := by decide +kernel
theorem dX8_lays_2 : decode prog_10_method_20_code 2 = .ok (.invokevirtual 95, 3) := by decide +kernel
theorem dX8_lays_5 : decode prog_10_method_20_code 5 = .ok (.ifCond .eq 54, 3) := by decide +kernel
theorem dX8_lays_8 : decode prog_10_method_20_code 8 = .ok (.iload_n 2, 1) := by decide +kernel
theorem dX8_lays_9 : decode prog_10_method_20_code 9 = .ok (.i2l, 1) := by decide +kernel
theorem dX8_lays_10 : decode prog_10_method_20_code 10 = .ok (.lconst 0, 1) := by decide +kernel
theorem dX8_lays_11 : decode prog_10_method_20_code 11 = .ok (.ldc2_w 108, 3) := by decide +kernel
theorem dX8_lays_14 : decode prog_10_method_20_code 14 = .ok (.invokestatic 65, 3) := by decide +kernel
theorem dX8_lays_17 : decode prog_10_method_20_code 17 = .ok (.ifCond .eq 42, 3) := by decide +kernel
theorem dX8_lays_20 : decode prog_10_method_20_code 20 = .ok (.iload_n 3, 1) := by decide +kernel
theorem dX8_lays_21 : decode prog_10_method_20_code 21 = .ok (.i2l, 1) := by decide +kernel
theorem dX8_lays_22 : decode prog_10_method_20_code 22 = .ok (.iload_n 2, 1) := by decide +kernel
theorem dX8_lays_23 : decode prog_10_method_20_code 23 = .ok (.ifCond .ne 7, 3) := by decide +kernel
theorem dX8_lays_26 : decode prog_10_method_20_code 26 = .ok (.lconst 1, 1) := by decide +kernel
theorem dX8_lays_27 : decode prog_10_method_20_code 27 = .ok (.goto 4, 3) := by decide +kernel
theorem dX8_lays_30 : decode prog_10_method_20_code 30 = .ok (.lconst 0, 1) := by decide +kernel
theorem dX8_lays_31 : decode prog_10_method_20_code 31 = .ok (.iload_n 2, 1) := by decide +kernel
theorem dX8_lays_32 : decode prog_10_method_20_code 32 = .ok (.ifCond .ne 9, 3) := by decide +kernel
theorem dX8_lays_35 : decode prog_10_method_20_code 35 = .ok (.ldc2_w 70, 3) := by decide +kernel
theorem dX8_lays_38 : decode prog_10_method_20_code 38 = .ok (.goto 15, 3) := by decide +kernel
theorem dX8_lays_41 : decode prog_10_method_20_code 41 = .ok (.iload_n 2, 1) := by decide +kernel
theorem dX8_lays_42 : decode prog_10_method_20_code 42 = .ok (.iconst 1, 1) := by decide +kernel
theorem dX8_lays_43 : decode prog_10_method_20_code 43 = .ok (.if_icmp .ne 9, 3) := by decide +kernel
theorem dX8_lays_46 : decode prog_10_method_20_code 46 = .ok (.ldc2_w 110, 3) := by decide +kernel
theorem dX8_lays_49 : decode prog_10_method_20_code 49 = .ok (.goto 4, 3) := by decide +kernel
theorem dX8_lays_52 : decode prog_10_method_20_code 52 = .ok (.lconst 1, 1) := by decide +kernel
theorem dX8_lays_53 : decode prog_10_method_20_code 53 = .ok (.invokestatic 65, 3) := by decide +kernel
theorem dX8_lays_56 : decode prog_10_method_20_code 56 = .ok (.ifCond .ne 6, 3) := by decide +kernel
theorem dX8_lays_59 : decode prog_10_method_20_code 59 = .ok (.ldc 72, 2) := by decide +kernel
theorem dX8_lays_61 : decode prog_10_method_20_code 61 = .ok (.ireturn, 1) := by decide +kernel
theorem dX8_lays_62 : decode prog_10_method_20_code 62 = .ok (.aload_n 0, 1) := by decide +kernel
theorem dX8_lays_63 : decode prog_10_method_20_code 63 = .ok (.bipush 12, 2) := by decide +kernel
theorem dX8_lays_65 : decode prog_10_method_20_code 65 = .ok (.iconst 3, 1) := by decide +kernel
theorem dX8_lays_66 : decode prog_10_method_20_code 66 = .ok (.iload_n 1, 1) := by decide +kernel
theorem dX8_lays_67 : decode prog_10_method_20_code 67 = .ok (.imul, 1) := by decide +kernel
theorem dX8_lays_68 : decode prog_10_method_20_code 68 = .ok (.iadd, 1) := by decide +kernel
theorem dX8_lays_69 : decode prog_10_method_20_code 69 = .ok (.iload_n 2, 1) := by decide +kernel
theorem dX8_lays_70 : decode prog_10_method_20_code 70 = .ok (.iadd, 1) := by decide +kernel
theorem dX8_lays_71 : decode prog_10_method_20_code 71 = .ok (.iload_n 3, 1) := by decide +kernel
theorem dX8_lays_72 : decode prog_10_method_20_code 72 = .ok (.invokevirtual 112, 3) := by decide +kernel
theorem dX8_lays_75 : decode prog_10_method_20_code 75 = .ok (.ireturn, 1) := by decide +kernel
theorem dX8_paper_0 : decode prog_10_method_21_code 0 = .ok (.iload_n 1, 1) := by decide +kernel
theorem dX8_paper_1 : decode prog_10_method_21_code 1 = .ok (.i2l, 1) := by decide +kernel
theorem dX8_paper_2 : decode prog_10_method_21_code 2 = .ok (.lconst 0, 1) := by decide +kernel
theorem dX8_paper_3 : decode prog_10_method_21_code 3 = .ok (.ldc2_w 108, 3) := by decide +kernel
theorem dX8_paper_6 : decode prog_10_method_21_code 6 = .ok (.invokestatic 65, 3) := by decide +kernel
theorem dX8_paper_9 : decode prog_10_method_21_code 9 = .ok (.ifCond .ne 6, 3) := by decide +kernel
theorem dX8_paper_12 : decode prog_10_method_21_code 12 = .ok (.ldc 72, 2) := by decide +kernel
theorem dX8_paper_14 : decode prog_10_method_21_code 14 = .ok (.ireturn, 1) := by decide +kernel
theorem dX8_paper_15 : decode prog_10_method_21_code 15 = .ok (.aload_n 0, 1) := by decide +kernel
theorem dX8_paper_16 : decode prog_10_method_21_code 16 = .ok (.getfield 7, 3) := by decide +kernel
theorem dX8_paper_19 : decode prog_10_method_21_code 19 = .ok (.iconst 2, 1) := by decide +kernel
theorem dX8_paper_20 : decode prog_10_method_21_code 20 = .ok (.iaload, 1) := by decide +kernel
theorem dX8_paper_21 : decode prog_10_method_21_code 21 = .ok (.bipush 20, 2) := by decide +kernel
theorem dX8_paper_23 : decode prog_10_method_21_code 23 = .ok (.if_icmp .ne 6, 3) := by decide +kernel
theorem dX8_paper_26 : decode prog_10_method_21_code 26 = .ok (.ldc 73, 2) := by decide +kernel
theorem dX8_paper_28 : decode prog_10_method_21_code 28 = .ok (.ireturn, 1) := by decide +kernel
theorem dX8_paper_29 : decode prog_10_method_21_code 29 = .ok (.aload_n 0, 1) := by decide +kernel
theorem dX8_paper_30 : decode prog_10_method_21_code 30 = .ok (.getfield 7, 3) := by decide +kernel
theorem dX8_paper_33 : decode prog_10_method_21_code 33 = .ok (.bipush 72, 2) := by decide +kernel
theorem dX8_paper_35 : decode prog_10_method_21_code 35 = .ok (.aload_n 0, 1) := by decide +kernel
theorem dX8_paper_36 : decode prog_10_method_21_code 36 = .ok (.getfield 7, 3) := by decide +kernel
theorem dX8_paper_39 : decode prog_10_method_21_code 39 = .ok (.iconst 2, 1) := by decide +kernel
theorem dX8_paper_40 : decode prog_10_method_21_code 40 = .ok (.iaload, 1) := by decide +kernel
theorem dX8_paper_41 : decode prog_10_method_21_code 41 = .ok (.iadd, 1) := by decide +kernel
theorem dX8_paper_42 : decode prog_10_method_21_code 42 = .ok (.iload_n 1, 1) := by decide +kernel
theorem dX8_paper_43 : decode prog_10_method_21_code 43 = .ok (.iastore, 1) := by decide +kernel
theorem dX8_paper_44 : decode prog_10_method_21_code 44 = .ok (.aload_n 0, 1) := by decide +kernel
theorem dX8_paper_45 : decode prog_10_method_21_code 45 = .ok (.getfield 7, 3) := by decide +kernel
theorem dX8_paper_48 : decode prog_10_method_21_code 48 = .ok (.iconst 2, 1) := by decide +kernel
theorem dX8_paper_49 : decode prog_10_method_21_code 49 = .ok (.dup2, 1) := by decide +kernel
theorem dX8_paper_50 : decode prog_10_method_21_code 50 = .ok (.iaload, 1) := by decide +kernel
theorem dX8_paper_51 : decode prog_10_method_21_code 51 = .ok (.iconst 1, 1) := by decide +kernel
theorem dX8_paper_52 : decode prog_10_method_21_code 52 = .ok (.iadd, 1) := by decide +kernel
theorem dX8_paper_53 : decode prog_10_method_21_code 53 = .ok (.iastore, 1) := by decide +kernel
theorem dX8_paper_54 : decode prog_10_method_21_code 54 = .ok (.aload_n 0, 1) := by decide +kernel
theorem dX8_paper_55 : decode prog_10_method_21_code 55 = .ok (.getfield 7, 3) := by decide +kernel
theorem dX8_paper_58 : decode prog_10_method_21_code 58 = .ok (.iconst 2, 1) := by decide +kernel
theorem dX8_paper_59 : decode prog_10_method_21_code 59 = .ok (.iaload, 1) := by decide +kernel
theorem dX8_paper_60 : decode prog_10_method_21_code 60 = .ok (.iconst 1, 1) := by decide +kernel
theorem dX8_paper_61 : decode prog_10_method_21_code 61 = .ok (.isub, 1) := by decide +kernel
theorem dX8_paper_62 : decode prog_10_method_21_code 62 = .ok (.ireturn, 1) := by decide +kernel
theorem dX8_sorts_0 : decode prog_10_method_22_code 0 = .ok (.iload_n 1, 1) := by decide +kernel
theorem dX8_sorts_1 : decode prog_10_method_22_code 1 = .ok (.i2l, 1) := by decide +kernel
theorem dX8_sorts_2 : decode prog_10_method_22_code 2 = .ok (.lconst 0, 1) := by decide +kernel
theorem dX8_sorts_3 : decode prog_10_method_22_code 3 = .ok (.aload_n 0, 1) := by decide +kernel
theorem dX8_sorts_4 : decode prog_10_method_22_code 4 = .ok (.getfield 7, 3) := by decide +kernel
theorem dX8_sorts_7 : decode prog_10_method_22_code 7 = .ok (.iconst 2, 1) := by decide +kernel
theorem dX8_sorts_8 : decode prog_10_method_22_code 8 = .ok (.iaload, 1) := by decide +kernel
theorem dX8_sorts_9 : decode prog_10_method_22_code 9 = .ok (.iconst 1, 1) := by decide +kernel
theorem dX8_sorts_10 : decode prog_10_method_22_code 10 = .ok (.isub, 1) := by decide +kernel
theorem dX8_sorts_11 : decode prog_10_method_22_code 11 = .ok (.i2l, 1) := by decide +kernel
theorem dX8_sorts_12 : decode prog_10_method_22_code 12 = .ok (.invokestatic 65, 3) := by decide +kernel
theorem dX8_sorts_15 : decode prog_10_method_22_code 15 = .ok (.ifCond .eq 27, 3) := by decide +kernel
theorem dX8_sorts_18 : decode prog_10_method_22_code 18 = .ok (.iload_n 2, 1) := by decide +kernel
theorem dX8_sorts_19 : decode prog_10_method_22_code 19 = .ok (.i2l, 1) := by decide +kernel
theorem dX8_sorts_20 : decode prog_10_method_22_code 20 = .ok (.lconst 0, 1) := by decide +kernel
theorem dX8_sorts_21 : decode prog_10_method_22_code 21 = .ok (.ldc2_w 108, 3) := by decide +kernel
theorem dX8_sorts_24 : decode prog_10_method_22_code 24 = .ok (.invokestatic 65, 3) := by decide +kernel
theorem dX8_sorts_27 : decode prog_10_method_22_code 27 = .ok (.ifCond .eq 15, 3) := by decide +kernel
theorem dX8_sorts_30 : decode prog_10_method_22_code 30 = .ok (.aload_n 0, 1) := by decide +kernel
theorem dX8_sorts_31 : decode prog_10_method_22_code 31 = .ok (.bipush 72, 2) := by decide +kernel
theorem dX8_sorts_33 : decode prog_10_method_22_code 33 = .ok (.iload_n 1, 1) := by decide +kernel
theorem dX8_sorts_34 : decode prog_10_method_22_code 34 = .ok (.iadd, 1) := by decide +kernel
theorem dX8_sorts_35 : decode prog_10_method_22_code 35 = .ok (.iload_n 2, 1) := by decide +kernel
theorem dX8_sorts_36 : decode prog_10_method_22_code 36 = .ok (.invokevirtual 112, 3) := by decide +kernel
theorem dX8_sorts_39 : decode prog_10_method_22_code 39 = .ok (.goto 5, 3) := by decide +kernel
theorem dX8_sorts_42 : decode prog_10_method_22_code 42 = .ok (.ldc 72, 2) := by decide +kernel
theorem dX8_sorts_44 : decode prog_10_method_22_code 44 = .ok (.ireturn, 1) := by decide +kernel
theorem dX8_rule_0 : decode prog_10_method_23_code 0 = .ok (.iload_n 1, 1) := by decide +kernel
theorem dX8_rule_1 : decode prog_10_method_23_code 1 = .ok (.tableswitch 93 0 2 #[27, 50, 72], 27) := by decide +kernel
theorem dX8_rule_28 : decode prog_10_method_23_code 28 = .ok (.iload_n 2, 1) := by decide +kernel
theorem dX8_rule_29 : decode prog_10_method_23_code 29 = .ok (.i2l, 1) := by decide +kernel
theorem dX8_rule_30 : decode prog_10_method_23_code 30 = .ok (.lconst 0, 1) := by decide +kernel
theorem dX8_rule_31 : decode prog_10_method_23_code 31 = .ok (.lconst 1, 1) := by decide +kernel
theorem dX8_rule_32 : decode prog_10_method_23_code 32 = .ok (.invokestatic 65, 3) := by decide +kernel
theorem dX8_rule_35 : decode prog_10_method_23_code 35 = .ok (.ifCond .eq 13, 3) := by decide +kernel
theorem dX8_rule_38 : decode prog_10_method_23_code 38 = .ok (.aload_n 0, 1) := by decide +kernel
theorem dX8_rule_39 : decode prog_10_method_23_code 39 = .ok (.bipush 7, 2) := by decide +kernel
theorem dX8_rule_41 : decode prog_10_method_23_code 41 = .ok (.iload_n 2, 1) := by decide +kernel
theorem dX8_rule_42 : decode prog_10_method_23_code 42 = .ok (.invokevirtual 112, 3) := by decide +kernel
theorem dX8_rule_45 : decode prog_10_method_23_code 45 = .ok (.goto 5, 3) := by decide +kernel
theorem dX8_rule_48 : decode prog_10_method_23_code 48 = .ok (.ldc 72, 2) := by decide +kernel
theorem dX8_rule_50 : decode prog_10_method_23_code 50 = .ok (.ireturn, 1) := by decide +kernel
theorem dX8_rule_51 : decode prog_10_method_23_code 51 = .ok (.iload_n 2, 1) := by decide +kernel
theorem dX8_rule_52 : decode prog_10_method_23_code 52 = .ok (.i2l, 1) := by decide +kernel
theorem dX8_rule_53 : decode prog_10_method_23_code 53 = .ok (.lconst 0, 1) := by decide +kernel
theorem dX8_rule_54 : decode prog_10_method_23_code 54 = .ok (.lconst 1, 1) := by decide +kernel
theorem dX8_rule_55 : decode prog_10_method_23_code 55 = .ok (.invokestatic 65, 3) := by decide +kernel
theorem dX8_rule_58 : decode prog_10_method_23_code 58 = .ok (.ifCond .eq 12, 3) := by decide +kernel
theorem dX8_rule_61 : decode prog_10_method_23_code 61 = .ok (.aload_n 0, 1) := by decide +kernel
theorem dX8_rule_62 : decode prog_10_method_23_code 62 = .ok (.iconst 5, 1) := by decide +kernel
theorem dX8_rule_63 : decode prog_10_method_23_code 63 = .ok (.iload_n 2, 1) := by decide +kernel
theorem dX8_rule_64 : decode prog_10_method_23_code 64 = .ok (.invokevirtual 112, 3) := by decide +kernel
theorem dX8_rule_67 : decode prog_10_method_23_code 67 = .ok (.goto 5, 3) := by decide +kernel
theorem dX8_rule_70 : decode prog_10_method_23_code 70 = .ok (.ldc 72, 2) := by decide +kernel
theorem dX8_rule_72 : decode prog_10_method_23_code 72 = .ok (.ireturn, 1) := by decide +kernel
theorem dX8_rule_73 : decode prog_10_method_23_code 73 = .ok (.aload_n 0, 1) := by decide +kernel
theorem dX8_rule_74 : decode prog_10_method_23_code 74 = .ok (.iload_n 2, 1) := by decide +kernel
theorem dX8_rule_75 : decode prog_10_method_23_code 75 = .ok (.invokevirtual 95, 3) := by decide +kernel
theorem dX8_rule_78 : decode prog_10_method_23_code 78 = .ok (.ifCond .eq 13, 3) := by decide +kernel
theorem dX8_rule_81 : decode prog_10_method_23_code 81 = .ok (.aload_n 0, 1) := by decide +kernel
theorem dX8_rule_82 : decode prog_10_method_23_code 82 = .ok (.bipush 6, 2) := by decide +kernel
theorem dX8_rule_84 : decode prog_10_method_23_code 84 = .ok (.iload_n 2, 1) := by decide +kernel
theorem dX8_rule_85 : decode prog_10_method_23_code 85 = .ok (.invokevirtual 112, 3) := by decide +kernel
theorem dX8_rule_88 : decode prog_10_method_23_code 88 = .ok (.goto 5, 3) := by decide +kernel
theorem dX8_rule_91 : decode prog_10_method_23_code 91 = .ok (.ldc 72, 2) := by decide +kernel
theorem dX8_rule_93 : decode prog_10_method_23_code 93 = .ok (.ireturn, 1) := by decide +kernel
theorem dX8_rule_94 : decode prog_10_method_23_code 94 = .ok (.ldc 72, 2) := by decide +kernel
theorem dX8_rule_96 : decode prog_10_method_23_code 96 = .ok (.ireturn, 1) := by decide +kernel
theorem dX8_comes_0 : decode prog_10_method_24_code 0 = .ok (.bipush 42, 2) := by decide +kernel
theorem dX8_comes_2 : decode prog_10_method_24_code 2 = .ok (.iconst 3, 1) := by decide +kernel
theorem dX8_comes_3 : decode prog_10_method_24_code 3 = .ok (.aload_n 0, 1) := by decide +kernel
theorem dX8_comes_4 : decode prog_10_method_24_code 4 = .ok (.getfield 7, 3) := by decide +kernel
theorem dX8_comes_7 : decode prog_10_method_24_code 7 = .ok (.iconst 1, 1) := by decide +kernel
theorem dX8_comes_8 : decode prog_10_method_24_code 8 = .ok (.iaload, 1) := by decide +kernel
theorem dX8_comes_9 : decode prog_10_method_24_code 9 = .ok (.imul, 1) := by decide +kernel
theorem dX8_comes_10 : decode prog_10_method_24_code 10 = .ok (.iadd, 1) := by decide +kernel
theorem dX8_comes_11 : decode prog_10_method_24_code 11 = .ok (.istore 4, 2) := by decide +kernel
theorem dX8_comes_13 : decode prog_10_method_24_code 13 = .ok (.aload_n 0, 1) := by decide +kernel
theorem dX8_comes_14 : decode prog_10_method_24_code 14 = .ok (.getfield 7, 3) := by decide +kernel
theorem dX8_comes_17 : decode prog_10_method_24_code 17 = .ok (.iload 4, 2) := by decide +kernel
theorem dX8_comes_19 : decode prog_10_method_24_code 19 = .ok (.iload_n 1, 1) := by decide +kernel
theorem dX8_comes_20 : decode prog_10_method_24_code 20 = .ok (.iastore, 1) := by decide +kernel
theorem dX8_comes_21 : decode prog_10_method_24_code 21 = .ok (.aload_n 0, 1) := by decide +kernel
theorem dX8_comes_22 : decode prog_10_method_24_code 22 = .ok (.getfield 7, 3) := by decide +kernel
theorem dX8_comes_25 : decode prog_10_method_24_code 25 = .ok (.iload 4, 2) := by decide +kernel
theorem dX8_comes_27 : decode prog_10_method_24_code 27 = .ok (.iconst 1, 1) := by decide +kernel
theorem dX8_comes_28 : decode prog_10_method_24_code 28 = .ok (.iadd, 1) := by decide +kernel
theorem dX8_comes_29 : decode prog_10_method_24_code 29 = .ok (.iload_n 2, 1) := by decide +kernel
theorem dX8_comes_30 : decode prog_10_method_24_code 30 = .ok (.iastore, 1) := by decide +kernel
theorem dX8_comes_31 : decode prog_10_method_24_code 31 = .ok (.aload_n 0, 1) := by decide +kernel
theorem dX8_comes_32 : decode prog_10_method_24_code 32 = .ok (.getfield 7, 3) := by decide +kernel
theorem dX8_comes_35 : decode prog_10_method_24_code 35 = .ok (.iload 4, 2) := by decide +kernel
theorem dX8_comes_37 : decode prog_10_method_24_code 37 = .ok (.iconst 2, 1) := by decide +kernel
theorem dX8_comes_38 : decode prog_10_method_24_code 38 = .ok (.iadd, 1) := by decide +kernel
theorem dX8_comes_39 : decode prog_10_method_24_code 39 = .ok (.iload_n 3, 1) := by decide +kernel
theorem dX8_comes_40 : decode prog_10_method_24_code 40 = .ok (.iastore, 1) := by decide +kernel
theorem dX8_comes_41 : decode prog_10_method_24_code 41 = .ok (.aload_n 0, 1) := by decide +kernel
theorem dX8_comes_42 : decode prog_10_method_24_code 42 = .ok (.getfield 7, 3) := by decide +kernel
theorem dX8_comes_45 : decode prog_10_method_24_code 45 = .ok (.iconst 1, 1) := by decide +kernel
theorem dX8_comes_46 : decode prog_10_method_24_code 46 = .ok (.dup2, 1) := by decide +kernel
theorem dX8_comes_47 : decode prog_10_method_24_code 47 = .ok (.iaload, 1) := by decide +kernel
theorem dX8_comes_48 : decode prog_10_method_24_code 48 = .ok (.iconst 1, 1) := by decide +kernel
theorem dX8_comes_49 : decode prog_10_method_24_code 49 = .ok (.iadd, 1) := by decide +kernel
theorem dX8_comes_50 : decode prog_10_method_24_code 50 = .ok (.iastore, 1) := by decide +kernel
theorem dX8_comes_51 : decode prog_10_method_24_code 51 = .ok (.return_, 1) := by decide +kernel
theorem dX8_stop_0 : decode prog_10_method_25_code 0 = .ok (.iload_n 1, 1) := by decide +kernel
theorem dX8_stop_1 : decode prog_10_method_25_code 1 = .ok (.i2l, 1) := by decide +kernel
theorem dX8_stop_2 : decode prog_10_method_25_code 2 = .ok (.lconst 0, 1) := by decide +kernel
theorem dX8_stop_3 : decode prog_10_method_25_code 3 = .ok (.ldc2_w 115, 3) := by decide +kernel
theorem dX8_stop_6 : decode prog_10_method_25_code 6 = .ok (.invokestatic 65, 3) := by decide +kernel
theorem dX8_stop_9 : decode prog_10_method_25_code 9 = .ok (.ifCond .eq 27, 3) := by decide +kernel
theorem dX8_stop_12 : decode prog_10_method_25_code 12 = .ok (.iload_n 2, 1) := by decide +kernel
theorem dX8_stop_13 : decode prog_10_method_25_code 13 = .ok (.i2l, 1) := by decide +kernel
theorem dX8_stop_14 : decode prog_10_method_25_code 14 = .ok (.lconst 0, 1) := by decide +kernel
theorem dX8_stop_15 : decode prog_10_method_25_code 15 = .ok (.ldc2_w 110, 3) := by decide +kernel
theorem dX8_stop_18 : decode prog_10_method_25_code 18 = .ok (.invokestatic 65, 3) := by decide +kernel
theorem dX8_stop_21 : decode prog_10_method_25_code 21 = .ok (.ifCond .eq 15, 3) := by decide +kernel
theorem dX8_stop_24 : decode prog_10_method_25_code 24 = .ok (.iload_n 3, 1) := by decide +kernel
theorem dX8_stop_25 : decode prog_10_method_25_code 25 = .ok (.i2l, 1) := by decide +kernel
theorem dX8_stop_26 : decode prog_10_method_25_code 26 = .ok (.lconst 0, 1) := by decide +kernel
theorem dX8_stop_27 : decode prog_10_method_25_code 27 = .ok (.ldc2_w 70, 3) := by decide +kernel
theorem dX8_stop_30 : decode prog_10_method_25_code 30 = .ok (.invokestatic 65, 3) := by decide +kernel
theorem dX8_stop_33 : decode prog_10_method_25_code 33 = .ok (.ifCond .ne 6, 3) := by decide +kernel
theorem dX8_stop_36 : decode prog_10_method_25_code 36 = .ok (.ldc 72, 2) := by decide +kernel
theorem dX8_stop_38 : decode prog_10_method_25_code 38 = .ok (.ireturn, 1) := by decide +kernel
theorem dX8_stop_39 : decode prog_10_method_25_code 39 = .ok (.aload_n 0, 1) := by decide +kernel
theorem dX8_stop_40 : decode prog_10_method_25_code 40 = .ok (.getfield 7, 3) := by decide +kernel
theorem dX8_stop_43 : decode prog_10_method_25_code 43 = .ok (.iconst 1, 1) := by decide +kernel
theorem dX8_stop_44 : decode prog_10_method_25_code 44 = .ok (.iaload, 1) := by decide +kernel
theorem dX8_stop_45 : decode prog_10_method_25_code 45 = .ok (.bipush 10, 2) := by decide +kernel
theorem dX8_stop_47 : decode prog_10_method_25_code 47 = .ok (.if_icmp .ne 6, 3) := by decide +kernel
theorem dX8_stop_50 : decode prog_10_method_25_code 50 = .ok (.ldc 73, 2) := by decide +kernel
theorem dX8_stop_52 : decode prog_10_method_25_code 52 = .ok (.ireturn, 1) := by decide +kernel
theorem dX8_stop_53 : decode prog_10_method_25_code 53 = .ok (.aload_n 0, 1) := by decide +kernel
theorem dX8_stop_54 : decode prog_10_method_25_code 54 = .ok (.iload_n 1, 1) := by decide +kernel
theorem dX8_stop_55 : decode prog_10_method_25_code 55 = .ok (.iload_n 2, 1) := by decide +kernel
theorem dX8_stop_56 : decode prog_10_method_25_code 56 = .ok (.iload_n 3, 1) := by decide +kernel
theorem dX8_stop_57 : decode prog_10_method_25_code 57 = .ok (.invokevirtual 117, 3) := by decide +kernel
theorem dX8_stop_60 : decode prog_10_method_25_code 60 = .ok (.aload_n 0, 1) := by decide +kernel
theorem dX8_stop_61 : decode prog_10_method_25_code 61 = .ok (.getfield 7, 3) := by decide +kernel
theorem dX8_stop_64 : decode prog_10_method_25_code 64 = .ok (.iconst 1, 1) := by decide +kernel
theorem dX8_stop_65 : decode prog_10_method_25_code 65 = .ok (.iaload, 1) := by decide +kernel
theorem dX8_stop_66 : decode prog_10_method_25_code 66 = .ok (.iconst 1, 1) := by decide +kernel
theorem dX8_stop_67 : decode prog_10_method_25_code 67 = .ok (.isub, 1) := by decide +kernel
theorem dX8_stop_68 : decode prog_10_method_25_code 68 = .ok (.ireturn, 1) := by decide +kernel
theorem dX8_isStop_0 : decode prog_10_method_10_code 0 = .ok (.iload_n 1, 1) := by decide +kernel
theorem dX8_isStop_1 : decode prog_10_method_10_code 1 = .ok (.i2l, 1) := by decide +kernel
theorem dX8_isStop_2 : decode prog_10_method_10_code 2 = .ok (.lconst 0, 1) := by decide +kernel
theorem dX8_isStop_3 : decode prog_10_method_10_code 3 = .ok (.aload_n 0, 1) := by decide +kernel
theorem dX8_isStop_4 : decode prog_10_method_10_code 4 = .ok (.getfield 7, 3) := by decide +kernel
theorem dX8_isStop_7 : decode prog_10_method_10_code 7 = .ok (.iconst 1, 1) := by decide +kernel
theorem dX8_isStop_8 : decode prog_10_method_10_code 8 = .ok (.iaload, 1) := by decide +kernel
theorem dX8_isStop_9 : decode prog_10_method_10_code 9 = .ok (.iconst 1, 1) := by decide +kernel
theorem dX8_isStop_10 : decode prog_10_method_10_code 10 = .ok (.isub, 1) := by decide +kernel
theorem dX8_isStop_11 : decode prog_10_method_10_code 11 = .ok (.i2l, 1) := by decide +kernel
theorem dX8_isStop_12 : decode prog_10_method_10_code 12 = .ok (.invokestatic 65, 3) := by decide +kernel
theorem dX8_isStop_15 : decode prog_10_method_10_code 15 = .ok (.ireturn, 1) := by decide +kernel
theorem dX8_of_0 : decode prog_10_method_8_code 0 = .ok (.aload_n 0, 1) := by decide +kernel
theorem dX8_of_1 : decode prog_10_method_8_code 1 = .ok (.getfield 7, 3) := by decide +kernel
theorem dX8_of_4 : decode prog_10_method_8_code 4 = .ok (.bipush 42, 2) := by decide +kernel
theorem dX8_of_6 : decode prog_10_method_8_code 6 = .ok (.iconst 3, 1) := by decide +kernel
theorem dX8_of_7 : decode prog_10_method_8_code 7 = .ok (.iload_n 1, 1) := by decide +kernel
theorem dX8_of_8 : decode prog_10_method_8_code 8 = .ok (.imul, 1) := by decide +kernel
theorem dX8_of_9 : decode prog_10_method_8_code 9 = .ok (.iadd, 1) := by decide +kernel
theorem dX8_of_10 : decode prog_10_method_8_code 10 = .ok (.iload_n 2, 1) := by decide +kernel
theorem dX8_of_11 : decode prog_10_method_8_code 11 = .ok (.iadd, 1) := by decide +kernel
theorem dX8_of_12 : decode prog_10_method_8_code 12 = .ok (.iaload, 1) := by decide +kernel
theorem dX8_of_13 : decode prog_10_method_8_code 13 = .ok (.ireturn, 1) := by decide +kernel
theorem dX8_isLot_0 : decode prog_10_method_26_code 0 = .ok (.aload_n 0, 1) := by decide +kernel
theorem dX8_isLot_1 : decode prog_10_method_26_code 1 = .ok (.iload_n 1, 1) := by decide +kernel
theorem dX8_isLot_2 : decode prog_10_method_26_code 2 = .ok (.iconst 0, 1) := by decide +kernel
theorem dX8_isLot_3 : decode prog_10_method_26_code 3 = .ok (.invokevirtual 121, 3) := by decide +kernel
theorem dX8_isLot_6 : decode prog_10_method_26_code 6 = .ok (.iconst 1, 1) := by decide +kernel
theorem dX8_isLot_7 : decode prog_10_method_26_code 7 = .ok (.if_icmp .eq 13, 3) := by decide +kernel
theorem dX8_isLot_10 : decode prog_10_method_26_code 10 = .ok (.aload_n 0, 1) := by decide +kernel
theorem dX8_isLot_11 : decode prog_10_method_26_code 11 = .ok (.iload_n 1, 1) := by decide +kernel
theorem dX8_isLot_12 : decode prog_10_method_26_code 12 = .ok (.iconst 0, 1) := by decide +kernel
theorem dX8_isLot_13 : decode prog_10_method_26_code 13 = .ok (.invokevirtual 121, 3) := by decide +kernel
theorem dX8_isLot_16 : decode prog_10_method_26_code 16 = .ok (.iconst 3, 1) := by decide +kernel
theorem dX8_isLot_17 : decode prog_10_method_26_code 17 = .ok (.if_icmp .ne 7, 3) := by decide +kernel
theorem dX8_isLot_20 : decode prog_10_method_26_code 20 = .ok (.iconst 1, 1) := by decide +kernel
theorem dX8_isLot_21 : decode prog_10_method_26_code 21 = .ok (.goto 4, 3) := by decide +kernel
theorem dX8_isLot_24 : decode prog_10_method_26_code 24 = .ok (.iconst 0, 1) := by decide +kernel
theorem dX8_isLot_25 : decode prog_10_method_26_code 25 = .ok (.ireturn, 1) := by decide +kernel
theorem dX8_lasts_0 : decode prog_10_method_27_code 0 = .ok (.aload_n 0, 1) := by decide +kernel
theorem dX8_lasts_1 : decode prog_10_method_27_code 1 = .ok (.iload_n 1, 1) := by decide +kernel
theorem dX8_lasts_2 : decode prog_10_method_27_code 2 = .ok (.iconst 1, 1) := by decide +kernel
theorem dX8_lasts_3 : decode prog_10_method_27_code 3 = .ok (.invokevirtual 121, 3) := by decide +kernel
theorem dX8_lasts_6 : decode prog_10_method_27_code 6 = .ok (.istore_n 3, 1) := by decide +kernel
theorem dX8_lasts_7 : decode prog_10_method_27_code 7 = .ok (.aload_n 0, 1) := by decide +kernel
theorem dX8_lasts_8 : decode prog_10_method_27_code 8 = .ok (.iconst 1, 1) := by decide +kernel
theorem dX8_lasts_9 : decode prog_10_method_27_code 9 = .ok (.invokevirtual 81, 3) := by decide +kernel
theorem dX8_lasts_12 : decode prog_10_method_27_code 12 = .ok (.istore 4, 2) := by decide +kernel
theorem dX8_lasts_14 : decode prog_10_method_27_code 14 = .ok (.iload 4, 2) := by decide +kernel
theorem dX8_lasts_16 : decode prog_10_method_27_code 16 = .ok (.ifCond .lt 57, 3) := by decide +kernel
theorem dX8_lasts_19 : decode prog_10_method_27_code 19 = .ok (.aload_n 0, 1) := by decide +kernel
theorem dX8_lasts_20 : decode prog_10_method_27_code 20 = .ok (.getfield 49, 3) := by decide +kernel
theorem dX8_lasts_23 : decode prog_10_method_27_code 23 = .ok (.bipush 115, 2) := by decide +kernel
theorem dX8_lasts_25 : decode prog_10_method_27_code 25 = .ok (.aload_n 0, 1) := by decide +kernel
theorem dX8_lasts_26 : decode prog_10_method_27_code 26 = .ok (.iload_n 1, 1) := by decide +kernel
theorem dX8_lasts_27 : decode prog_10_method_27_code 27 = .ok (.iconst 1, 1) := by decide +kernel
theorem dX8_lasts_28 : decode prog_10_method_27_code 28 = .ok (.invokevirtual 121, 3) := by decide +kernel
theorem dX8_lasts_31 : decode prog_10_method_27_code 31 = .ok (.iastore, 1) := by decide +kernel
theorem dX8_lasts_32 : decode prog_10_method_27_code 32 = .ok (.aload_n 0, 1) := by decide +kernel
theorem dX8_lasts_33 : decode prog_10_method_27_code 33 = .ok (.getfield 49, 3) := by decide +kernel
theorem dX8_lasts_36 : decode prog_10_method_27_code 36 = .ok (.bipush 112, 2) := by decide +kernel
theorem dX8_lasts_38 : decode prog_10_method_27_code 38 = .ok (.aload_n 0, 1) := by decide +kernel
theorem dX8_lasts_39 : decode prog_10_method_27_code 39 = .ok (.getfield 7, 3) := by decide +kernel
theorem dX8_lasts_42 : decode prog_10_method_27_code 42 = .ok (.iconst 4, 1) := by decide +kernel
theorem dX8_lasts_43 : decode prog_10_method_27_code 43 = .ok (.iaload, 1) := by decide +kernel
theorem dX8_lasts_44 : decode prog_10_method_27_code 44 = .ok (.iastore, 1) := by decide +kernel
theorem dX8_lasts_45 : decode prog_10_method_27_code 45 = .ok (.aload_n 0, 1) := by decide +kernel
theorem dX8_lasts_46 : decode prog_10_method_27_code 46 = .ok (.getfield 49, 3) := by decide +kernel
theorem dX8_lasts_49 : decode prog_10_method_27_code 49 = .ok (.bipush 116, 2) := by decide +kernel
theorem dX8_lasts_51 : decode prog_10_method_27_code 51 = .ok (.aload_n 0, 1) := by decide +kernel
theorem dX8_lasts_52 : decode prog_10_method_27_code 52 = .ok (.getfield 7, 3) := by decide +kernel
theorem dX8_lasts_55 : decode prog_10_method_27_code 55 = .ok (.bipush 8, 2) := by decide +kernel
theorem dX8_lasts_57 : decode prog_10_method_27_code 57 = .ok (.iaload, 1) := by decide +kernel
theorem dX8_lasts_58 : decode prog_10_method_27_code 58 = .ok (.iastore, 1) := by decide +kernel
theorem dX8_lasts_59 : decode prog_10_method_27_code 59 = .ok (.aload_n 0, 1) := by decide +kernel
theorem dX8_lasts_60 : decode prog_10_method_27_code 60 = .ok (.iload 4, 2) := by decide +kernel
theorem dX8_lasts_62 : decode prog_10_method_27_code 62 = .ok (.invokevirtual 89, 3) := by decide +kernel
theorem dX8_lasts_65 : decode prog_10_method_27_code 65 = .ok (.iconst 0, 1) := by decide +kernel
theorem dX8_lasts_66 : decode prog_10_method_27_code 66 = .ok (.sipush 999, 3) := by decide +kernel
theorem dX8_lasts_69 : decode prog_10_method_27_code 69 = .ok (.invokestatic 92, 3) := by decide +kernel
theorem dX8_lasts_72 : decode prog_10_method_27_code 72 = .ok (.istore_n 3, 1) := by decide +kernel
theorem dX8_lasts_73 : decode prog_10_method_27_code 73 = .ok (.aload_n 0, 1) := by decide +kernel
theorem dX8_lasts_74 : decode prog_10_method_27_code 74 = .ok (.iload_n 1, 1) := by decide +kernel
theorem dX8_lasts_75 : decode prog_10_method_27_code 75 = .ok (.invokevirtual 124, 3) := by decide +kernel
theorem dX8_lasts_78 : decode prog_10_method_27_code 78 = .ok (.ifCond .eq 7, 3) := by decide +kernel
theorem dX8_lasts_81 : decode prog_10_method_27_code 81 = .ok (.iload_n 3, 1) := by decide +kernel
theorem dX8_lasts_82 : decode prog_10_method_27_code 82 = .ok (.iload_n 2, 1) := by decide +kernel
theorem dX8_lasts_83 : decode prog_10_method_27_code 83 = .ok (.iadd, 1) := by decide +kernel
theorem dX8_lasts_84 : decode prog_10_method_27_code 84 = .ok (.ireturn, 1) := by decide +kernel
theorem dX8_lasts_85 : decode prog_10_method_27_code 85 = .ok (.aload_n 0, 1) := by decide +kernel
theorem dX8_lasts_86 : decode prog_10_method_27_code 86 = .ok (.iload_n 1, 1) := by decide +kernel
theorem dX8_lasts_87 : decode prog_10_method_27_code 87 = .ok (.iconst 0, 1) := by decide +kernel
theorem dX8_lasts_88 : decode prog_10_method_27_code 88 = .ok (.invokevirtual 121, 3) := by decide +kernel
theorem dX8_lasts_91 : decode prog_10_method_27_code 91 = .ok (.iconst 5, 1) := by decide +kernel
theorem dX8_lasts_92 : decode prog_10_method_27_code 92 = .ok (.if_icmp .ne 13, 3) := by decide +kernel
theorem dX8_lasts_95 : decode prog_10_method_27_code 95 = .ok (.iload_n 3, 1) := by decide +kernel
theorem dX8_lasts_96 : decode prog_10_method_27_code 96 = .ok (.ifCond .le 9, 3) := by decide +kernel
theorem dX8_lasts_99 : decode prog_10_method_27_code 99 = .ok (.iload_n 3, 1) := by decide +kernel
theorem dX8_lasts_100 : decode prog_10_method_27_code 100 = .ok (.iconst 1, 1) := by decide +kernel
theorem dX8_lasts_101 : decode prog_10_method_27_code 101 = .ok (.isub, 1) := by decide +kernel
theorem dX8_lasts_102 : decode prog_10_method_27_code 102 = .ok (.goto 4, 3) := by decide +kernel
theorem dX8_lasts_105 : decode prog_10_method_27_code 105 = .ok (.iload_n 3, 1) := by decide +kernel
theorem dX8_lasts_106 : decode prog_10_method_27_code 106 = .ok (.ireturn, 1) := by decide +kernel
theorem dX8_worth_0 : decode prog_10_method_28_code 0 = .ok (.aload_n 0, 1) := by decide +kernel
theorem dX8_worth_1 : decode prog_10_method_28_code 1 = .ok (.iload_n 1, 1) := by decide +kernel
theorem dX8_worth_2 : decode prog_10_method_28_code 2 = .ok (.iconst 1, 1) := by decide +kernel
theorem dX8_worth_3 : decode prog_10_method_28_code 3 = .ok (.invokevirtual 121, 3) := by decide +kernel
theorem dX8_worth_6 : decode prog_10_method_28_code 6 = .ok (.istore_n 2, 1) := by decide +kernel
theorem dX8_worth_7 : decode prog_10_method_28_code 7 = .ok (.aload_n 0, 1) := by decide +kernel
theorem dX8_worth_8 : decode prog_10_method_28_code 8 = .ok (.iload_n 1, 1) := by decide +kernel
theorem dX8_worth_9 : decode prog_10_method_28_code 9 = .ok (.iconst 0, 1) := by decide +kernel
theorem dX8_worth_10 : decode prog_10_method_28_code 10 = .ok (.invokevirtual 121, 3) := by decide +kernel
theorem dX8_worth_13 : decode prog_10_method_28_code 13 = .ok (.tableswitch 59 1 5 #[35, 40, 45, 52, 57], 35) := by decide +kernel
theorem dX8_worth_48 : decode prog_10_method_28_code 48 = .ok (.iload_n 2, 1) := by decide +kernel
theorem dX8_worth_49 : decode prog_10_method_28_code 49 = .ok (.bipush 9, 2) := by decide +kernel
theorem dX8_worth_51 : decode prog_10_method_28_code 51 = .ok (.iadd, 1) := by decide +kernel
theorem dX8_worth_52 : decode prog_10_method_28_code 52 = .ok (.ireturn, 1) := by decide +kernel
theorem dX8_worth_53 : decode prog_10_method_28_code 53 = .ok (.bipush 99, 2) := by decide +kernel
theorem dX8_worth_55 : decode prog_10_method_28_code 55 = .ok (.iload_n 2, 1) := by decide +kernel
theorem dX8_worth_56 : decode prog_10_method_28_code 56 = .ok (.isub, 1) := by decide +kernel
theorem dX8_worth_57 : decode prog_10_method_28_code 57 = .ok (.ireturn, 1) := by decide +kernel
theorem dX8_worth_58 : decode prog_10_method_28_code 58 = .ok (.iconst 2, 1) := by decide +kernel
theorem dX8_worth_59 : decode prog_10_method_28_code 59 = .ok (.iload_n 2, 1) := by decide +kernel
theorem dX8_worth_60 : decode prog_10_method_28_code 60 = .ok (.bipush 9, 2) := by decide +kernel
theorem dX8_worth_62 : decode prog_10_method_28_code 62 = .ok (.iadd, 1) := by decide +kernel
theorem dX8_worth_63 : decode prog_10_method_28_code 63 = .ok (.imul, 1) := by decide +kernel
theorem dX8_worth_64 : decode prog_10_method_28_code 64 = .ok (.ireturn, 1) := by decide +kernel
theorem dX8_worth_65 : decode prog_10_method_28_code 65 = .ok (.bipush 94, 2) := by decide +kernel
theorem dX8_worth_67 : decode prog_10_method_28_code 67 = .ok (.iload_n 2, 1) := by decide +kernel
theorem dX8_worth_68 : decode prog_10_method_28_code 68 = .ok (.isub, 1) := by decide +kernel
theorem dX8_worth_69 : decode prog_10_method_28_code 69 = .ok (.ireturn, 1) := by decide +kernel
theorem dX8_worth_70 : decode prog_10_method_28_code 70 = .ok (.iconst 4, 1) := by decide +kernel
theorem dX8_worth_71 : decode prog_10_method_28_code 71 = .ok (.ireturn, 1) := by decide +kernel
theorem dX8_worth_72 : decode prog_10_method_28_code 72 = .ok (.iload_n 2, 1) := by decide +kernel
theorem dX8_worth_73 : decode prog_10_method_28_code 73 = .ok (.ireturn, 1) := by decide +kernel
theorem dX8_told_0 : decode prog_10_method_29_code 0 = .ok (.aload_n 0, 1) := by decide +kernel
theorem dX8_told_1 : decode prog_10_method_29_code 1 = .ok (.iload_n 1, 1) := by decide +kernel
theorem dX8_told_2 : decode prog_10_method_29_code 2 = .ok (.invokevirtual 127, 3) := by decide +kernel
theorem dX8_told_5 : decode prog_10_method_29_code 5 = .ok (.ifCond .ne 6, 3) := by decide +kernel
theorem dX8_told_8 : decode prog_10_method_29_code 8 = .ok (.ldc 72, 2) := by decide +kernel
theorem dX8_told_10 : decode prog_10_method_29_code 10 = .ok (.ireturn, 1) := by decide +kernel
theorem dX8_told_11 : decode prog_10_method_29_code 11 = .ok (.iload_n 2, 1) := by decide +kernel
theorem dX8_told_12 : decode prog_10_method_29_code 12 = .ok (.tableswitch 68 0 5 #[40, 40, 40, 47, 54, 62], 40) := by decide +kernel
theorem dX8_told_52 : decode prog_10_method_29_code 52 = .ok (.aload_n 0, 1) := by decide +kernel
theorem dX8_told_53 : decode prog_10_method_29_code 53 = .ok (.iload_n 1, 1) := by decide +kernel
theorem dX8_told_54 : decode prog_10_method_29_code 54 = .ok (.iload_n 2, 1) := by decide +kernel
theorem dX8_told_55 : decode prog_10_method_29_code 55 = .ok (.invokevirtual 121, 3) := by decide +kernel
theorem dX8_told_58 : decode prog_10_method_29_code 58 = .ok (.ireturn, 1) := by decide +kernel
theorem dX8_told_59 : decode prog_10_method_29_code 59 = .ok (.aload_n 0, 1) := by decide +kernel
theorem dX8_told_60 : decode prog_10_method_29_code 60 = .ok (.iload_n 1, 1) := by decide +kernel
theorem dX8_told_61 : decode prog_10_method_29_code 61 = .ok (.iconst 0, 1) := by decide +kernel
theorem dX8_told_62 : decode prog_10_method_29_code 62 = .ok (.invokevirtual 130, 3) := by decide +kernel
theorem dX8_told_65 : decode prog_10_method_29_code 65 = .ok (.ireturn, 1) := by decide +kernel
theorem dX8_told_66 : decode prog_10_method_29_code 66 = .ok (.aload_n 0, 1) := by decide +kernel
theorem dX8_told_67 : decode prog_10_method_29_code 67 = .ok (.iload_n 1, 1) := by decide +kernel
theorem dX8_told_68 : decode prog_10_method_29_code 68 = .ok (.bipush 9, 2) := by decide +kernel
theorem dX8_told_70 : decode prog_10_method_29_code 70 = .ok (.invokevirtual 130, 3) := by decide +kernel
theorem dX8_told_73 : decode prog_10_method_29_code 73 = .ok (.ireturn, 1) := by decide +kernel
theorem dX8_told_74 : decode prog_10_method_29_code 74 = .ok (.aload_n 0, 1) := by decide +kernel
theorem dX8_told_75 : decode prog_10_method_29_code 75 = .ok (.iload_n 1, 1) := by decide +kernel
theorem dX8_told_76 : decode prog_10_method_29_code 76 = .ok (.invokevirtual 133, 3) := by decide +kernel
theorem dX8_told_79 : decode prog_10_method_29_code 79 = .ok (.ireturn, 1) := by decide +kernel
theorem dX8_told_80 : decode prog_10_method_29_code 80 = .ok (.ldc 72, 2) := by decide +kernel
theorem dX8_told_82 : decode prog_10_method_29_code 82 = .ok (.ireturn, 1) := by decide +kernel
theorem dX8_isOf_0 : decode prog_10_method_30_code 0 = .ok (.iload_n 0, 1) := by decide +kernel
theorem dX8_isOf_1 : decode prog_10_method_30_code 1 = .ok (.iload_n 1, 1) := by decide +kernel
theorem dX8_isOf_2 : decode prog_10_method_30_code 2 = .ok (.if_icmp .eq 27, 3) := by decide +kernel
theorem dX8_isOf_5 : decode prog_10_method_30_code 5 = .ok (.iload_n 1, 1) := by decide +kernel
theorem dX8_isOf_6 : decode prog_10_method_30_code 6 = .ok (.ifCond .eq 23, 3) := by decide +kernel
theorem dX8_isOf_9 : decode prog_10_method_30_code 9 = .ok (.iload_n 1, 1) := by decide +kernel
theorem dX8_isOf_10 : decode prog_10_method_30_code 10 = .ok (.iconst 1, 1) := by decide +kernel
theorem dX8_isOf_11 : decode prog_10_method_30_code 11 = .ok (.if_icmp .ne 8, 3) := by decide +kernel
theorem dX8_isOf_14 : decode prog_10_method_30_code 14 = .ok (.iload_n 0, 1) := by decide +kernel
theorem dX8_isOf_15 : decode prog_10_method_30_code 15 = .ok (.iconst 3, 1) := by decide +kernel
theorem dX8_isOf_16 : decode prog_10_method_30_code 16 = .ok (.if_icmp .eq 13, 3) := by decide +kernel
theorem dX8_isOf_19 : decode prog_10_method_30_code 19 = .ok (.iload_n 1, 1) := by decide +kernel
theorem dX8_isOf_20 : decode prog_10_method_30_code 20 = .ok (.iconst 2, 1) := by decide +kernel
theorem dX8_isOf_21 : decode prog_10_method_30_code 21 = .ok (.if_icmp .ne 12, 3) := by decide +kernel
theorem dX8_isOf_24 : decode prog_10_method_30_code 24 = .ok (.iload_n 0, 1) := by decide +kernel
theorem dX8_isOf_25 : decode prog_10_method_30_code 25 = .ok (.iconst 4, 1) := by decide +kernel
theorem dX8_isOf_26 : decode prog_10_method_30_code 26 = .ok (.if_icmp .ne 7, 3) := by decide +kernel
theorem dX8_isOf_29 : decode prog_10_method_30_code 29 = .ok (.iconst 1, 1) := by decide +kernel
theorem dX8_isOf_30 : decode prog_10_method_30_code 30 = .ok (.goto 4, 3) := by decide +kernel
theorem dX8_isOf_33 : decode prog_10_method_30_code 33 = .ok (.iconst 0, 1) := by decide +kernel
theorem dX8_isOf_34 : decode prog_10_method_30_code 34 = .ok (.ireturn, 1) := by decide +kernel
theorem dX8_as_0 : decode prog_10_method_31_code 0 = .ok (.aload_n 0, 1) := by decide +kernel
theorem dX8_as_1 : decode prog_10_method_31_code 1 = .ok (.iload_n 1, 1) := by decide +kernel
theorem dX8_as_2 : decode prog_10_method_31_code 2 = .ok (.invokevirtual 127, 3) := by decide +kernel
theorem dX8_as_5 : decode prog_10_method_31_code 5 = .ok (.ifCond .eq 15, 3) := by decide +kernel
theorem dX8_as_8 : decode prog_10_method_31_code 8 = .ok (.iload_n 2, 1) := by decide +kernel
theorem dX8_as_9 : decode prog_10_method_31_code 9 = .ok (.i2l, 1) := by decide +kernel
theorem dX8_as_10 : decode prog_10_method_31_code 10 = .ok (.lconst 0, 1) := by decide +kernel
theorem dX8_as_11 : decode prog_10_method_31_code 11 = .ok (.ldc2_w 115, 3) := by decide +kernel
theorem dX8_as_14 : decode prog_10_method_31_code 14 = .ok (.invokestatic 65, 3) := by decide +kernel
theorem dX8_as_17 : decode prog_10_method_31_code 17 = .ok (.ifCond .ne 6, 3) := by decide +kernel
theorem dX8_as_20 : decode prog_10_method_31_code 20 = .ok (.ldc 72, 2) := by decide +kernel
theorem dX8_as_22 : decode prog_10_method_31_code 22 = .ok (.ireturn, 1) := by decide +kernel
theorem dX8_as_23 : decode prog_10_method_31_code 23 = .ok (.aload_n 0, 1) := by decide +kernel
theorem dX8_as_24 : decode prog_10_method_31_code 24 = .ok (.iload_n 1, 1) := by decide +kernel
theorem dX8_as_25 : decode prog_10_method_31_code 25 = .ok (.iconst 0, 1) := by decide +kernel
theorem dX8_as_26 : decode prog_10_method_31_code 26 = .ok (.invokevirtual 121, 3) := by decide +kernel
theorem dX8_as_29 : decode prog_10_method_31_code 29 = .ok (.iload_n 2, 1) := by decide +kernel
theorem dX8_as_30 : decode prog_10_method_31_code 30 = .ok (.invokestatic 136, 3) := by decide +kernel
theorem dX8_as_33 : decode prog_10_method_31_code 33 = .ok (.ifCond .eq 12, 3) := by decide +kernel
theorem dX8_as_36 : decode prog_10_method_31_code 36 = .ok (.aload_n 0, 1) := by decide +kernel
theorem dX8_as_37 : decode prog_10_method_31_code 37 = .ok (.iload_n 1, 1) := by decide +kernel
theorem dX8_as_38 : decode prog_10_method_31_code 38 = .ok (.iconst 1, 1) := by decide +kernel
theorem dX8_as_39 : decode prog_10_method_31_code 39 = .ok (.invokevirtual 121, 3) := by decide +kernel
theorem dX8_as_42 : decode prog_10_method_31_code 42 = .ok (.goto 5, 3) := by decide +kernel
theorem dX8_as_45 : decode prog_10_method_31_code 45 = .ok (.ldc 140, 2) := by decide +kernel
theorem dX8_as_47 : decode prog_10_method_31_code 47 = .ok (.ireturn, 1) := by decide +kernel
theorem dX8_turns_0 : decode prog_10_method_32_code 0 = .ok (.aload_n 0, 1) := by decide +kernel
theorem dX8_turns_1 : decode prog_10_method_32_code 1 = .ok (.iload_n 1, 1) := by decide +kernel
theorem dX8_turns_2 : decode prog_10_method_32_code 2 = .ok (.invokevirtual 127, 3) := by decide +kernel
theorem dX8_turns_5 : decode prog_10_method_32_code 5 = .ok (.ifCond .eq 29, 3) := by decide +kernel
theorem dX8_turns_8 : decode prog_10_method_32_code 8 = .ok (.iload_n 2, 1) := by decide +kernel
theorem dX8_turns_9 : decode prog_10_method_32_code 9 = .ok (.i2l, 1) := by decide +kernel
theorem dX8_turns_10 : decode prog_10_method_32_code 10 = .ok (.lconst 0, 1) := by decide +kernel
theorem dX8_turns_11 : decode prog_10_method_32_code 11 = .ok (.ldc2_w 115, 3) := by decide +kernel
theorem dX8_turns_14 : decode prog_10_method_32_code 14 = .ok (.invokestatic 65, 3) := by decide +kernel
theorem dX8_turns_17 : decode prog_10_method_32_code 17 = .ok (.ifCond .eq 17, 3) := by decide +kernel
theorem dX8_turns_20 : decode prog_10_method_32_code 20 = .ok (.aload_n 0, 1) := by decide +kernel
theorem dX8_turns_21 : decode prog_10_method_32_code 21 = .ok (.bipush 42, 2) := by decide +kernel
theorem dX8_turns_23 : decode prog_10_method_32_code 23 = .ok (.iconst 3, 1) := by decide +kernel
theorem dX8_turns_24 : decode prog_10_method_32_code 24 = .ok (.iload_n 1, 1) := by decide +kernel
theorem dX8_turns_25 : decode prog_10_method_32_code 25 = .ok (.imul, 1) := by decide +kernel
theorem dX8_turns_26 : decode prog_10_method_32_code 26 = .ok (.iadd, 1) := by decide +kernel
theorem dX8_turns_27 : decode prog_10_method_32_code 27 = .ok (.iload_n 2, 1) := by decide +kernel
theorem dX8_turns_28 : decode prog_10_method_32_code 28 = .ok (.invokevirtual 112, 3) := by decide +kernel
theorem dX8_turns_31 : decode prog_10_method_32_code 31 = .ok (.goto 5, 3) := by decide +kernel
theorem dX8_turns_34 : decode prog_10_method_32_code 34 = .ok (.ldc 72, 2) := by decide +kernel
theorem dX8_turns_36 : decode prog_10_method_32_code 36 = .ok (.ireturn, 1) := by decide +kernel
theorem dX8_set_0 : decode prog_10_method_33_code 0 = .ok (.aload_n 0, 1) := by decide +kernel
theorem dX8_set_1 : decode prog_10_method_33_code 1 = .ok (.iload_n 1, 1) := by decide +kernel
theorem dX8_set_2 : decode prog_10_method_33_code 2 = .ok (.invokevirtual 127, 3) := by decide +kernel
theorem dX8_set_5 : decode prog_10_method_33_code 5 = .ok (.ifCond .eq 38, 3) := by decide +kernel
theorem dX8_set_8 : decode prog_10_method_33_code 8 = .ok (.iload_n 2, 1) := by decide +kernel
theorem dX8_set_9 : decode prog_10_method_33_code 9 = .ok (.i2l, 1) := by decide +kernel
theorem dX8_set_10 : decode prog_10_method_33_code 10 = .ok (.lconst 1, 1) := by decide +kernel
theorem dX8_set_11 : decode prog_10_method_33_code 11 = .ok (.ldc2_w 108, 3) := by decide +kernel
theorem dX8_set_14 : decode prog_10_method_33_code 14 = .ok (.invokestatic 65, 3) := by decide +kernel
theorem dX8_set_17 : decode prog_10_method_33_code 17 = .ok (.ifCond .eq 26, 3) := by decide +kernel
theorem dX8_set_20 : decode prog_10_method_33_code 20 = .ok (.iload_n 3, 1) := by decide +kernel
theorem dX8_set_21 : decode prog_10_method_33_code 21 = .ok (.i2l, 1) := by decide +kernel
theorem dX8_set_22 : decode prog_10_method_33_code 22 = .ok (.lconst 0, 1) := by decide +kernel
theorem dX8_set_23 : decode prog_10_method_33_code 23 = .ok (.iload_n 2, 1) := by decide +kernel
theorem dX8_set_24 : decode prog_10_method_33_code 24 = .ok (.iconst 1, 1) := by decide +kernel
theorem dX8_set_25 : decode prog_10_method_33_code 25 = .ok (.if_icmp .ne 9, 3) := by decide +kernel
theorem dX8_set_28 : decode prog_10_method_33_code 28 = .ok (.ldc2_w 110, 3) := by decide +kernel
theorem dX8_set_31 : decode prog_10_method_33_code 31 = .ok (.goto 6, 3) := by decide +kernel
theorem dX8_set_34 : decode prog_10_method_33_code 34 = .ok (.ldc2_w 70, 3) := by decide +kernel
theorem dX8_set_37 : decode prog_10_method_33_code 37 = .ok (.invokestatic 65, 3) := by decide +kernel
theorem dX8_set_40 : decode prog_10_method_33_code 40 = .ok (.ifCond .ne 6, 3) := by decide +kernel
theorem dX8_set_43 : decode prog_10_method_33_code 43 = .ok (.ldc 72, 2) := by decide +kernel
theorem dX8_set_45 : decode prog_10_method_33_code 45 = .ok (.ireturn, 1) := by decide +kernel
theorem dX8_set_46 : decode prog_10_method_33_code 46 = .ok (.aload_n 0, 1) := by decide +kernel
theorem dX8_set_47 : decode prog_10_method_33_code 47 = .ok (.bipush 42, 2) := by decide +kernel
theorem dX8_set_49 : decode prog_10_method_33_code 49 = .ok (.iconst 3, 1) := by decide +kernel
theorem dX8_set_50 : decode prog_10_method_33_code 50 = .ok (.iload_n 1, 1) := by decide +kernel
theorem dX8_set_51 : decode prog_10_method_33_code 51 = .ok (.imul, 1) := by decide +kernel
theorem dX8_set_52 : decode prog_10_method_33_code 52 = .ok (.iadd, 1) := by decide +kernel
theorem dX8_set_53 : decode prog_10_method_33_code 53 = .ok (.iload_n 2, 1) := by decide +kernel
theorem dX8_set_54 : decode prog_10_method_33_code 54 = .ok (.iadd, 1) := by decide +kernel
theorem dX8_set_55 : decode prog_10_method_33_code 55 = .ok (.iload_n 3, 1) := by decide +kernel
theorem dX8_set_56 : decode prog_10_method_33_code 56 = .ok (.invokevirtual 112, 3) := by decide +kernel
theorem dX8_set_59 : decode prog_10_method_33_code 59 = .ok (.ireturn, 1) := by decide +kernel
theorem dX8_drawn_0 : decode prog_10_method_12_code 0 = .ok (.aload_n 0, 1) := by decide +kernel
theorem dX8_drawn_1 : decode prog_10_method_12_code 1 = .ok (.getfield 7, 3) := by decide +kernel
theorem dX8_drawn_4 : decode prog_10_method_12_code 4 = .ok (.bipush 11, 2) := by decide +kernel
theorem dX8_drawn_6 : decode prog_10_method_12_code 6 = .ok (.aload_n 0, 1) := by decide +kernel
theorem dX8_drawn_7 : decode prog_10_method_12_code 7 = .ok (.getfield 7, 3) := by decide +kernel
theorem dX8_drawn_10 : decode prog_10_method_12_code 10 = .ok (.bipush 11, 2) := by decide +kernel
theorem dX8_drawn_12 : decode prog_10_method_12_code 12 = .ok (.iaload, 1) := by decide +kernel
theorem dX8_drawn_13 : decode prog_10_method_12_code 13 = .ok (.ldc 69, 2) := by decide +kernel
theorem dX8_drawn_15 : decode prog_10_method_12_code 15 = .ok (.imul, 1) := by decide +kernel
theorem dX8_drawn_16 : decode prog_10_method_12_code 16 = .ok (.sipush 12345, 3) := by decide +kernel
theorem dX8_drawn_19 : decode prog_10_method_12_code 19 = .ok (.iadd, 1) := by decide +kernel
theorem dX8_drawn_20 : decode prog_10_method_12_code 20 = .ok (.iastore, 1) := by decide +kernel
theorem dX8_drawn_21 : decode prog_10_method_12_code 21 = .ok (.aload_n 0, 1) := by decide +kernel
theorem dX8_drawn_22 : decode prog_10_method_12_code 22 = .ok (.getfield 7, 3) := by decide +kernel
theorem dX8_drawn_25 : decode prog_10_method_12_code 25 = .ok (.bipush 11, 2) := by decide +kernel
theorem dX8_drawn_27 : decode prog_10_method_12_code 27 = .ok (.iaload, 1) := by decide +kernel
theorem dX8_drawn_28 : decode prog_10_method_12_code 28 = .ok (.bipush 8, 2) := by decide +kernel
theorem dX8_drawn_30 : decode prog_10_method_12_code 30 = .ok (.iushr, 1) := by decide +kernel
theorem dX8_drawn_31 : decode prog_10_method_12_code 31 = .ok (.ireturn, 1) := by decide +kernel
theorem dX8_deal_0 : decode prog_10_method_34_code 0 = .ok (.iload_n 1, 1) := by decide +kernel
theorem dX8_deal_1 : decode prog_10_method_34_code 1 = .ok (.i2l, 1) := by decide +kernel
theorem dX8_deal_2 : decode prog_10_method_34_code 2 = .ok (.lconst 1, 1) := by decide +kernel
theorem dX8_deal_3 : decode prog_10_method_34_code 3 = .ok (.ldc2_w 141, 3) := by decide +kernel
theorem dX8_deal_6 : decode prog_10_method_34_code 6 = .ok (.invokestatic 65, 3) := by decide +kernel
theorem dX8_deal_9 : decode prog_10_method_34_code 9 = .ok (.ifCond .ne 6, 3) := by decide +kernel
theorem dX8_deal_12 : decode prog_10_method_34_code 12 = .ok (.ldc 72, 2) := by decide +kernel
theorem dX8_deal_14 : decode prog_10_method_34_code 14 = .ok (.ireturn, 1) := by decide +kernel
theorem dX8_deal_15 : decode prog_10_method_34_code 15 = .ok (.iconst 0, 1) := by decide +kernel
theorem dX8_deal_16 : decode prog_10_method_34_code 16 = .ok (.istore_n 2, 1) := by decide +kernel
theorem dX8_deal_17 : decode prog_10_method_34_code 17 = .ok (.iload_n 2, 1) := by decide +kernel
theorem dX8_deal_18 : decode prog_10_method_34_code 18 = .ok (.iload_n 1, 1) := by decide +kernel
theorem dX8_deal_19 : decode prog_10_method_34_code 19 = .ok (.if_icmp .ge 51, 3) := by decide +kernel
theorem dX8_deal_22 : decode prog_10_method_34_code 22 = .ok (.aload_n 0, 1) := by decide +kernel
theorem dX8_deal_23 : decode prog_10_method_34_code 23 = .ok (.getfield 7, 3) := by decide +kernel
theorem dX8_deal_26 : decode prog_10_method_34_code 26 = .ok (.iconst 1, 1) := by decide +kernel
theorem dX8_deal_27 : decode prog_10_method_34_code 27 = .ok (.iaload, 1) := by decide +kernel
theorem dX8_deal_28 : decode prog_10_method_34_code 28 = .ok (.bipush 10, 2) := by decide +kernel
theorem dX8_deal_30 : decode prog_10_method_34_code 30 = .ok (.if_icmp .ge 40, 3) := by decide +kernel
theorem dX8_deal_33 : decode prog_10_method_34_code 33 = .ok (.aload_n 0, 1) := by decide +kernel
theorem dX8_deal_34 : decode prog_10_method_34_code 34 = .ok (.invokevirtual 143, 3) := by decide +kernel
theorem dX8_deal_37 : decode prog_10_method_34_code 37 = .ok (.bipush 6, 2) := by decide +kernel
theorem dX8_deal_39 : decode prog_10_method_34_code 39 = .ok (.irem, 1) := by decide +kernel
theorem dX8_deal_40 : decode prog_10_method_34_code 40 = .ok (.istore_n 3, 1) := by decide +kernel
theorem dX8_deal_41 : decode prog_10_method_34_code 41 = .ok (.aload_n 0, 1) := by decide +kernel
theorem dX8_deal_42 : decode prog_10_method_34_code 42 = .ok (.invokevirtual 143, 3) := by decide +kernel
theorem dX8_deal_45 : decode prog_10_method_34_code 45 = .ok (.bipush 60, 2) := by decide +kernel
theorem dX8_deal_47 : decode prog_10_method_34_code 47 = .ok (.irem, 1) := by decide +kernel
theorem dX8_deal_48 : decode prog_10_method_34_code 48 = .ok (.istore 4, 2) := by decide +kernel
theorem dX8_deal_50 : decode prog_10_method_34_code 50 = .ok (.aload_n 0, 1) := by decide +kernel
theorem dX8_deal_51 : decode prog_10_method_34_code 51 = .ok (.iload_n 3, 1) := by decide +kernel
theorem dX8_deal_52 : decode prog_10_method_34_code 52 = .ok (.iload 4, 2) := by decide +kernel
theorem dX8_deal_54 : decode prog_10_method_34_code 54 = .ok (.aload_n 0, 1) := by decide +kernel
theorem dX8_deal_55 : decode prog_10_method_34_code 55 = .ok (.invokevirtual 143, 3) := by decide +kernel
theorem dX8_deal_58 : decode prog_10_method_34_code 58 = .ok (.bipush 10, 2) := by decide +kernel
theorem dX8_deal_60 : decode prog_10_method_34_code 60 = .ok (.irem, 1) := by decide +kernel
theorem dX8_deal_61 : decode prog_10_method_34_code 61 = .ok (.invokevirtual 117, 3) := by decide +kernel
theorem dX8_deal_64 : decode prog_10_method_34_code 64 = .ok (.iinc 2 1, 3) := by decide +kernel
theorem dX8_deal_67 : decode prog_10_method_34_code 67 = .ok (.goto (-50), 3) := by decide +kernel
theorem dX8_deal_70 : decode prog_10_method_34_code 70 = .ok (.iload_n 2, 1) := by decide +kernel
theorem dX8_deal_71 : decode prog_10_method_34_code 71 = .ok (.ireturn, 1) := by decide +kernel
theorem dX8_seed_0 : decode prog_10_method_35_code 0 = .ok (.aload_n 0, 1) := by decide +kernel
theorem dX8_seed_1 : decode prog_10_method_35_code 1 = .ok (.bipush 11, 2) := by decide +kernel
theorem dX8_seed_3 : decode prog_10_method_35_code 3 = .ok (.iload_n 1, 1) := by decide +kernel
theorem dX8_seed_4 : decode prog_10_method_35_code 4 = .ok (.invokevirtual 112, 3) := by decide +kernel
theorem dX8_seed_7 : decode prog_10_method_35_code 7 = .ok (.ireturn, 1) := by decide +kernel
theorem dX8_roundOf_0 : decode prog_10_method_36_code 0 = .ok (.iconst 0, 1) := by decide +kernel
theorem dX8_roundOf_1 : decode prog_10_method_36_code 1 = .ok (.istore_n 1, 1) := by decide +kernel
theorem dX8_roundOf_2 : decode prog_10_method_36_code 2 = .ok (.iconst 0, 1) := by decide +kernel
theorem dX8_roundOf_3 : decode prog_10_method_36_code 3 = .ok (.istore_n 2, 1) := by decide +kernel
theorem dX8_roundOf_4 : decode prog_10_method_36_code 4 = .ok (.iload_n 2, 1) := by decide +kernel
theorem dX8_roundOf_5 : decode prog_10_method_36_code 5 = .ok (.aload_n 0, 1) := by decide +kernel
theorem dX8_roundOf_6 : decode prog_10_method_36_code 6 = .ok (.getfield 7, 3) := by decide +kernel
theorem dX8_roundOf_9 : decode prog_10_method_36_code 9 = .ok (.iconst 0, 1) := by decide +kernel
theorem dX8_roundOf_10 : decode prog_10_method_36_code 10 = .ok (.iaload, 1) := by decide +kernel
theorem dX8_roundOf_11 : decode prog_10_method_36_code 11 = .ok (.if_icmp .ge 30, 3) := by decide +kernel
theorem dX8_roundOf_14 : decode prog_10_method_36_code 14 = .ok (.iload_n 1, 1) := by decide +kernel
theorem dX8_roundOf_15 : decode prog_10_method_36_code 15 = .ok (.aload_n 0, 1) := by decide +kernel
theorem dX8_roundOf_16 : decode prog_10_method_36_code 16 = .ok (.iload_n 2, 1) := by decide +kernel
theorem dX8_roundOf_17 : decode prog_10_method_36_code 17 = .ok (.iconst 2, 1) := by decide +kernel
theorem dX8_roundOf_18 : decode prog_10_method_36_code 18 = .ok (.invokevirtual 74, 3) := by decide +kernel
theorem dX8_roundOf_21 : decode prog_10_method_36_code 21 = .ok (.ifCond .ne 11, 3) := by decide +kernel
theorem dX8_roundOf_24 : decode prog_10_method_36_code 24 = .ok (.aload_n 0, 1) := by decide +kernel
theorem dX8_roundOf_25 : decode prog_10_method_36_code 25 = .ok (.iload_n 2, 1) := by decide +kernel
theorem dX8_roundOf_26 : decode prog_10_method_36_code 26 = .ok (.invokevirtual 99, 3) := by decide +kernel
theorem dX8_roundOf_29 : decode prog_10_method_36_code 29 = .ok (.goto 4, 3) := by decide +kernel
theorem dX8_roundOf_32 : decode prog_10_method_36_code 32 = .ok (.iconst 0, 1) := by decide +kernel
theorem dX8_roundOf_33 : decode prog_10_method_36_code 33 = .ok (.iadd, 1) := by decide +kernel
theorem dX8_roundOf_34 : decode prog_10_method_36_code 34 = .ok (.istore_n 1, 1) := by decide +kernel
theorem dX8_roundOf_35 : decode prog_10_method_36_code 35 = .ok (.iinc 2 1, 3) := by decide +kernel
theorem dX8_roundOf_38 : decode prog_10_method_36_code 38 = .ok (.goto (-34), 3) := by decide +kernel
theorem dX8_roundOf_41 : decode prog_10_method_36_code 41 = .ok (.iload_n 1, 1) := by decide +kernel
theorem dX8_roundOf_42 : decode prog_10_method_36_code 42 = .ok (.ireturn, 1) := by decide +kernel
theorem dX8_landsAt_0 : decode prog_10_method_37_code 0 = .ok (.aload_n 0, 1) := by decide +kernel
theorem dX8_landsAt_1 : decode prog_10_method_37_code 1 = .ok (.aload_n 0, 1) := by decide +kernel
theorem dX8_landsAt_2 : decode prog_10_method_37_code 2 = .ok (.getfield 7, 3) := by decide +kernel
theorem dX8_landsAt_5 : decode prog_10_method_37_code 5 = .ok (.bipush 6, 2) := by decide +kernel
theorem dX8_landsAt_7 : decode prog_10_method_37_code 7 = .ok (.iaload, 1) := by decide +kernel
theorem dX8_landsAt_8 : decode prog_10_method_37_code 8 = .ok (.iconst 2, 1) := by decide +kernel
theorem dX8_landsAt_9 : decode prog_10_method_37_code 9 = .ok (.invokevirtual 74, 3) := by decide +kernel
theorem dX8_landsAt_12 : decode prog_10_method_37_code 12 = .ok (.ifCond .ne 13, 3) := by decide +kernel
theorem dX8_landsAt_15 : decode prog_10_method_37_code 15 = .ok (.aload_n 0, 1) := by decide +kernel
theorem dX8_landsAt_16 : decode prog_10_method_37_code 16 = .ok (.getfield 7, 3) := by decide +kernel
theorem dX8_landsAt_19 : decode prog_10_method_37_code 19 = .ok (.bipush 6, 2) := by decide +kernel
theorem dX8_landsAt_21 : decode prog_10_method_37_code 21 = .ok (.iaload, 1) := by decide +kernel
theorem dX8_landsAt_22 : decode prog_10_method_37_code 22 = .ok (.goto 14, 3) := by decide +kernel
theorem dX8_landsAt_25 : decode prog_10_method_37_code 25 = .ok (.aload_n 0, 1) := by decide +kernel
theorem dX8_landsAt_26 : decode prog_10_method_37_code 26 = .ok (.aload_n 0, 1) := by decide +kernel
theorem dX8_landsAt_27 : decode prog_10_method_37_code 27 = .ok (.getfield 7, 3) := by decide +kernel
theorem dX8_landsAt_30 : decode prog_10_method_37_code 30 = .ok (.bipush 6, 2) := by decide +kernel
theorem dX8_landsAt_32 : decode prog_10_method_37_code 32 = .ok (.iaload, 1) := by decide +kernel
theorem dX8_landsAt_33 : decode prog_10_method_37_code 33 = .ok (.invokevirtual 102, 3) := by decide +kernel
theorem dX8_landsAt_36 : decode prog_10_method_37_code 36 = .ok (.istore_n 2, 1) := by decide +kernel
theorem dX8_landsAt_37 : decode prog_10_method_37_code 37 = .ok (.iload_n 1, 1) := by decide +kernel
theorem dX8_landsAt_38 : decode prog_10_method_37_code 38 = .ok (.aload_n 0, 1) := by decide +kernel
theorem dX8_landsAt_39 : decode prog_10_method_37_code 39 = .ok (.invokevirtual 146, 3) := by decide +kernel
theorem dX8_landsAt_42 : decode prog_10_method_37_code 42 = .ok (.irem, 1) := by decide +kernel
theorem dX8_landsAt_43 : decode prog_10_method_37_code 43 = .ok (.istore_n 3, 1) := by decide +kernel
theorem dX8_landsAt_44 : decode prog_10_method_37_code 44 = .ok (.iload_n 3, 1) := by decide +kernel
theorem dX8_landsAt_45 : decode prog_10_method_37_code 45 = .ok (.aload_n 0, 1) := by decide +kernel
theorem dX8_landsAt_46 : decode prog_10_method_37_code 46 = .ok (.iload_n 2, 1) := by decide +kernel
theorem dX8_landsAt_47 : decode prog_10_method_37_code 47 = .ok (.invokevirtual 99, 3) := by decide +kernel
theorem dX8_landsAt_50 : decode prog_10_method_37_code 50 = .ok (.if_icmp .lt 20, 3) := by decide +kernel
theorem dX8_landsAt_53 : decode prog_10_method_37_code 53 = .ok (.iload_n 3, 1) := by decide +kernel
theorem dX8_landsAt_54 : decode prog_10_method_37_code 54 = .ok (.aload_n 0, 1) := by decide +kernel
theorem dX8_landsAt_55 : decode prog_10_method_37_code 55 = .ok (.iload_n 2, 1) := by decide +kernel
theorem dX8_landsAt_56 : decode prog_10_method_37_code 56 = .ok (.invokevirtual 99, 3) := by decide +kernel
theorem dX8_landsAt_59 : decode prog_10_method_37_code 59 = .ok (.isub, 1) := by decide +kernel
theorem dX8_landsAt_60 : decode prog_10_method_37_code 60 = .ok (.istore_n 3, 1) := by decide +kernel
theorem dX8_landsAt_61 : decode prog_10_method_37_code 61 = .ok (.aload_n 0, 1) := by decide +kernel
theorem dX8_landsAt_62 : decode prog_10_method_37_code 62 = .ok (.iload_n 2, 1) := by decide +kernel
theorem dX8_landsAt_63 : decode prog_10_method_37_code 63 = .ok (.invokevirtual 102, 3) := by decide +kernel
theorem dX8_landsAt_66 : decode prog_10_method_37_code 66 = .ok (.istore_n 2, 1) := by decide +kernel
theorem dX8_landsAt_67 : decode prog_10_method_37_code 67 = .ok (.goto (-23), 3) := by decide +kernel
theorem dX8_landsAt_70 : decode prog_10_method_37_code 70 = .ok (.iload_n 2, 1) := by decide +kernel
theorem dX8_landsAt_71 : decode prog_10_method_37_code 71 = .ok (.ireturn, 1) := by decide +kernel
theorem dX8_many_0 : decode prog_10_method_15_code 0 = .ok (.iconst 0, 1) := by decide +kernel
theorem dX8_many_1 : decode prog_10_method_15_code 1 = .ok (.istore_n 1, 1) := by decide +kernel
theorem dX8_many_2 : decode prog_10_method_15_code 2 = .ok (.iconst 0, 1) := by decide +kernel
theorem dX8_many_3 : decode prog_10_method_15_code 3 = .ok (.istore_n 2, 1) := by decide +kernel
theorem dX8_many_4 : decode prog_10_method_15_code 4 = .ok (.iload_n 2, 1) := by decide +kernel
theorem dX8_many_5 : decode prog_10_method_15_code 5 = .ok (.aload_n 0, 1) := by decide +kernel
theorem dX8_many_6 : decode prog_10_method_15_code 6 = .ok (.getfield 7, 3) := by decide +kernel
theorem dX8_many_9 : decode prog_10_method_15_code 9 = .ok (.iconst 0, 1) := by decide +kernel
theorem dX8_many_10 : decode prog_10_method_15_code 10 = .ok (.iaload, 1) := by decide +kernel
theorem dX8_many_11 : decode prog_10_method_15_code 11 = .ok (.if_icmp .ge 20, 3) := by decide +kernel
theorem dX8_many_14 : decode prog_10_method_15_code 14 = .ok (.iload_n 1, 1) := by decide +kernel
theorem dX8_many_15 : decode prog_10_method_15_code 15 = .ok (.iconst 1, 1) := by decide +kernel
theorem dX8_many_16 : decode prog_10_method_15_code 16 = .ok (.aload_n 0, 1) := by decide +kernel
theorem dX8_many_17 : decode prog_10_method_15_code 17 = .ok (.iload_n 2, 1) := by decide +kernel
theorem dX8_many_18 : decode prog_10_method_15_code 18 = .ok (.iconst 2, 1) := by decide +kernel
theorem dX8_many_19 : decode prog_10_method_15_code 19 = .ok (.invokevirtual 74, 3) := by decide +kernel
theorem dX8_many_22 : decode prog_10_method_15_code 22 = .ok (.isub, 1) := by decide +kernel
theorem dX8_many_23 : decode prog_10_method_15_code 23 = .ok (.iadd, 1) := by decide +kernel
theorem dX8_many_24 : decode prog_10_method_15_code 24 = .ok (.istore_n 1, 1) := by decide +kernel
theorem dX8_many_25 : decode prog_10_method_15_code 25 = .ok (.iinc 2 1, 3) := by decide +kernel
theorem dX8_many_28 : decode prog_10_method_15_code 28 = .ok (.goto (-24), 3) := by decide +kernel
theorem dX8_many_31 : decode prog_10_method_15_code 31 = .ok (.iload_n 1, 1) := by decide +kernel
theorem dX8_many_32 : decode prog_10_method_15_code 32 = .ok (.ireturn, 1) := by decide +kernel
theorem dX8_lands_0 : decode prog_10_method_38_code 0 = .ok (.iload_n 1, 1) := by decide +kernel
theorem dX8_lands_1 : decode prog_10_method_38_code 1 = .ok (.i2l, 1) := by decide +kernel
theorem dX8_lands_2 : decode prog_10_method_38_code 2 = .ok (.lconst 0, 1) := by decide +kernel
theorem dX8_lands_3 : decode prog_10_method_38_code 3 = .ok (.ldc2_w 149, 3) := by decide +kernel
theorem dX8_lands_6 : decode prog_10_method_38_code 6 = .ok (.invokestatic 65, 3) := by decide +kernel
theorem dX8_lands_9 : decode prog_10_method_38_code 9 = .ok (.ifCond .ne 6, 3) := by decide +kernel
theorem dX8_lands_12 : decode prog_10_method_38_code 12 = .ok (.ldc 72, 2) := by decide +kernel
theorem dX8_lands_14 : decode prog_10_method_38_code 14 = .ok (.ireturn, 1) := by decide +kernel
theorem dX8_lands_15 : decode prog_10_method_38_code 15 = .ok (.aload_n 0, 1) := by decide +kernel
theorem dX8_lands_16 : decode prog_10_method_38_code 16 = .ok (.invokevirtual 151, 3) := by decide +kernel
theorem dX8_lands_19 : decode prog_10_method_38_code 19 = .ok (.ifCond .ne 8, 3) := by decide +kernel
theorem dX8_lands_22 : decode prog_10_method_38_code 22 = .ok (.ldc 64, 2) := by decide +kernel
theorem dX8_lands_24 : decode prog_10_method_38_code 24 = .ok (.goto 8, 3) := by decide +kernel
theorem dX8_lands_27 : decode prog_10_method_38_code 27 = .ok (.aload_n 0, 1) := by decide +kernel
theorem dX8_lands_28 : decode prog_10_method_38_code 28 = .ok (.iload_n 1, 1) := by decide +kernel
theorem dX8_lands_29 : decode prog_10_method_38_code 29 = .ok (.invokevirtual 154, 3) := by decide +kernel
theorem dX8_lands_32 : decode prog_10_method_38_code 32 = .ok (.ireturn, 1) := by decide +kernel
theorem dX8_round_0 : decode prog_10_method_39_code 0 = .ok (.aload_n 0, 1) := by decide +kernel
theorem dX8_round_1 : decode prog_10_method_39_code 1 = .ok (.invokevirtual 146, 3) := by decide +kernel
theorem dX8_round_4 : decode prog_10_method_39_code 4 = .ok (.ireturn, 1) := by decide +kernel
theorem dX8_goes_0 : decode prog_10_method_42_code 0 = .ok (.aload_n 0, 1) := by decide +kernel
theorem dX8_goes_1 : decode prog_10_method_42_code 1 = .ok (.getfield 7, 3) := by decide +kernel
theorem dX8_goes_4 : decode prog_10_method_42_code 4 = .ok (.iconst 1, 1) := by decide +kernel
theorem dX8_goes_5 : decode prog_10_method_42_code 5 = .ok (.iaload, 1) := by decide +kernel
theorem dX8_goes_6 : decode prog_10_method_42_code 6 = .ok (.ifCond .le 14, 3) := by decide +kernel
theorem dX8_goes_9 : decode prog_10_method_42_code 9 = .ok (.aload_n 0, 1) := by decide +kernel
theorem dX8_goes_10 : decode prog_10_method_42_code 10 = .ok (.invokevirtual 151, 3) := by decide +kernel
theorem dX8_goes_13 : decode prog_10_method_42_code 13 = .ok (.ifCond .le 7, 3) := by decide +kernel
theorem dX8_goes_16 : decode prog_10_method_42_code 16 = .ok (.iconst 1, 1) := by decide +kernel
theorem dX8_goes_17 : decode prog_10_method_42_code 17 = .ok (.goto 4, 3) := by decide +kernel
theorem dX8_goes_20 : decode prog_10_method_42_code 20 = .ok (.iconst 0, 1) := by decide +kernel
theorem dX8_goes_21 : decode prog_10_method_42_code 21 = .ok (.ireturn, 1) := by decide +kernel
theorem dX8_evening_0 : decode prog_10_method_40_code 0 = .ok (.iconst (-1), 1) := by decide +kernel
theorem dX8_evening_1 : decode prog_10_method_40_code 1 = .ok (.istore_n 2, 1) := by decide +kernel
theorem dX8_evening_2 : decode prog_10_method_40_code 2 = .ok (.iconst 0, 1) := by decide +kernel
theorem dX8_evening_3 : decode prog_10_method_40_code 3 = .ok (.istore_n 3, 1) := by decide +kernel
theorem dX8_evening_4 : decode prog_10_method_40_code 4 = .ok (.iload_n 3, 1) := by decide +kernel
theorem dX8_evening_5 : decode prog_10_method_40_code 5 = .ok (.aload_n 0, 1) := by decide +kernel
theorem dX8_evening_6 : decode prog_10_method_40_code 6 = .ok (.getfield 7, 3) := by decide +kernel
theorem dX8_evening_9 : decode prog_10_method_40_code 9 = .ok (.iconst 0, 1) := by decide +kernel
theorem dX8_evening_10 : decode prog_10_method_40_code 10 = .ok (.iaload, 1) := by decide +kernel
theorem dX8_evening_11 : decode prog_10_method_40_code 11 = .ok (.if_icmp .ge 54, 3) := by decide +kernel
theorem dX8_evening_14 : decode prog_10_method_40_code 14 = .ok (.aload_n 0, 1) := by decide +kernel
theorem dX8_evening_15 : decode prog_10_method_40_code 15 = .ok (.iload_n 1, 1) := by decide +kernel
theorem dX8_evening_16 : decode prog_10_method_40_code 16 = .ok (.iload_n 3, 1) := by decide +kernel
theorem dX8_evening_17 : decode prog_10_method_40_code 17 = .ok (.invokevirtual 78, 3) := by decide +kernel
theorem dX8_evening_20 : decode prog_10_method_40_code 20 = .ok (.istore 4, 2) := by decide +kernel
theorem dX8_evening_22 : decode prog_10_method_40_code 22 = .ok (.aload_n 0, 1) := by decide +kernel
theorem dX8_evening_23 : decode prog_10_method_40_code 23 = .ok (.iload 4, 2) := by decide +kernel
theorem dX8_evening_25 : decode prog_10_method_40_code 25 = .ok (.iconst 2, 1) := by decide +kernel
theorem dX8_evening_26 : decode prog_10_method_40_code 26 = .ok (.invokevirtual 74, 3) := by decide +kernel
theorem dX8_evening_29 : decode prog_10_method_40_code 29 = .ok (.ifCond .ne 28, 3) := by decide +kernel
theorem dX8_evening_32 : decode prog_10_method_40_code 32 = .ok (.iload_n 2, 1) := by decide +kernel
theorem dX8_evening_33 : decode prog_10_method_40_code 33 = .ok (.ifCond .lt 19, 3) := by decide +kernel
theorem dX8_evening_36 : decode prog_10_method_40_code 36 = .ok (.aload_n 0, 1) := by decide +kernel
theorem dX8_evening_37 : decode prog_10_method_40_code 37 = .ok (.iload 4, 2) := by decide +kernel
theorem dX8_evening_39 : decode prog_10_method_40_code 39 = .ok (.iconst 1, 1) := by decide +kernel
theorem dX8_evening_40 : decode prog_10_method_40_code 40 = .ok (.invokevirtual 74, 3) := by decide +kernel
theorem dX8_evening_43 : decode prog_10_method_40_code 43 = .ok (.aload_n 0, 1) := by decide +kernel
theorem dX8_evening_44 : decode prog_10_method_40_code 44 = .ok (.iload_n 2, 1) := by decide +kernel
theorem dX8_evening_45 : decode prog_10_method_40_code 45 = .ok (.iconst 1, 1) := by decide +kernel
theorem dX8_evening_46 : decode prog_10_method_40_code 46 = .ok (.invokevirtual 74, 3) := by decide +kernel
theorem dX8_evening_49 : decode prog_10_method_40_code 49 = .ok (.if_icmp .ge 8, 3) := by decide +kernel
theorem dX8_evening_52 : decode prog_10_method_40_code 52 = .ok (.iload 4, 2) := by decide +kernel
theorem dX8_evening_54 : decode prog_10_method_40_code 54 = .ok (.goto 4, 3) := by decide +kernel
theorem dX8_evening_57 : decode prog_10_method_40_code 57 = .ok (.iload_n 2, 1) := by decide +kernel
theorem dX8_evening_58 : decode prog_10_method_40_code 58 = .ok (.istore_n 2, 1) := by decide +kernel
theorem dX8_evening_59 : decode prog_10_method_40_code 59 = .ok (.iinc 3 1, 3) := by decide +kernel
theorem dX8_evening_62 : decode prog_10_method_40_code 62 = .ok (.goto (-58), 3) := by decide +kernel
theorem dX8_evening_65 : decode prog_10_method_40_code 65 = .ok (.iload_n 2, 1) := by decide +kernel
theorem dX8_evening_66 : decode prog_10_method_40_code 66 = .ok (.ireturn, 1) := by decide +kernel
theorem dX8_goesTo_0 : decode prog_10_method_41_code 0 = .ok (.aload_n 0, 1) := by decide +kernel
theorem dX8_goesTo_1 : decode prog_10_method_41_code 1 = .ok (.aload_n 0, 1) := by decide +kernel
theorem dX8_goesTo_2 : decode prog_10_method_41_code 2 = .ok (.iload_n 1, 1) := by decide +kernel
theorem dX8_goesTo_3 : decode prog_10_method_41_code 3 = .ok (.iload_n 2, 1) := by decide +kernel
theorem dX8_goesTo_4 : decode prog_10_method_41_code 4 = .ok (.invokevirtual 130, 3) := by decide +kernel
theorem dX8_goesTo_7 : decode prog_10_method_41_code 7 = .ok (.invokevirtual 154, 3) := by decide +kernel
theorem dX8_goesTo_10 : decode prog_10_method_41_code 10 = .ok (.istore_n 3, 1) := by decide +kernel
theorem dX8_goesTo_11 : decode prog_10_method_41_code 11 = .ok (.aload_n 0, 1) := by decide +kernel
theorem dX8_goesTo_12 : decode prog_10_method_41_code 12 = .ok (.iload_n 1, 1) := by decide +kernel
theorem dX8_goesTo_13 : decode prog_10_method_41_code 13 = .ok (.iconst 0, 1) := by decide +kernel
theorem dX8_goesTo_14 : decode prog_10_method_41_code 14 = .ok (.invokevirtual 121, 3) := by decide +kernel
theorem dX8_goesTo_17 : decode prog_10_method_41_code 17 = .ok (.tableswitch 81 2 4 #[33, 27, 39], 27) := by decide +kernel
theorem dX8_goesTo_44 : decode prog_10_method_41_code 44 = .ok (.aload_n 0, 1) := by decide +kernel
theorem dX8_goesTo_45 : decode prog_10_method_41_code 45 = .ok (.iload_n 3, 1) := by decide +kernel
theorem dX8_goesTo_46 : decode prog_10_method_41_code 46 = .ok (.invokevirtual 102, 3) := by decide +kernel
theorem dX8_goesTo_49 : decode prog_10_method_41_code 49 = .ok (.ireturn, 1) := by decide +kernel
theorem dX8_goesTo_50 : decode prog_10_method_41_code 50 = .ok (.aload_n 0, 1) := by decide +kernel
theorem dX8_goesTo_51 : decode prog_10_method_41_code 51 = .ok (.iload_n 3, 1) := by decide +kernel
theorem dX8_goesTo_52 : decode prog_10_method_41_code 52 = .ok (.invokevirtual 157, 3) := by decide +kernel
theorem dX8_goesTo_55 : decode prog_10_method_41_code 55 = .ok (.ireturn, 1) := by decide +kernel
theorem dX8_goesTo_56 : decode prog_10_method_41_code 56 = .ok (.aload_n 0, 1) := by decide +kernel
theorem dX8_goesTo_57 : decode prog_10_method_41_code 57 = .ok (.aload_n 0, 1) := by decide +kernel
theorem dX8_goesTo_58 : decode prog_10_method_41_code 58 = .ok (.iload_n 1, 1) := by decide +kernel
theorem dX8_goesTo_59 : decode prog_10_method_41_code 59 = .ok (.iconst 2, 1) := by decide +kernel
theorem dX8_goesTo_60 : decode prog_10_method_41_code 60 = .ok (.invokevirtual 121, 3) := by decide +kernel
theorem dX8_goesTo_63 : decode prog_10_method_41_code 63 = .ok (.invokevirtual 95, 3) := by decide +kernel
theorem dX8_goesTo_66 : decode prog_10_method_41_code 66 = .ok (.ifCond .eq 26, 3) := by decide +kernel
theorem dX8_goesTo_69 : decode prog_10_method_41_code 69 = .ok (.aload_n 0, 1) := by decide +kernel
theorem dX8_goesTo_70 : decode prog_10_method_41_code 70 = .ok (.aload_n 0, 1) := by decide +kernel
theorem dX8_goesTo_71 : decode prog_10_method_41_code 71 = .ok (.iload_n 1, 1) := by decide +kernel
theorem dX8_goesTo_72 : decode prog_10_method_41_code 72 = .ok (.iconst 2, 1) := by decide +kernel
theorem dX8_goesTo_73 : decode prog_10_method_41_code 73 = .ok (.invokevirtual 121, 3) := by decide +kernel
theorem dX8_goesTo_76 : decode prog_10_method_41_code 76 = .ok (.iconst 2, 1) := by decide +kernel
theorem dX8_goesTo_77 : decode prog_10_method_41_code 77 = .ok (.invokevirtual 74, 3) := by decide +kernel
theorem dX8_goesTo_80 : decode prog_10_method_41_code 80 = .ok (.ifCond .ne 12, 3) := by decide +kernel
theorem dX8_goesTo_83 : decode prog_10_method_41_code 83 = .ok (.aload_n 0, 1) := by decide +kernel
theorem dX8_goesTo_84 : decode prog_10_method_41_code 84 = .ok (.iload_n 1, 1) := by decide +kernel
theorem dX8_goesTo_85 : decode prog_10_method_41_code 85 = .ok (.iconst 2, 1) := by decide +kernel
theorem dX8_goesTo_86 : decode prog_10_method_41_code 86 = .ok (.invokevirtual 121, 3) := by decide +kernel
theorem dX8_goesTo_89 : decode prog_10_method_41_code 89 = .ok (.goto 8, 3) := by decide +kernel
theorem dX8_goesTo_92 : decode prog_10_method_41_code 92 = .ok (.aload_n 0, 1) := by decide +kernel
theorem dX8_goesTo_93 : decode prog_10_method_41_code 93 = .ok (.iload_n 3, 1) := by decide +kernel
theorem dX8_goesTo_94 : decode prog_10_method_41_code 94 = .ok (.invokevirtual 157, 3) := by decide +kernel
theorem dX8_goesTo_97 : decode prog_10_method_41_code 97 = .ok (.ireturn, 1) := by decide +kernel
theorem dX8_goesTo_98 : decode prog_10_method_41_code 98 = .ok (.iload_n 3, 1) := by decide +kernel
theorem dX8_goesTo_99 : decode prog_10_method_41_code 99 = .ok (.ireturn, 1) := by decide +kernel
theorem dX8_stopNow_0 : decode prog_10_method_43_code 0 = .ok (.aload_n 0, 1) := by decide +kernel
theorem dX8_stopNow_1 : decode prog_10_method_43_code 1 = .ok (.getfield 7, 3) := by decide +kernel
theorem dX8_stopNow_4 : decode prog_10_method_43_code 4 = .ok (.iconst 4, 1) := by decide +kernel
theorem dX8_stopNow_5 : decode prog_10_method_43_code 5 = .ok (.iaload, 1) := by decide +kernel
theorem dX8_stopNow_6 : decode prog_10_method_43_code 6 = .ok (.aload_n 0, 1) := by decide +kernel
theorem dX8_stopNow_7 : decode prog_10_method_43_code 7 = .ok (.getfield 7, 3) := by decide +kernel
theorem dX8_stopNow_10 : decode prog_10_method_43_code 10 = .ok (.iconst 1, 1) := by decide +kernel
theorem dX8_stopNow_11 : decode prog_10_method_43_code 11 = .ok (.iaload, 1) := by decide +kernel
theorem dX8_stopNow_12 : decode prog_10_method_43_code 12 = .ok (.irem, 1) := by decide +kernel
theorem dX8_stopNow_13 : decode prog_10_method_43_code 13 = .ok (.ireturn, 1) := by decide +kernel
theorem dX8_turn_0 : decode prog_10_method_44_code 0 = .ok (.aload_n 0, 1) := by decide +kernel
theorem dX8_turn_1 : decode prog_10_method_44_code 1 = .ok (.invokevirtual 160, 3) := by decide +kernel
theorem dX8_turn_4 : decode prog_10_method_44_code 4 = .ok (.ifCond .ne 15, 3) := by decide +kernel
theorem dX8_turn_7 : decode prog_10_method_44_code 7 = .ok (.aload_n 0, 1) := by decide +kernel
theorem dX8_turn_8 : decode prog_10_method_44_code 8 = .ok (.getfield 7, 3) := by decide +kernel
theorem dX8_turn_11 : decode prog_10_method_44_code 11 = .ok (.iconst 4, 1) := by decide +kernel
theorem dX8_turn_12 : decode prog_10_method_44_code 12 = .ok (.dup2, 1) := by decide +kernel
theorem dX8_turn_13 : decode prog_10_method_44_code 13 = .ok (.iaload, 1) := by decide +kernel
theorem dX8_turn_14 : decode prog_10_method_44_code 14 = .ok (.iconst 1, 1) := by decide +kernel
theorem dX8_turn_15 : decode prog_10_method_44_code 15 = .ok (.iadd, 1) := by decide +kernel
theorem dX8_turn_16 : decode prog_10_method_44_code 16 = .ok (.iastore, 1) := by decide +kernel
theorem dX8_turn_17 : decode prog_10_method_44_code 17 = .ok (.iconst (-1), 1) := by decide +kernel
theorem dX8_turn_18 : decode prog_10_method_44_code 18 = .ok (.ireturn, 1) := by decide +kernel
theorem dX8_turn_19 : decode prog_10_method_44_code 19 = .ok (.aload_n 0, 1) := by decide +kernel
theorem dX8_turn_20 : decode prog_10_method_44_code 20 = .ok (.invokevirtual 164, 3) := by decide +kernel
theorem dX8_turn_23 : decode prog_10_method_44_code 23 = .ok (.istore_n 1, 1) := by decide +kernel
theorem dX8_turn_24 : decode prog_10_method_44_code 24 = .ok (.aload_n 0, 1) := by decide +kernel
theorem dX8_turn_25 : decode prog_10_method_44_code 25 = .ok (.iload_n 1, 1) := by decide +kernel
theorem dX8_turn_26 : decode prog_10_method_44_code 26 = .ok (.invokevirtual 124, 3) := by decide +kernel
theorem dX8_turn_29 : decode prog_10_method_44_code 29 = .ok (.ifCond .eq 13, 3) := by decide +kernel
theorem dX8_turn_32 : decode prog_10_method_44_code 32 = .ok (.aload_n 0, 1) := by decide +kernel
theorem dX8_turn_33 : decode prog_10_method_44_code 33 = .ok (.invokevirtual 143, 3) := by decide +kernel
theorem dX8_turn_36 : decode prog_10_method_44_code 36 = .ok (.bipush 10, 2) := by decide +kernel
theorem dX8_turn_38 : decode prog_10_method_44_code 38 = .ok (.irem, 1) := by decide +kernel
theorem dX8_turn_39 : decode prog_10_method_44_code 39 = .ok (.goto 4, 3) := by decide +kernel
theorem dX8_turn_42 : decode prog_10_method_44_code 42 = .ok (.iconst 0, 1) := by decide +kernel
theorem dX8_turn_43 : decode prog_10_method_44_code 43 = .ok (.istore_n 2, 1) := by decide +kernel
theorem dX8_turn_44 : decode prog_10_method_44_code 44 = .ok (.aload_n 0, 1) := by decide +kernel
theorem dX8_turn_45 : decode prog_10_method_44_code 45 = .ok (.iload_n 1, 1) := by decide +kernel
theorem dX8_turn_46 : decode prog_10_method_44_code 46 = .ok (.iload_n 2, 1) := by decide +kernel
theorem dX8_turn_47 : decode prog_10_method_44_code 47 = .ok (.invokevirtual 167, 3) := by decide +kernel
theorem dX8_turn_50 : decode prog_10_method_44_code 50 = .ok (.istore_n 3, 1) := by decide +kernel
theorem dX8_turn_51 : decode prog_10_method_44_code 51 = .ok (.aload_n 0, 1) := by decide +kernel
theorem dX8_turn_52 : decode prog_10_method_44_code 52 = .ok (.invokevirtual 85, 3) := by decide +kernel
theorem dX8_turn_55 : decode prog_10_method_44_code 55 = .ok (.istore 4, 2) := by decide +kernel
theorem dX8_turn_57 : decode prog_10_method_44_code 57 = .ok (.aload_n 0, 1) := by decide +kernel
theorem dX8_turn_58 : decode prog_10_method_44_code 58 = .ok (.getfield 7, 3) := by decide +kernel
theorem dX8_turn_61 : decode prog_10_method_44_code 61 = .ok (.bipush 7, 2) := by decide +kernel
theorem dX8_turn_63 : decode prog_10_method_44_code 63 = .ok (.iaload, 1) := by decide +kernel
theorem dX8_turn_64 : decode prog_10_method_44_code 64 = .ok (.iconst 1, 1) := by decide +kernel
theorem dX8_turn_65 : decode prog_10_method_44_code 65 = .ok (.if_icmp .ne 15, 3) := by decide +kernel
theorem dX8_turn_68 : decode prog_10_method_44_code 68 = .ok (.aload_n 0, 1) := by decide +kernel
theorem dX8_turn_69 : decode prog_10_method_44_code 69 = .ok (.invokevirtual 151, 3) := by decide +kernel
theorem dX8_turn_72 : decode prog_10_method_44_code 72 = .ok (.iconst 2, 1) := by decide +kernel
theorem dX8_turn_73 : decode prog_10_method_44_code 73 = .ok (.if_icmp .le 7, 3) := by decide +kernel
theorem dX8_turn_76 : decode prog_10_method_44_code 76 = .ok (.iconst 1, 1) := by decide +kernel
theorem dX8_turn_77 : decode prog_10_method_44_code 77 = .ok (.goto 4, 3) := by decide +kernel
theorem dX8_turn_80 : decode prog_10_method_44_code 80 = .ok (.iconst 0, 1) := by decide +kernel
theorem dX8_turn_81 : decode prog_10_method_44_code 81 = .ok (.istore 5, 2) := by decide +kernel
theorem dX8_turn_83 : decode prog_10_method_44_code 83 = .ok (.aload_n 0, 1) := by decide +kernel
theorem dX8_turn_84 : decode prog_10_method_44_code 84 = .ok (.getfield 7, 3) := by decide +kernel
theorem dX8_turn_87 : decode prog_10_method_44_code 87 = .ok (.bipush 8, 2) := by decide +kernel
theorem dX8_turn_89 : decode prog_10_method_44_code 89 = .ok (.dup2, 1) := by decide +kernel
theorem dX8_turn_90 : decode prog_10_method_44_code 90 = .ok (.iaload, 1) := by decide +kernel
theorem dX8_turn_91 : decode prog_10_method_44_code 91 = .ok (.aload_n 0, 1) := by decide +kernel
theorem dX8_turn_92 : decode prog_10_method_44_code 92 = .ok (.iload_n 1, 1) := by decide +kernel
theorem dX8_turn_93 : decode prog_10_method_44_code 93 = .ok (.iload_n 2, 1) := by decide +kernel
theorem dX8_turn_94 : decode prog_10_method_44_code 94 = .ok (.invokevirtual 130, 3) := by decide +kernel
theorem dX8_turn_97 : decode prog_10_method_44_code 97 = .ok (.iadd, 1) := by decide +kernel
theorem dX8_turn_98 : decode prog_10_method_44_code 98 = .ok (.iastore, 1) := by decide +kernel
theorem dX8_turn_99 : decode prog_10_method_44_code 99 = .ok (.bipush 12, 2) := by decide +kernel
theorem dX8_turn_101 : decode prog_10_method_44_code 101 = .ok (.iconst 3, 1) := by decide +kernel
theorem dX8_turn_102 : decode prog_10_method_44_code 102 = .ok (.iload_n 3, 1) := by decide +kernel
theorem dX8_turn_103 : decode prog_10_method_44_code 103 = .ok (.imul, 1) := by decide +kernel
theorem dX8_turn_104 : decode prog_10_method_44_code 104 = .ok (.iadd, 1) := by decide +kernel
theorem dX8_turn_105 : decode prog_10_method_44_code 105 = .ok (.istore 6, 2) := by decide +kernel
theorem dX8_turn_107 : decode prog_10_method_44_code 107 = .ok (.aload_n 0, 1) := by decide +kernel
theorem dX8_turn_108 : decode prog_10_method_44_code 108 = .ok (.getfield 7, 3) := by decide +kernel
theorem dX8_turn_111 : decode prog_10_method_44_code 111 = .ok (.iload 6, 2) := by decide +kernel
theorem dX8_turn_113 : decode prog_10_method_44_code 113 = .ok (.iconst 1, 1) := by decide +kernel
theorem dX8_turn_114 : decode prog_10_method_44_code 114 = .ok (.iadd, 1) := by decide +kernel
theorem dX8_turn_115 : decode prog_10_method_44_code 115 = .ok (.aload_n 0, 1) := by decide +kernel
theorem dX8_turn_116 : decode prog_10_method_44_code 116 = .ok (.getfield 7, 3) := by decide +kernel
theorem dX8_turn_119 : decode prog_10_method_44_code 119 = .ok (.iload 6, 2) := by decide +kernel
theorem dX8_turn_121 : decode prog_10_method_44_code 121 = .ok (.iconst 1, 1) := by decide +kernel
theorem dX8_turn_122 : decode prog_10_method_44_code 122 = .ok (.iadd, 1) := by decide +kernel
theorem dX8_turn_123 : decode prog_10_method_44_code 123 = .ok (.iaload, 1) := by decide +kernel
theorem dX8_turn_124 : decode prog_10_method_44_code 124 = .ok (.iconst 1, 1) := by decide +kernel
theorem dX8_turn_125 : decode prog_10_method_44_code 125 = .ok (.iadd, 1) := by decide +kernel
theorem dX8_turn_126 : decode prog_10_method_44_code 126 = .ok (.iconst 0, 1) := by decide +kernel
theorem dX8_turn_127 : decode prog_10_method_44_code 127 = .ok (.bipush 99, 2) := by decide +kernel
theorem dX8_turn_129 : decode prog_10_method_44_code 129 = .ok (.invokestatic 92, 3) := by decide +kernel
theorem dX8_turn_132 : decode prog_10_method_44_code 132 = .ok (.iastore, 1) := by decide +kernel
theorem dX8_turn_133 : decode prog_10_method_44_code 133 = .ok (.aload_n 0, 1) := by decide +kernel
theorem dX8_turn_134 : decode prog_10_method_44_code 134 = .ok (.getfield 7, 3) := by decide +kernel
theorem dX8_turn_137 : decode prog_10_method_44_code 137 = .ok (.bipush 6, 2) := by decide +kernel
theorem dX8_turn_139 : decode prog_10_method_44_code 139 = .ok (.iload_n 3, 1) := by decide +kernel
theorem dX8_turn_140 : decode prog_10_method_44_code 140 = .ok (.iastore, 1) := by decide +kernel
theorem dX8_turn_141 : decode prog_10_method_44_code 141 = .ok (.aload_n 0, 1) := by decide +kernel
theorem dX8_turn_142 : decode prog_10_method_44_code 142 = .ok (.getfield 7, 3) := by decide +kernel
theorem dX8_turn_145 : decode prog_10_method_44_code 145 = .ok (.bipush 9, 2) := by decide +kernel
theorem dX8_turn_147 : decode prog_10_method_44_code 147 = .ok (.dup2, 1) := by decide +kernel
theorem dX8_turn_148 : decode prog_10_method_44_code 148 = .ok (.iaload, 1) := by decide +kernel
theorem dX8_turn_149 : decode prog_10_method_44_code 149 = .ok (.iload 4, 2) := by decide +kernel
theorem dX8_turn_151 : decode prog_10_method_44_code 151 = .ok (.iconst 1, 1) := by decide +kernel
theorem dX8_turn_152 : decode prog_10_method_44_code 152 = .ok (.if_icmp .ne 7, 3) := by decide +kernel
theorem dX8_turn_155 : decode prog_10_method_44_code 155 = .ok (.iconst 1, 1) := by decide +kernel
theorem dX8_turn_156 : decode prog_10_method_44_code 156 = .ok (.goto 4, 3) := by decide +kernel
theorem dX8_turn_159 : decode prog_10_method_44_code 159 = .ok (.iconst 0, 1) := by decide +kernel
theorem dX8_turn_160 : decode prog_10_method_44_code 160 = .ok (.iadd, 1) := by decide +kernel
theorem dX8_turn_161 : decode prog_10_method_44_code 161 = .ok (.iastore, 1) := by decide +kernel
theorem dX8_turn_162 : decode prog_10_method_44_code 162 = .ok (.aload_n 0, 1) := by decide +kernel
theorem dX8_turn_163 : decode prog_10_method_44_code 163 = .ok (.getfield 7, 3) := by decide +kernel
theorem dX8_turn_166 : decode prog_10_method_44_code 166 = .ok (.bipush 10, 2) := by decide +kernel
theorem dX8_turn_168 : decode prog_10_method_44_code 168 = .ok (.dup2, 1) := by decide +kernel
theorem dX8_turn_169 : decode prog_10_method_44_code 169 = .ok (.iaload, 1) := by decide +kernel
theorem dX8_turn_170 : decode prog_10_method_44_code 170 = .ok (.iload 4, 2) := by decide +kernel
theorem dX8_turn_172 : decode prog_10_method_44_code 172 = .ok (.iconst 2, 1) := by decide +kernel
theorem dX8_turn_173 : decode prog_10_method_44_code 173 = .ok (.if_icmp .ne 7, 3) := by decide +kernel
theorem dX8_turn_176 : decode prog_10_method_44_code 176 = .ok (.iconst 1, 1) := by decide +kernel
theorem dX8_turn_177 : decode prog_10_method_44_code 177 = .ok (.goto 4, 3) := by decide +kernel
theorem dX8_turn_180 : decode prog_10_method_44_code 180 = .ok (.iconst 0, 1) := by decide +kernel
theorem dX8_turn_181 : decode prog_10_method_44_code 181 = .ok (.iadd, 1) := by decide +kernel
theorem dX8_turn_182 : decode prog_10_method_44_code 182 = .ok (.iastore, 1) := by decide +kernel
theorem dX8_turn_183 : decode prog_10_method_44_code 183 = .ok (.aload_n 0, 1) := by decide +kernel
theorem dX8_turn_184 : decode prog_10_method_44_code 184 = .ok (.getfield 7, 3) := by decide +kernel
theorem dX8_turn_187 : decode prog_10_method_44_code 187 = .ok (.iconst 5, 1) := by decide +kernel
theorem dX8_turn_188 : decode prog_10_method_44_code 188 = .ok (.iload 4, 2) := by decide +kernel
theorem dX8_turn_190 : decode prog_10_method_44_code 190 = .ok (.iconst 2, 1) := by decide +kernel
theorem dX8_turn_191 : decode prog_10_method_44_code 191 = .ok (.if_icmp .ne 14, 3) := by decide +kernel
theorem dX8_turn_194 : decode prog_10_method_44_code 194 = .ok (.iconst 1, 1) := by decide +kernel
theorem dX8_turn_195 : decode prog_10_method_44_code 195 = .ok (.aload_n 0, 1) := by decide +kernel
theorem dX8_turn_196 : decode prog_10_method_44_code 196 = .ok (.getfield 7, 3) := by decide +kernel
theorem dX8_turn_199 : decode prog_10_method_44_code 199 = .ok (.iconst 5, 1) := by decide +kernel
theorem dX8_turn_200 : decode prog_10_method_44_code 200 = .ok (.iaload, 1) := by decide +kernel
theorem dX8_turn_201 : decode prog_10_method_44_code 201 = .ok (.isub, 1) := by decide +kernel
theorem dX8_turn_202 : decode prog_10_method_44_code 202 = .ok (.goto 9, 3) := by decide +kernel
theorem dX8_turn_205 : decode prog_10_method_44_code 205 = .ok (.aload_n 0, 1) := by decide +kernel
theorem dX8_turn_206 : decode prog_10_method_44_code 206 = .ok (.getfield 7, 3) := by decide +kernel
theorem dX8_turn_209 : decode prog_10_method_44_code 209 = .ok (.iconst 5, 1) := by decide +kernel
theorem dX8_turn_210 : decode prog_10_method_44_code 210 = .ok (.iaload, 1) := by decide +kernel
theorem dX8_turn_211 : decode prog_10_method_44_code 211 = .ok (.iastore, 1) := by decide +kernel
theorem dX8_turn_212 : decode prog_10_method_44_code 212 = .ok (.aload_n 0, 1) := by decide +kernel
theorem dX8_turn_213 : decode prog_10_method_44_code 213 = .ok (.getfield 7, 3) := by decide +kernel
theorem dX8_turn_216 : decode prog_10_method_44_code 216 = .ok (.iload 6, 2) := by decide +kernel
theorem dX8_turn_218 : decode prog_10_method_44_code 218 = .ok (.iconst 2, 1) := by decide +kernel
theorem dX8_turn_219 : decode prog_10_method_44_code 219 = .ok (.iadd, 1) := by decide +kernel
theorem dX8_turn_220 : decode prog_10_method_44_code 220 = .ok (.iload 5, 2) := by decide +kernel
theorem dX8_turn_222 : decode prog_10_method_44_code 222 = .ok (.ifCond .eq 7, 3) := by decide +kernel
theorem dX8_turn_225 : decode prog_10_method_44_code 225 = .ok (.iconst 1, 1) := by decide +kernel
theorem dX8_turn_226 : decode prog_10_method_44_code 226 = .ok (.goto 4, 3) := by decide +kernel
theorem dX8_turn_229 : decode prog_10_method_44_code 229 = .ok (.iconst 0, 1) := by decide +kernel
theorem dX8_turn_230 : decode prog_10_method_44_code 230 = .ok (.iastore, 1) := by decide +kernel
theorem dX8_turn_231 : decode prog_10_method_44_code 231 = .ok (.aload_n 0, 1) := by decide +kernel
theorem dX8_turn_232 : decode prog_10_method_44_code 232 = .ok (.getfield 7, 3) := by decide +kernel
theorem dX8_turn_235 : decode prog_10_method_44_code 235 = .ok (.iconst 4, 1) := by decide +kernel
theorem dX8_turn_236 : decode prog_10_method_44_code 236 = .ok (.dup2, 1) := by decide +kernel
theorem dX8_turn_237 : decode prog_10_method_44_code 237 = .ok (.iaload, 1) := by decide +kernel
theorem dX8_turn_238 : decode prog_10_method_44_code 238 = .ok (.iconst 1, 1) := by decide +kernel
theorem dX8_turn_239 : decode prog_10_method_44_code 239 = .ok (.iadd, 1) := by decide +kernel
theorem dX8_turn_240 : decode prog_10_method_44_code 240 = .ok (.iastore, 1) := by decide +kernel
theorem dX8_turn_241 : decode prog_10_method_44_code 241 = .ok (.iload_n 3, 1) := by decide +kernel
theorem dX8_turn_242 : decode prog_10_method_44_code 242 = .ok (.ireturn, 1) := by decide +kernel
theorem dX8_go_0 : decode prog_10_method_45_code 0 = .ok (.iload_n 1, 1) := by decide +kernel
theorem dX8_go_1 : decode prog_10_method_45_code 1 = .ok (.i2l, 1) := by decide +kernel
theorem dX8_go_2 : decode prog_10_method_45_code 2 = .ok (.lconst 1, 1) := by decide +kernel
theorem dX8_go_3 : decode prog_10_method_45_code 3 = .ok (.ldc2_w 170, 3) := by decide +kernel
theorem dX8_go_6 : decode prog_10_method_45_code 6 = .ok (.invokestatic 65, 3) := by decide +kernel
theorem dX8_go_9 : decode prog_10_method_45_code 9 = .ok (.ifCond .ne 6, 3) := by decide +kernel
theorem dX8_go_12 : decode prog_10_method_45_code 12 = .ok (.ldc 72, 2) := by decide +kernel
theorem dX8_go_14 : decode prog_10_method_45_code 14 = .ok (.ireturn, 1) := by decide +kernel
theorem dX8_go_15 : decode prog_10_method_45_code 15 = .ok (.iconst 0, 1) := by decide +kernel
theorem dX8_go_16 : decode prog_10_method_45_code 16 = .ok (.istore_n 2, 1) := by decide +kernel
theorem dX8_go_17 : decode prog_10_method_45_code 17 = .ok (.iload_n 2, 1) := by decide +kernel
theorem dX8_go_18 : decode prog_10_method_45_code 18 = .ok (.iload_n 1, 1) := by decide +kernel
theorem dX8_go_19 : decode prog_10_method_45_code 19 = .ok (.if_icmp .ge 26, 3) := by decide +kernel
theorem dX8_go_22 : decode prog_10_method_45_code 22 = .ok (.aload_n 0, 1) := by decide +kernel
theorem dX8_go_23 : decode prog_10_method_45_code 23 = .ok (.getfield 7, 3) := by decide +kernel
theorem dX8_go_26 : decode prog_10_method_45_code 26 = .ok (.iconst 4, 1) := by decide +kernel
theorem dX8_go_27 : decode prog_10_method_45_code 27 = .ok (.iaload, 1) := by decide +kernel
theorem dX8_go_28 : decode prog_10_method_45_code 28 = .ok (.sipush 9999, 3) := by decide +kernel
theorem dX8_go_31 : decode prog_10_method_45_code 31 = .ok (.if_icmp .ge 14, 3) := by decide +kernel
theorem dX8_go_34 : decode prog_10_method_45_code 34 = .ok (.aload_n 0, 1) := by decide +kernel
theorem dX8_go_35 : decode prog_10_method_45_code 35 = .ok (.invokevirtual 172, 3) := by decide +kernel
theorem dX8_go_38 : decode prog_10_method_45_code 38 = .ok (.istore_n 3, 1) := by decide +kernel
theorem dX8_go_39 : decode prog_10_method_45_code 39 = .ok (.iinc 2 1, 3) := by decide +kernel
theorem dX8_go_42 : decode prog_10_method_45_code 42 = .ok (.goto (-25), 3) := by decide +kernel
theorem dX8_go_45 : decode prog_10_method_45_code 45 = .ok (.aload_n 0, 1) := by decide +kernel
theorem dX8_go_46 : decode prog_10_method_45_code 46 = .ok (.getfield 7, 3) := by decide +kernel
theorem dX8_go_49 : decode prog_10_method_45_code 49 = .ok (.bipush 6, 2) := by decide +kernel
theorem dX8_go_51 : decode prog_10_method_45_code 51 = .ok (.iaload, 1) := by decide +kernel
theorem dX8_go_52 : decode prog_10_method_45_code 52 = .ok (.ireturn, 1) := by decide +kernel
theorem dX8_odds_0 : decode prog_10_method_46_code 0 = .ok (.aload_n 0, 1) := by decide +kernel
theorem dX8_odds_1 : decode prog_10_method_46_code 1 = .ok (.iload_n 1, 1) := by decide +kernel
theorem dX8_odds_2 : decode prog_10_method_46_code 2 = .ok (.invokevirtual 95, 3) := by decide +kernel
theorem dX8_odds_5 : decode prog_10_method_46_code 5 = .ok (.ifCond .ne 6, 3) := by decide +kernel
theorem dX8_odds_8 : decode prog_10_method_46_code 8 = .ok (.ldc 72, 2) := by decide +kernel
theorem dX8_odds_10 : decode prog_10_method_46_code 10 = .ok (.ireturn, 1) := by decide +kernel
theorem dX8_odds_11 : decode prog_10_method_46_code 11 = .ok (.aload_n 0, 1) := by decide +kernel
theorem dX8_odds_12 : decode prog_10_method_46_code 12 = .ok (.invokevirtual 160, 3) := by decide +kernel
theorem dX8_odds_15 : decode prog_10_method_46_code 15 = .ok (.ifCond .ne 6, 3) := by decide +kernel
theorem dX8_odds_18 : decode prog_10_method_46_code 18 = .ok (.ldc 175, 2) := by decide +kernel
theorem dX8_odds_20 : decode prog_10_method_46_code 20 = .ok (.ireturn, 1) := by decide +kernel
theorem dX8_odds_21 : decode prog_10_method_46_code 21 = .ok (.aload_n 0, 1) := by decide +kernel
theorem dX8_odds_22 : decode prog_10_method_46_code 22 = .ok (.invokevirtual 164, 3) := by decide +kernel
theorem dX8_odds_25 : decode prog_10_method_46_code 25 = .ok (.istore_n 2, 1) := by decide +kernel
theorem dX8_odds_26 : decode prog_10_method_46_code 26 = .ok (.iconst 0, 1) := by decide +kernel
theorem dX8_odds_27 : decode prog_10_method_46_code 27 = .ok (.istore_n 3, 1) := by decide +kernel
theorem dX8_odds_28 : decode prog_10_method_46_code 28 = .ok (.iconst 0, 1) := by decide +kernel
theorem dX8_odds_29 : decode prog_10_method_46_code 29 = .ok (.istore 4, 2) := by decide +kernel
theorem dX8_odds_31 : decode prog_10_method_46_code 31 = .ok (.iload 4, 2) := by decide +kernel
theorem dX8_odds_33 : decode prog_10_method_46_code 33 = .ok (.bipush 10, 2) := by decide +kernel
theorem dX8_odds_35 : decode prog_10_method_46_code 35 = .ok (.if_icmp .ge 40, 3) := by decide +kernel
theorem dX8_odds_38 : decode prog_10_method_46_code 38 = .ok (.iload_n 3, 1) := by decide +kernel
theorem dX8_odds_39 : decode prog_10_method_46_code 39 = .ok (.aload_n 0, 1) := by decide +kernel
theorem dX8_odds_40 : decode prog_10_method_46_code 40 = .ok (.iload_n 2, 1) := by decide +kernel
theorem dX8_odds_41 : decode prog_10_method_46_code 41 = .ok (.aload_n 0, 1) := by decide +kernel
theorem dX8_odds_42 : decode prog_10_method_46_code 42 = .ok (.iload_n 2, 1) := by decide +kernel
theorem dX8_odds_43 : decode prog_10_method_46_code 43 = .ok (.invokevirtual 124, 3) := by decide +kernel
theorem dX8_odds_46 : decode prog_10_method_46_code 46 = .ok (.ifCond .eq 8, 3) := by decide +kernel
theorem dX8_odds_49 : decode prog_10_method_46_code 49 = .ok (.iload 4, 2) := by decide +kernel
theorem dX8_odds_51 : decode prog_10_method_46_code 51 = .ok (.goto 4, 3) := by decide +kernel
theorem dX8_odds_54 : decode prog_10_method_46_code 54 = .ok (.iconst 0, 1) := by decide +kernel
theorem dX8_odds_55 : decode prog_10_method_46_code 55 = .ok (.invokevirtual 167, 3) := by decide +kernel
theorem dX8_odds_58 : decode prog_10_method_46_code 58 = .ok (.iload_n 1, 1) := by decide +kernel
theorem dX8_odds_59 : decode prog_10_method_46_code 59 = .ok (.if_icmp .ne 7, 3) := by decide +kernel
theorem dX8_odds_62 : decode prog_10_method_46_code 62 = .ok (.iconst 1, 1) := by decide +kernel
theorem dX8_odds_63 : decode prog_10_method_46_code 63 = .ok (.goto 4, 3) := by decide +kernel
theorem dX8_odds_66 : decode prog_10_method_46_code 66 = .ok (.iconst 0, 1) := by decide +kernel
theorem dX8_odds_67 : decode prog_10_method_46_code 67 = .ok (.iadd, 1) := by decide +kernel
theorem dX8_odds_68 : decode prog_10_method_46_code 68 = .ok (.istore_n 3, 1) := by decide +kernel
theorem dX8_odds_69 : decode prog_10_method_46_code 69 = .ok (.iinc 4 1, 3) := by decide +kernel
theorem dX8_odds_72 : decode prog_10_method_46_code 72 = .ok (.goto (-41), 3) := by decide +kernel
theorem dX8_odds_75 : decode prog_10_method_46_code 75 = .ok (.iload_n 3, 1) := by decide +kernel
theorem dX8_odds_76 : decode prog_10_method_46_code 76 = .ok (.ireturn, 1) := by decide +kernel
theorem dX8_goesMany_0 : decode prog_10_method_51_code 0 = .ok (.iconst (-1), 1) := by decide +kernel
theorem dX8_goesMany_1 : decode prog_10_method_51_code 1 = .ok (.istore_n 2, 1) := by decide +kernel
theorem dX8_goesMany_2 : decode prog_10_method_51_code 2 = .ok (.iconst 0, 1) := by decide +kernel
theorem dX8_goesMany_3 : decode prog_10_method_51_code 3 = .ok (.istore_n 3, 1) := by decide +kernel
theorem dX8_goesMany_4 : decode prog_10_method_51_code 4 = .ok (.iload_n 3, 1) := by decide +kernel
theorem dX8_goesMany_5 : decode prog_10_method_51_code 5 = .ok (.iload_n 1, 1) := by decide +kernel
theorem dX8_goesMany_6 : decode prog_10_method_51_code 6 = .ok (.if_icmp .ge 14, 3) := by decide +kernel
theorem dX8_goesMany_9 : decode prog_10_method_51_code 9 = .ok (.aload_n 0, 1) := by decide +kernel
theorem dX8_goesMany_10 : decode prog_10_method_51_code 10 = .ok (.invokevirtual 172, 3) := by decide +kernel
theorem dX8_goesMany_13 : decode prog_10_method_51_code 13 = .ok (.istore_n 2, 1) := by decide +kernel
theorem dX8_goesMany_14 : decode prog_10_method_51_code 14 = .ok (.iinc 3 1, 3) := by decide +kernel
theorem dX8_goesMany_17 : decode prog_10_method_51_code 17 = .ok (.goto (-13), 3) := by decide +kernel
theorem dX8_goesMany_20 : decode prog_10_method_51_code 20 = .ok (.iload_n 2, 1) := by decide +kernel
theorem dX8_goesMany_21 : decode prog_10_method_51_code 21 = .ok (.ireturn, 1) := by decide +kernel
theorem dX8_laysBack_0 : decode prog_10_method_50_code 0 = .ok (.iconst 0, 1) := by decide +kernel
theorem dX8_laysBack_1 : decode prog_10_method_50_code 1 = .ok (.istore_n 1, 1) := by decide +kernel
theorem dX8_laysBack_2 : decode prog_10_method_50_code 2 = .ok (.iload_n 1, 1) := by decide +kernel
theorem dX8_laysBack_3 : decode prog_10_method_50_code 3 = .ok (.bipush 92, 2) := by decide +kernel
theorem dX8_laysBack_5 : decode prog_10_method_50_code 5 = .ok (.if_icmp .ge 21, 3) := by decide +kernel
theorem dX8_laysBack_8 : decode prog_10_method_50_code 8 = .ok (.aload_n 0, 1) := by decide +kernel
theorem dX8_laysBack_9 : decode prog_10_method_50_code 9 = .ok (.getfield 7, 3) := by decide +kernel
theorem dX8_laysBack_12 : decode prog_10_method_50_code 12 = .ok (.iload_n 1, 1) := by decide +kernel
theorem dX8_laysBack_13 : decode prog_10_method_50_code 13 = .ok (.aload_n 0, 1) := by decide +kernel
theorem dX8_laysBack_14 : decode prog_10_method_50_code 14 = .ok (.getfield 43, 3) := by decide +kernel
theorem dX8_laysBack_17 : decode prog_10_method_50_code 17 = .ok (.iload_n 1, 1) := by decide +kernel
theorem dX8_laysBack_18 : decode prog_10_method_50_code 18 = .ok (.iaload, 1) := by decide +kernel
theorem dX8_laysBack_19 : decode prog_10_method_50_code 19 = .ok (.iastore, 1) := by decide +kernel
theorem dX8_laysBack_20 : decode prog_10_method_50_code 20 = .ok (.iinc 1 1, 3) := by decide +kernel
theorem dX8_laysBack_23 : decode prog_10_method_50_code 23 = .ok (.goto (-21), 3) := by decide +kernel
theorem dX8_laysBack_26 : decode prog_10_method_50_code 26 = .ok (.return_, 1) := by decide +kernel
theorem dX8_laysBy_0 : decode prog_10_method_49_code 0 = .ok (.iconst 0, 1) := by decide +kernel
theorem dX8_laysBy_1 : decode prog_10_method_49_code 1 = .ok (.istore_n 1, 1) := by decide +kernel
theorem dX8_laysBy_2 : decode prog_10_method_49_code 2 = .ok (.iload_n 1, 1) := by decide +kernel
theorem dX8_laysBy_3 : decode prog_10_method_49_code 3 = .ok (.bipush 92, 2) := by decide +kernel
theorem dX8_laysBy_5 : decode prog_10_method_49_code 5 = .ok (.if_icmp .ge 21, 3) := by decide +kernel
theorem dX8_laysBy_8 : decode prog_10_method_49_code 8 = .ok (.aload_n 0, 1) := by decide +kernel
theorem dX8_laysBy_9 : decode prog_10_method_49_code 9 = .ok (.getfield 43, 3) := by decide +kernel
theorem dX8_laysBy_12 : decode prog_10_method_49_code 12 = .ok (.iload_n 1, 1) := by decide +kernel
theorem dX8_laysBy_13 : decode prog_10_method_49_code 13 = .ok (.aload_n 0, 1) := by decide +kernel
theorem dX8_laysBy_14 : decode prog_10_method_49_code 14 = .ok (.getfield 7, 3) := by decide +kernel
theorem dX8_laysBy_17 : decode prog_10_method_49_code 17 = .ok (.iload_n 1, 1) := by decide +kernel
theorem dX8_laysBy_18 : decode prog_10_method_49_code 18 = .ok (.iaload, 1) := by decide +kernel
theorem dX8_laysBy_19 : decode prog_10_method_49_code 19 = .ok (.iastore, 1) := by decide +kernel
theorem dX8_laysBy_20 : decode prog_10_method_49_code 20 = .ok (.iinc 1 1, 3) := by decide +kernel
theorem dX8_laysBy_23 : decode prog_10_method_49_code 23 = .ok (.goto (-21), 3) := by decide +kernel
theorem dX8_laysBy_26 : decode prog_10_method_49_code 26 = .ok (.return_, 1) := by decide +kernel
theorem dX8_spread_0 : decode prog_10_method_47_code 0 = .ok (.bipush 100, 2) := by decide +kernel
theorem dX8_spread_2 : decode prog_10_method_47_code 2 = .ok (.istore_n 1, 1) := by decide +kernel
theorem dX8_spread_3 : decode prog_10_method_47_code 3 = .ok (.iconst 0, 1) := by decide +kernel
theorem dX8_spread_4 : decode prog_10_method_47_code 4 = .ok (.istore_n 2, 1) := by decide +kernel
theorem dX8_spread_5 : decode prog_10_method_47_code 5 = .ok (.iconst 0, 1) := by decide +kernel
theorem dX8_spread_6 : decode prog_10_method_47_code 6 = .ok (.istore_n 3, 1) := by decide +kernel
theorem dX8_spread_7 : decode prog_10_method_47_code 7 = .ok (.iload_n 3, 1) := by decide +kernel
theorem dX8_spread_8 : decode prog_10_method_47_code 8 = .ok (.aload_n 0, 1) := by decide +kernel
theorem dX8_spread_9 : decode prog_10_method_47_code 9 = .ok (.getfield 7, 3) := by decide +kernel
theorem dX8_spread_12 : decode prog_10_method_47_code 12 = .ok (.iconst 0, 1) := by decide +kernel
theorem dX8_spread_13 : decode prog_10_method_47_code 13 = .ok (.iaload, 1) := by decide +kernel
theorem dX8_spread_14 : decode prog_10_method_47_code 14 = .ok (.if_icmp .ge 51, 3) := by decide +kernel
theorem dX8_spread_17 : decode prog_10_method_47_code 17 = .ok (.aload_n 0, 1) := by decide +kernel
theorem dX8_spread_18 : decode prog_10_method_47_code 18 = .ok (.iload_n 3, 1) := by decide +kernel
theorem dX8_spread_19 : decode prog_10_method_47_code 19 = .ok (.iconst 1, 1) := by decide +kernel
theorem dX8_spread_20 : decode prog_10_method_47_code 20 = .ok (.invokevirtual 74, 3) := by decide +kernel
theorem dX8_spread_23 : decode prog_10_method_47_code 23 = .ok (.iload_n 1, 1) := by decide +kernel
theorem dX8_spread_24 : decode prog_10_method_47_code 24 = .ok (.if_icmp .ge 12, 3) := by decide +kernel
theorem dX8_spread_27 : decode prog_10_method_47_code 27 = .ok (.aload_n 0, 1) := by decide +kernel
theorem dX8_spread_28 : decode prog_10_method_47_code 28 = .ok (.iload_n 3, 1) := by decide +kernel
theorem dX8_spread_29 : decode prog_10_method_47_code 29 = .ok (.iconst 1, 1) := by decide +kernel
theorem dX8_spread_30 : decode prog_10_method_47_code 30 = .ok (.invokevirtual 74, 3) := by decide +kernel
theorem dX8_spread_33 : decode prog_10_method_47_code 33 = .ok (.goto 4, 3) := by decide +kernel
theorem dX8_spread_36 : decode prog_10_method_47_code 36 = .ok (.iload_n 1, 1) := by decide +kernel
theorem dX8_spread_37 : decode prog_10_method_47_code 37 = .ok (.istore_n 1, 1) := by decide +kernel
theorem dX8_spread_38 : decode prog_10_method_47_code 38 = .ok (.aload_n 0, 1) := by decide +kernel
theorem dX8_spread_39 : decode prog_10_method_47_code 39 = .ok (.iload_n 3, 1) := by decide +kernel
theorem dX8_spread_40 : decode prog_10_method_47_code 40 = .ok (.iconst 1, 1) := by decide +kernel
theorem dX8_spread_41 : decode prog_10_method_47_code 41 = .ok (.invokevirtual 74, 3) := by decide +kernel
theorem dX8_spread_44 : decode prog_10_method_47_code 44 = .ok (.iload_n 2, 1) := by decide +kernel
theorem dX8_spread_45 : decode prog_10_method_47_code 45 = .ok (.if_icmp .le 12, 3) := by decide +kernel
theorem dX8_spread_48 : decode prog_10_method_47_code 48 = .ok (.aload_n 0, 1) := by decide +kernel
theorem dX8_spread_49 : decode prog_10_method_47_code 49 = .ok (.iload_n 3, 1) := by decide +kernel
theorem dX8_spread_50 : decode prog_10_method_47_code 50 = .ok (.iconst 1, 1) := by decide +kernel
theorem dX8_spread_51 : decode prog_10_method_47_code 51 = .ok (.invokevirtual 74, 3) := by decide +kernel
theorem dX8_spread_54 : decode prog_10_method_47_code 54 = .ok (.goto 4, 3) := by decide +kernel
theorem dX8_spread_57 : decode prog_10_method_47_code 57 = .ok (.iload_n 2, 1) := by decide +kernel
theorem dX8_spread_58 : decode prog_10_method_47_code 58 = .ok (.istore_n 2, 1) := by decide +kernel
theorem dX8_spread_59 : decode prog_10_method_47_code 59 = .ok (.iinc 3 1, 3) := by decide +kernel
theorem dX8_spread_62 : decode prog_10_method_47_code 62 = .ok (.goto (-55), 3) := by decide +kernel
theorem dX8_spread_65 : decode prog_10_method_47_code 65 = .ok (.aload_n 0, 1) := by decide +kernel
theorem dX8_spread_66 : decode prog_10_method_47_code 66 = .ok (.getfield 7, 3) := by decide +kernel
theorem dX8_spread_69 : decode prog_10_method_47_code 69 = .ok (.iconst 0, 1) := by decide +kernel
theorem dX8_spread_70 : decode prog_10_method_47_code 70 = .ok (.iaload, 1) := by decide +kernel
theorem dX8_spread_71 : decode prog_10_method_47_code 71 = .ok (.ifCond .ne 7, 3) := by decide +kernel
theorem dX8_spread_74 : decode prog_10_method_47_code 74 = .ok (.iconst 0, 1) := by decide +kernel
theorem dX8_spread_75 : decode prog_10_method_47_code 75 = .ok (.goto 6, 3) := by decide +kernel
theorem dX8_spread_78 : decode prog_10_method_47_code 78 = .ok (.iload_n 2, 1) := by decide +kernel
theorem dX8_spread_79 : decode prog_10_method_47_code 79 = .ok (.iload_n 1, 1) := by decide +kernel
theorem dX8_spread_80 : decode prog_10_method_47_code 80 = .ok (.isub, 1) := by decide +kernel
theorem dX8_spread_81 : decode prog_10_method_47_code 81 = .ok (.ireturn, 1) := by decide +kernel
theorem dX8_without_0 : decode prog_10_method_48_code 0 = .ok (.iconst 0, 1) := by decide +kernel
theorem dX8_without_1 : decode prog_10_method_48_code 1 = .ok (.istore_n 1, 1) := by decide +kernel
theorem dX8_without_2 : decode prog_10_method_48_code 2 = .ok (.iconst 0, 1) := by decide +kernel
theorem dX8_without_3 : decode prog_10_method_48_code 3 = .ok (.istore_n 2, 1) := by decide +kernel
theorem dX8_without_4 : decode prog_10_method_48_code 4 = .ok (.iload_n 2, 1) := by decide +kernel
theorem dX8_without_5 : decode prog_10_method_48_code 5 = .ok (.aload_n 0, 1) := by decide +kernel
theorem dX8_without_6 : decode prog_10_method_48_code 6 = .ok (.getfield 7, 3) := by decide +kernel
theorem dX8_without_9 : decode prog_10_method_48_code 9 = .ok (.iconst 0, 1) := by decide +kernel
theorem dX8_without_10 : decode prog_10_method_48_code 10 = .ok (.iaload, 1) := by decide +kernel
theorem dX8_without_11 : decode prog_10_method_48_code 11 = .ok (.if_icmp .ge 26, 3) := by decide +kernel
theorem dX8_without_14 : decode prog_10_method_48_code 14 = .ok (.iload_n 1, 1) := by decide +kernel
theorem dX8_without_15 : decode prog_10_method_48_code 15 = .ok (.aload_n 0, 1) := by decide +kernel
theorem dX8_without_16 : decode prog_10_method_48_code 16 = .ok (.iload_n 2, 1) := by decide +kernel
theorem dX8_without_17 : decode prog_10_method_48_code 17 = .ok (.iconst 1, 1) := by decide +kernel
theorem dX8_without_18 : decode prog_10_method_48_code 18 = .ok (.invokevirtual 74, 3) := by decide +kernel
theorem dX8_without_21 : decode prog_10_method_48_code 21 = .ok (.ifCond .ne 7, 3) := by decide +kernel
theorem dX8_without_24 : decode prog_10_method_48_code 24 = .ok (.iconst 1, 1) := by decide +kernel
theorem dX8_without_25 : decode prog_10_method_48_code 25 = .ok (.goto 4, 3) := by decide +kernel
theorem dX8_without_28 : decode prog_10_method_48_code 28 = .ok (.iconst 0, 1) := by decide +kernel
theorem dX8_without_29 : decode prog_10_method_48_code 29 = .ok (.iadd, 1) := by decide +kernel
theorem dX8_without_30 : decode prog_10_method_48_code 30 = .ok (.istore_n 1, 1) := by decide +kernel
theorem dX8_without_31 : decode prog_10_method_48_code 31 = .ok (.iinc 2 1, 3) := by decide +kernel
theorem dX8_without_34 : decode prog_10_method_48_code 34 = .ok (.goto (-30), 3) := by decide +kernel
theorem dX8_without_37 : decode prog_10_method_48_code 37 = .ok (.iload_n 1, 1) := by decide +kernel
theorem dX8_without_38 : decode prog_10_method_48_code 38 = .ok (.ireturn, 1) := by decide +kernel
theorem dX8_behind_0 : decode prog_10_method_52_code 0 = .ok (.iload_n 1, 1) := by decide +kernel
theorem dX8_behind_1 : decode prog_10_method_52_code 1 = .ok (.i2l, 1) := by decide +kernel
theorem dX8_behind_2 : decode prog_10_method_52_code 2 = .ok (.lconst 0, 1) := by decide +kernel
theorem dX8_behind_3 : decode prog_10_method_52_code 3 = .ok (.ldc2_w 170, 3) := by decide +kernel
theorem dX8_behind_6 : decode prog_10_method_52_code 6 = .ok (.invokestatic 65, 3) := by decide +kernel
theorem dX8_behind_9 : decode prog_10_method_52_code 9 = .ok (.ifCond .eq 15, 3) := by decide +kernel
theorem dX8_behind_12 : decode prog_10_method_52_code 12 = .ok (.iload_n 2, 1) := by decide +kernel
theorem dX8_behind_13 : decode prog_10_method_52_code 13 = .ok (.i2l, 1) := by decide +kernel
theorem dX8_behind_14 : decode prog_10_method_52_code 14 = .ok (.lconst 0, 1) := by decide +kernel
theorem dX8_behind_15 : decode prog_10_method_52_code 15 = .ok (.ldc2_w 115, 3) := by decide +kernel
theorem dX8_behind_18 : decode prog_10_method_52_code 18 = .ok (.invokestatic 65, 3) := by decide +kernel
theorem dX8_behind_21 : decode prog_10_method_52_code 21 = .ok (.ifCond .ne 6, 3) := by decide +kernel
theorem dX8_behind_24 : decode prog_10_method_52_code 24 = .ok (.ldc 72, 2) := by decide +kernel
theorem dX8_behind_26 : decode prog_10_method_52_code 26 = .ok (.ireturn, 1) := by decide +kernel
theorem dX8_behind_27 : decode prog_10_method_52_code 27 = .ok (.aload_n 0, 1) := by decide +kernel
theorem dX8_behind_28 : decode prog_10_method_52_code 28 = .ok (.invokevirtual 176, 3) := by decide +kernel
theorem dX8_behind_31 : decode prog_10_method_52_code 31 = .ok (.aload_n 0, 1) := by decide +kernel
theorem dX8_behind_32 : decode prog_10_method_52_code 32 = .ok (.iload_n 1, 1) := by decide +kernel
theorem dX8_behind_33 : decode prog_10_method_52_code 33 = .ok (.invokevirtual 179, 3) := by decide +kernel
theorem dX8_behind_36 : decode prog_10_method_52_code 36 = .ok (.istore_n 3, 1) := by decide +kernel
theorem dX8_behind_37 : decode prog_10_method_52_code 37 = .ok (.iconst 0, 1) := by decide +kernel
theorem dX8_behind_38 : decode prog_10_method_52_code 38 = .ok (.istore 4, 2) := by decide +kernel
theorem dX8_behind_40 : decode prog_10_method_52_code 40 = .ok (.iload_n 2, 1) := by decide +kernel
theorem dX8_behind_41 : decode prog_10_method_52_code 41 = .ok (.tableswitch 89 0 4 #[35, 47, 56, 65, 77], 35) := by decide +kernel
theorem dX8_behind_76 : decode prog_10_method_52_code 76 = .ok (.aload_n 0, 1) := by decide +kernel
theorem dX8_behind_77 : decode prog_10_method_52_code 77 = .ok (.getfield 7, 3) := by decide +kernel
theorem dX8_behind_80 : decode prog_10_method_52_code 80 = .ok (.bipush 6, 2) := by decide +kernel
theorem dX8_behind_82 : decode prog_10_method_52_code 82 = .ok (.iaload, 1) := by decide +kernel
theorem dX8_behind_83 : decode prog_10_method_52_code 83 = .ok (.istore 4, 2) := by decide +kernel
theorem dX8_behind_85 : decode prog_10_method_52_code 85 = .ok (.goto 54, 3) := by decide +kernel
theorem dX8_behind_88 : decode prog_10_method_52_code 88 = .ok (.aload_n 0, 1) := by decide +kernel
theorem dX8_behind_89 : decode prog_10_method_52_code 89 = .ok (.invokevirtual 182, 3) := by decide +kernel
theorem dX8_behind_92 : decode prog_10_method_52_code 92 = .ok (.istore 4, 2) := by decide +kernel
theorem dX8_behind_94 : decode prog_10_method_52_code 94 = .ok (.goto 45, 3) := by decide +kernel
theorem dX8_behind_97 : decode prog_10_method_52_code 97 = .ok (.aload_n 0, 1) := by decide +kernel
theorem dX8_behind_98 : decode prog_10_method_52_code 98 = .ok (.invokevirtual 185, 3) := by decide +kernel
theorem dX8_behind_101 : decode prog_10_method_52_code 101 = .ok (.istore 4, 2) := by decide +kernel
theorem dX8_behind_103 : decode prog_10_method_52_code 103 = .ok (.goto 36, 3) := by decide +kernel
theorem dX8_behind_106 : decode prog_10_method_52_code 106 = .ok (.aload_n 0, 1) := by decide +kernel
theorem dX8_behind_107 : decode prog_10_method_52_code 107 = .ok (.getfield 7, 3) := by decide +kernel
theorem dX8_behind_110 : decode prog_10_method_52_code 110 = .ok (.bipush 8, 2) := by decide +kernel
theorem dX8_behind_112 : decode prog_10_method_52_code 112 = .ok (.iaload, 1) := by decide +kernel
theorem dX8_behind_113 : decode prog_10_method_52_code 113 = .ok (.istore 4, 2) := by decide +kernel
theorem dX8_behind_115 : decode prog_10_method_52_code 115 = .ok (.goto 24, 3) := by decide +kernel
theorem dX8_behind_118 : decode prog_10_method_52_code 118 = .ok (.aload_n 0, 1) := by decide +kernel
theorem dX8_behind_119 : decode prog_10_method_52_code 119 = .ok (.getfield 7, 3) := by decide +kernel
theorem dX8_behind_122 : decode prog_10_method_52_code 122 = .ok (.bipush 9, 2) := by decide +kernel
theorem dX8_behind_124 : decode prog_10_method_52_code 124 = .ok (.iaload, 1) := by decide +kernel
theorem dX8_behind_125 : decode prog_10_method_52_code 125 = .ok (.istore 4, 2) := by decide +kernel
theorem dX8_behind_127 : decode prog_10_method_52_code 127 = .ok (.goto 12, 3) := by decide +kernel
theorem dX8_behind_130 : decode prog_10_method_52_code 130 = .ok (.aload_n 0, 1) := by decide +kernel
theorem dX8_behind_131 : decode prog_10_method_52_code 131 = .ok (.getfield 7, 3) := by decide +kernel
theorem dX8_behind_134 : decode prog_10_method_52_code 134 = .ok (.bipush 10, 2) := by decide +kernel
theorem dX8_behind_136 : decode prog_10_method_52_code 136 = .ok (.iaload, 1) := by decide +kernel
theorem dX8_behind_137 : decode prog_10_method_52_code 137 = .ok (.istore 4, 2) := by decide +kernel
theorem dX8_behind_139 : decode prog_10_method_52_code 139 = .ok (.aload_n 0, 1) := by decide +kernel
theorem dX8_behind_140 : decode prog_10_method_52_code 140 = .ok (.invokevirtual 188, 3) := by decide +kernel
theorem dX8_behind_143 : decode prog_10_method_52_code 143 = .ok (.iload 4, 2) := by decide +kernel
theorem dX8_behind_145 : decode prog_10_method_52_code 145 = .ok (.ireturn, 1) := by decide +kernel
theorem dX8_had_0 : decode prog_10_method_53_code 0 = .ok (.aload_n 0, 1) := by decide +kernel
theorem dX8_had_1 : decode prog_10_method_53_code 1 = .ok (.iload_n 1, 1) := by decide +kernel
theorem dX8_had_2 : decode prog_10_method_53_code 2 = .ok (.invokevirtual 95, 3) := by decide +kernel
theorem dX8_had_5 : decode prog_10_method_53_code 5 = .ok (.ifCond .eq 15, 3) := by decide +kernel
theorem dX8_had_8 : decode prog_10_method_53_code 8 = .ok (.iload_n 2, 1) := by decide +kernel
theorem dX8_had_9 : decode prog_10_method_53_code 9 = .ok (.i2l, 1) := by decide +kernel
theorem dX8_had_10 : decode prog_10_method_53_code 10 = .ok (.lconst 0, 1) := by decide +kernel
theorem dX8_had_11 : decode prog_10_method_53_code 11 = .ok (.ldc2_w 170, 3) := by decide +kernel
theorem dX8_had_14 : decode prog_10_method_53_code 14 = .ok (.invokestatic 65, 3) := by decide +kernel
theorem dX8_had_17 : decode prog_10_method_53_code 17 = .ok (.ifCond .ne 6, 3) := by decide +kernel
theorem dX8_had_20 : decode prog_10_method_53_code 20 = .ok (.ldc 72, 2) := by decide +kernel
theorem dX8_had_22 : decode prog_10_method_53_code 22 = .ok (.ireturn, 1) := by decide +kernel
theorem dX8_had_23 : decode prog_10_method_53_code 23 = .ok (.aload_n 0, 1) := by decide +kernel
theorem dX8_had_24 : decode prog_10_method_53_code 24 = .ok (.invokevirtual 176, 3) := by decide +kernel
theorem dX8_had_27 : decode prog_10_method_53_code 27 = .ok (.aload_n 0, 1) := by decide +kernel
theorem dX8_had_28 : decode prog_10_method_53_code 28 = .ok (.iload_n 2, 1) := by decide +kernel
theorem dX8_had_29 : decode prog_10_method_53_code 29 = .ok (.invokevirtual 179, 3) := by decide +kernel
theorem dX8_had_32 : decode prog_10_method_53_code 32 = .ok (.istore_n 3, 1) := by decide +kernel
theorem dX8_had_33 : decode prog_10_method_53_code 33 = .ok (.aload_n 0, 1) := by decide +kernel
theorem dX8_had_34 : decode prog_10_method_53_code 34 = .ok (.iload_n 1, 1) := by decide +kernel
theorem dX8_had_35 : decode prog_10_method_53_code 35 = .ok (.iconst 1, 1) := by decide +kernel
theorem dX8_had_36 : decode prog_10_method_53_code 36 = .ok (.invokevirtual 74, 3) := by decide +kernel
theorem dX8_had_39 : decode prog_10_method_53_code 39 = .ok (.istore 4, 2) := by decide +kernel
theorem dX8_had_41 : decode prog_10_method_53_code 41 = .ok (.aload_n 0, 1) := by decide +kernel
theorem dX8_had_42 : decode prog_10_method_53_code 42 = .ok (.invokevirtual 188, 3) := by decide +kernel
theorem dX8_had_45 : decode prog_10_method_53_code 45 = .ok (.iload 4, 2) := by decide +kernel
theorem dX8_had_47 : decode prog_10_method_53_code 47 = .ok (.ireturn, 1) := by decide +kernel
theorem dX8_all_0 : decode prog_10_method_54_code 0 = .ok (.aload_n 0, 1) := by decide +kernel
theorem dX8_all_1 : decode prog_10_method_54_code 1 = .ok (.invokevirtual 176, 3) := by decide +kernel
theorem dX8_all_4 : decode prog_10_method_54_code 4 = .ok (.iconst (-1), 1) := by decide +kernel
theorem dX8_all_5 : decode prog_10_method_54_code 5 = .ok (.istore_n 1, 1) := by decide +kernel
theorem dX8_all_6 : decode prog_10_method_54_code 6 = .ok (.iconst 0, 1) := by decide +kernel
theorem dX8_all_7 : decode prog_10_method_54_code 7 = .ok (.istore_n 2, 1) := by decide +kernel
theorem dX8_all_8 : decode prog_10_method_54_code 8 = .ok (.iload_n 2, 1) := by decide +kernel
theorem dX8_all_9 : decode prog_10_method_54_code 9 = .ok (.bipush 60, 2) := by decide +kernel
theorem dX8_all_11 : decode prog_10_method_54_code 11 = .ok (.if_icmp .gt 31, 3) := by decide +kernel
theorem dX8_all_14 : decode prog_10_method_54_code 14 = .ok (.iload_n 1, 1) := by decide +kernel
theorem dX8_all_15 : decode prog_10_method_54_code 15 = .ok (.ifCond .ge 27, 3) := by decide +kernel
theorem dX8_all_18 : decode prog_10_method_54_code 18 = .ok (.aload_n 0, 1) := by decide +kernel
theorem dX8_all_19 : decode prog_10_method_54_code 19 = .ok (.invokevirtual 185, 3) := by decide +kernel
theorem dX8_all_22 : decode prog_10_method_54_code 22 = .ok (.ifCond .ne 7, 3) := by decide +kernel
theorem dX8_all_25 : decode prog_10_method_54_code 25 = .ok (.iload_n 2, 1) := by decide +kernel
theorem dX8_all_26 : decode prog_10_method_54_code 26 = .ok (.goto 4, 3) := by decide +kernel
theorem dX8_all_29 : decode prog_10_method_54_code 29 = .ok (.iconst (-1), 1) := by decide +kernel
theorem dX8_all_30 : decode prog_10_method_54_code 30 = .ok (.istore_n 1, 1) := by decide +kernel
theorem dX8_all_31 : decode prog_10_method_54_code 31 = .ok (.aload_n 0, 1) := by decide +kernel
theorem dX8_all_32 : decode prog_10_method_54_code 32 = .ok (.invokevirtual 172, 3) := by decide +kernel
theorem dX8_all_35 : decode prog_10_method_54_code 35 = .ok (.istore_n 3, 1) := by decide +kernel
theorem dX8_all_36 : decode prog_10_method_54_code 36 = .ok (.iinc 2 1, 3) := by decide +kernel
theorem dX8_all_39 : decode prog_10_method_54_code 39 = .ok (.goto (-31), 3) := by decide +kernel
theorem dX8_all_42 : decode prog_10_method_54_code 42 = .ok (.aload_n 0, 1) := by decide +kernel
theorem dX8_all_43 : decode prog_10_method_54_code 43 = .ok (.invokevirtual 188, 3) := by decide +kernel
theorem dX8_all_46 : decode prog_10_method_54_code 46 = .ok (.iload_n 1, 1) := by decide +kernel
theorem dX8_all_47 : decode prog_10_method_54_code 47 = .ok (.invokestatic 105, 3) := by decide +kernel
theorem dX8_all_50 : decode prog_10_method_54_code 50 = .ok (.ireturn, 1) := by decide +kernel
theorem dX8_evens_0 : decode prog_10_method_55_code 0 = .ok (.iload_n 1, 1) := by decide +kernel
theorem dX8_evens_1 : decode prog_10_method_55_code 1 = .ok (.i2l, 1) := by decide +kernel
theorem dX8_evens_2 : decode prog_10_method_55_code 2 = .ok (.lconst 0, 1) := by decide +kernel
theorem dX8_evens_3 : decode prog_10_method_55_code 3 = .ok (.ldc2_w 110, 3) := by decide +kernel
theorem dX8_evens_6 : decode prog_10_method_55_code 6 = .ok (.invokestatic 65, 3) := by decide +kernel
theorem dX8_evens_9 : decode prog_10_method_55_code 9 = .ok (.ifCond .ne 6, 3) := by decide +kernel
theorem dX8_evens_12 : decode prog_10_method_55_code 12 = .ok (.ldc 72, 2) := by decide +kernel
theorem dX8_evens_14 : decode prog_10_method_55_code 14 = .ok (.ireturn, 1) := by decide +kernel
theorem dX8_evens_15 : decode prog_10_method_55_code 15 = .ok (.aload_n 0, 1) := by decide +kernel
theorem dX8_evens_16 : decode prog_10_method_55_code 16 = .ok (.invokevirtual 176, 3) := by decide +kernel
theorem dX8_evens_19 : decode prog_10_method_55_code 19 = .ok (.iconst (-1), 1) := by decide +kernel
theorem dX8_evens_20 : decode prog_10_method_55_code 20 = .ok (.istore_n 2, 1) := by decide +kernel
theorem dX8_evens_21 : decode prog_10_method_55_code 21 = .ok (.iconst 0, 1) := by decide +kernel
theorem dX8_evens_22 : decode prog_10_method_55_code 22 = .ok (.istore_n 3, 1) := by decide +kernel
theorem dX8_evens_23 : decode prog_10_method_55_code 23 = .ok (.iload_n 3, 1) := by decide +kernel
theorem dX8_evens_24 : decode prog_10_method_55_code 24 = .ok (.bipush 60, 2) := by decide +kernel
theorem dX8_evens_26 : decode prog_10_method_55_code 26 = .ok (.if_icmp .gt 33, 3) := by decide +kernel
theorem dX8_evens_29 : decode prog_10_method_55_code 29 = .ok (.iload_n 2, 1) := by decide +kernel
theorem dX8_evens_30 : decode prog_10_method_55_code 30 = .ok (.ifCond .ge 29, 3) := by decide +kernel
theorem dX8_evens_33 : decode prog_10_method_55_code 33 = .ok (.aload_n 0, 1) := by decide +kernel
theorem dX8_evens_34 : decode prog_10_method_55_code 34 = .ok (.invokevirtual 182, 3) := by decide +kernel
theorem dX8_evens_37 : decode prog_10_method_55_code 37 = .ok (.iload_n 1, 1) := by decide +kernel
theorem dX8_evens_38 : decode prog_10_method_55_code 38 = .ok (.if_icmp .gt 7, 3) := by decide +kernel
theorem dX8_evens_41 : decode prog_10_method_55_code 41 = .ok (.iload_n 3, 1) := by decide +kernel
theorem dX8_evens_42 : decode prog_10_method_55_code 42 = .ok (.goto 4, 3) := by decide +kernel
theorem dX8_evens_45 : decode prog_10_method_55_code 45 = .ok (.iconst (-1), 1) := by decide +kernel
theorem dX8_evens_46 : decode prog_10_method_55_code 46 = .ok (.istore_n 2, 1) := by decide +kernel
theorem dX8_evens_47 : decode prog_10_method_55_code 47 = .ok (.aload_n 0, 1) := by decide +kernel
theorem dX8_evens_48 : decode prog_10_method_55_code 48 = .ok (.invokevirtual 172, 3) := by decide +kernel
theorem dX8_evens_51 : decode prog_10_method_55_code 51 = .ok (.istore 4, 2) := by decide +kernel
theorem dX8_evens_53 : decode prog_10_method_55_code 53 = .ok (.iinc 3 1, 3) := by decide +kernel
theorem dX8_evens_56 : decode prog_10_method_55_code 56 = .ok (.goto (-33), 3) := by decide +kernel
theorem dX8_evens_59 : decode prog_10_method_55_code 59 = .ok (.aload_n 0, 1) := by decide +kernel
theorem dX8_evens_60 : decode prog_10_method_55_code 60 = .ok (.invokevirtual 188, 3) := by decide +kernel
theorem dX8_evens_63 : decode prog_10_method_55_code 63 = .ok (.iload_n 2, 1) := by decide +kernel
theorem dX8_evens_64 : decode prog_10_method_55_code 64 = .ok (.invokestatic 105, 3) := by decide +kernel
theorem dX8_evens_67 : decode prog_10_method_55_code 67 = .ok (.ireturn, 1) := by decide +kernel
theorem dX8_steer_0 : decode prog_10_method_56_code 0 = .ok (.aload_n 0, 1) := by decide +kernel
theorem dX8_steer_1 : decode prog_10_method_56_code 1 = .ok (.iload_n 1, 1) := by decide +kernel
theorem dX8_steer_2 : decode prog_10_method_56_code 2 = .ok (.invokevirtual 95, 3) := by decide +kernel
theorem dX8_steer_5 : decode prog_10_method_56_code 5 = .ok (.ifCond .eq 15, 3) := by decide +kernel
theorem dX8_steer_8 : decode prog_10_method_56_code 8 = .ok (.iload_n 2, 1) := by decide +kernel
theorem dX8_steer_9 : decode prog_10_method_56_code 9 = .ok (.i2l, 1) := by decide +kernel
theorem dX8_steer_10 : decode prog_10_method_56_code 10 = .ok (.lconst 1, 1) := by decide +kernel
theorem dX8_steer_11 : decode prog_10_method_56_code 11 = .ok (.ldc2_w 191, 3) := by decide +kernel
theorem dX8_steer_14 : decode prog_10_method_56_code 14 = .ok (.invokestatic 65, 3) := by decide +kernel
theorem dX8_steer_17 : decode prog_10_method_56_code 17 = .ok (.ifCond .ne 6, 3) := by decide +kernel
theorem dX8_steer_20 : decode prog_10_method_56_code 20 = .ok (.ldc 72, 2) := by decide +kernel
theorem dX8_steer_22 : decode prog_10_method_56_code 22 = .ok (.ireturn, 1) := by decide +kernel
theorem dX8_steer_23 : decode prog_10_method_56_code 23 = .ok (.aload_n 0, 1) := by decide +kernel
theorem dX8_steer_24 : decode prog_10_method_56_code 24 = .ok (.invokevirtual 176, 3) := by decide +kernel
theorem dX8_steer_27 : decode prog_10_method_56_code 27 = .ok (.iconst (-1), 1) := by decide +kernel
theorem dX8_steer_28 : decode prog_10_method_56_code 28 = .ok (.istore_n 3, 1) := by decide +kernel
theorem dX8_steer_29 : decode prog_10_method_56_code 29 = .ok (.iload_n 2, 1) := by decide +kernel
theorem dX8_steer_30 : decode prog_10_method_56_code 30 = .ok (.iconst 1, 1) := by decide +kernel
theorem dX8_steer_31 : decode prog_10_method_56_code 31 = .ok (.isub, 1) := by decide +kernel
theorem dX8_steer_32 : decode prog_10_method_56_code 32 = .ok (.istore 4, 2) := by decide +kernel
theorem dX8_steer_34 : decode prog_10_method_56_code 34 = .ok (.iload 4, 2) := by decide +kernel
theorem dX8_steer_36 : decode prog_10_method_56_code 36 = .ok (.ifCond .lt 77, 3) := by decide +kernel
theorem dX8_steer_39 : decode prog_10_method_56_code 39 = .ok (.iload_n 3, 1) := by decide +kernel
theorem dX8_steer_40 : decode prog_10_method_56_code 40 = .ok (.ifCond .ge 73, 3) := by decide +kernel
theorem dX8_steer_43 : decode prog_10_method_56_code 43 = .ok (.aload_n 0, 1) := by decide +kernel
theorem dX8_steer_44 : decode prog_10_method_56_code 44 = .ok (.iload 4, 2) := by decide +kernel
theorem dX8_steer_46 : decode prog_10_method_56_code 46 = .ok (.invokevirtual 179, 3) := by decide +kernel
theorem dX8_steer_49 : decode prog_10_method_56_code 49 = .ok (.istore 5, 2) := by decide +kernel
theorem dX8_steer_51 : decode prog_10_method_56_code 51 = .ok (.iconst 0, 1) := by decide +kernel
theorem dX8_steer_52 : decode prog_10_method_56_code 52 = .ok (.istore 6, 2) := by decide +kernel
theorem dX8_steer_54 : decode prog_10_method_56_code 54 = .ok (.iload 6, 2) := by decide +kernel
theorem dX8_steer_56 : decode prog_10_method_56_code 56 = .ok (.aload_n 0, 1) := by decide +kernel
theorem dX8_steer_57 : decode prog_10_method_56_code 57 = .ok (.getfield 7, 3) := by decide +kernel
theorem dX8_steer_60 : decode prog_10_method_56_code 60 = .ok (.iconst 1, 1) := by decide +kernel
theorem dX8_steer_61 : decode prog_10_method_56_code 61 = .ok (.iaload, 1) := by decide +kernel
theorem dX8_steer_62 : decode prog_10_method_56_code 62 = .ok (.if_icmp .ge 22, 3) := by decide +kernel
theorem dX8_steer_65 : decode prog_10_method_56_code 65 = .ok (.aload_n 0, 1) := by decide +kernel
theorem dX8_steer_66 : decode prog_10_method_56_code 66 = .ok (.getfield 7, 3) := by decide +kernel
theorem dX8_steer_69 : decode prog_10_method_56_code 69 = .ok (.bipush 42, 2) := by decide +kernel
theorem dX8_steer_71 : decode prog_10_method_56_code 71 = .ok (.iconst 3, 1) := by decide +kernel
theorem dX8_steer_72 : decode prog_10_method_56_code 72 = .ok (.iload 6, 2) := by decide +kernel
theorem dX8_steer_74 : decode prog_10_method_56_code 74 = .ok (.imul, 1) := by decide +kernel
theorem dX8_steer_75 : decode prog_10_method_56_code 75 = .ok (.iadd, 1) := by decide +kernel
theorem dX8_steer_76 : decode prog_10_method_56_code 76 = .ok (.iconst 2, 1) := by decide +kernel
theorem dX8_steer_77 : decode prog_10_method_56_code 77 = .ok (.iastore, 1) := by decide +kernel
theorem dX8_steer_78 : decode prog_10_method_56_code 78 = .ok (.iinc 6 1, 3) := by decide +kernel
theorem dX8_steer_81 : decode prog_10_method_56_code 81 = .ok (.goto (-27), 3) := by decide +kernel
theorem dX8_steer_84 : decode prog_10_method_56_code 84 = .ok (.aload_n 0, 1) := by decide +kernel
theorem dX8_steer_85 : decode prog_10_method_56_code 85 = .ok (.iload_n 2, 1) := by decide +kernel
theorem dX8_steer_86 : decode prog_10_method_56_code 86 = .ok (.iload 4, 2) := by decide +kernel
theorem dX8_steer_88 : decode prog_10_method_56_code 88 = .ok (.isub, 1) := by decide +kernel
theorem dX8_steer_89 : decode prog_10_method_56_code 89 = .ok (.invokevirtual 179, 3) := by decide +kernel
theorem dX8_steer_92 : decode prog_10_method_56_code 92 = .ok (.iload_n 1, 1) := by decide +kernel
theorem dX8_steer_93 : decode prog_10_method_56_code 93 = .ok (.if_icmp .ne 8, 3) := by decide +kernel
theorem dX8_steer_96 : decode prog_10_method_56_code 96 = .ok (.iload 4, 2) := by decide +kernel
theorem dX8_steer_98 : decode prog_10_method_56_code 98 = .ok (.goto 4, 3) := by decide +kernel
theorem dX8_steer_101 : decode prog_10_method_56_code 101 = .ok (.iconst (-1), 1) := by decide +kernel
theorem dX8_steer_102 : decode prog_10_method_56_code 102 = .ok (.istore_n 3, 1) := by decide +kernel
theorem dX8_steer_103 : decode prog_10_method_56_code 103 = .ok (.aload_n 0, 1) := by decide +kernel
theorem dX8_steer_104 : decode prog_10_method_56_code 104 = .ok (.invokevirtual 188, 3) := by decide +kernel
theorem dX8_steer_107 : decode prog_10_method_56_code 107 = .ok (.iinc 4 (-1), 3) := by decide +kernel
theorem dX8_steer_110 : decode prog_10_method_56_code 110 = .ok (.goto (-76), 3) := by decide +kernel
theorem dX8_steer_113 : decode prog_10_method_56_code 113 = .ok (.iload_n 3, 1) := by decide +kernel
theorem dX8_steer_114 : decode prog_10_method_56_code 114 = .ok (.invokestatic 105, 3) := by decide +kernel
theorem dX8_steer_117 : decode prog_10_method_56_code 117 = .ok (.ireturn, 1) := by decide +kernel
theorem dX8_pays_0 : decode prog_10_method_57_code 0 = .ok (.aload_n 0, 1) := by decide +kernel
theorem dX8_pays_1 : decode prog_10_method_57_code 1 = .ok (.iload_n 1, 1) := by decide +kernel
theorem dX8_pays_2 : decode prog_10_method_57_code 2 = .ok (.invokevirtual 95, 3) := by decide +kernel
theorem dX8_pays_5 : decode prog_10_method_57_code 5 = .ok (.ifCond .eq 25, 3) := by decide +kernel
theorem dX8_pays_8 : decode prog_10_method_57_code 8 = .ok (.iload_n 2, 1) := by decide +kernel
theorem dX8_pays_9 : decode prog_10_method_57_code 9 = .ok (.i2l, 1) := by decide +kernel
theorem dX8_pays_10 : decode prog_10_method_57_code 10 = .ok (.lconst 1, 1) := by decide +kernel
theorem dX8_pays_11 : decode prog_10_method_57_code 11 = .ok (.ldc2_w 193, 3) := by decide +kernel
theorem dX8_pays_14 : decode prog_10_method_57_code 14 = .ok (.invokestatic 65, 3) := by decide +kernel
theorem dX8_pays_17 : decode prog_10_method_57_code 17 = .ok (.ifCond .eq 13, 3) := by decide +kernel
theorem dX8_pays_20 : decode prog_10_method_57_code 20 = .ok (.iload_n 3, 1) := by decide +kernel
theorem dX8_pays_21 : decode prog_10_method_57_code 21 = .ok (.i2l, 1) := by decide +kernel
theorem dX8_pays_22 : decode prog_10_method_57_code 22 = .ok (.lconst 0, 1) := by decide +kernel
theorem dX8_pays_23 : decode prog_10_method_57_code 23 = .ok (.lconst 1, 1) := by decide +kernel
theorem dX8_pays_24 : decode prog_10_method_57_code 24 = .ok (.invokestatic 65, 3) := by decide +kernel
theorem dX8_pays_27 : decode prog_10_method_57_code 27 = .ok (.ifCond .ne 6, 3) := by decide +kernel
theorem dX8_pays_30 : decode prog_10_method_57_code 30 = .ok (.ldc 72, 2) := by decide +kernel
theorem dX8_pays_32 : decode prog_10_method_57_code 32 = .ok (.ireturn, 1) := by decide +kernel
theorem dX8_pays_33 : decode prog_10_method_57_code 33 = .ok (.aload_n 0, 1) := by decide +kernel
theorem dX8_pays_34 : decode prog_10_method_57_code 34 = .ok (.invokevirtual 176, 3) := by decide +kernel
theorem dX8_pays_37 : decode prog_10_method_57_code 37 = .ok (.iconst 0, 1) := by decide +kernel
theorem dX8_pays_38 : decode prog_10_method_57_code 38 = .ok (.istore 4, 2) := by decide +kernel
theorem dX8_pays_40 : decode prog_10_method_57_code 40 = .ok (.iconst (-1), 1) := by decide +kernel
theorem dX8_pays_41 : decode prog_10_method_57_code 41 = .ok (.istore 5, 2) := by decide +kernel
theorem dX8_pays_43 : decode prog_10_method_57_code 43 = .ok (.iconst 1, 1) := by decide +kernel
theorem dX8_pays_44 : decode prog_10_method_57_code 44 = .ok (.istore 6, 2) := by decide +kernel
theorem dX8_pays_46 : decode prog_10_method_57_code 46 = .ok (.iload 6, 2) := by decide +kernel
theorem dX8_pays_48 : decode prog_10_method_57_code 48 = .ok (.bipush 9, 2) := by decide +kernel
theorem dX8_pays_50 : decode prog_10_method_57_code 50 = .ok (.if_icmp .gt 56, 3) := by decide +kernel
theorem dX8_pays_53 : decode prog_10_method_57_code 53 = .ok (.aload_n 0, 1) := by decide +kernel
theorem dX8_pays_54 : decode prog_10_method_57_code 54 = .ok (.getfield 7, 3) := by decide +kernel
theorem dX8_pays_57 : decode prog_10_method_57_code 57 = .ok (.bipush 12, 2) := by decide +kernel
theorem dX8_pays_59 : decode prog_10_method_57_code 59 = .ok (.iconst 3, 1) := by decide +kernel
theorem dX8_pays_60 : decode prog_10_method_57_code 60 = .ok (.iload_n 1, 1) := by decide +kernel
theorem dX8_pays_61 : decode prog_10_method_57_code 61 = .ok (.imul, 1) := by decide +kernel
theorem dX8_pays_62 : decode prog_10_method_57_code 62 = .ok (.iadd, 1) := by decide +kernel
theorem dX8_pays_63 : decode prog_10_method_57_code 63 = .ok (.iload 6, 2) := by decide +kernel
theorem dX8_pays_65 : decode prog_10_method_57_code 65 = .ok (.iastore, 1) := by decide +kernel
theorem dX8_pays_66 : decode prog_10_method_57_code 66 = .ok (.aload_n 0, 1) := by decide +kernel
theorem dX8_pays_67 : decode prog_10_method_57_code 67 = .ok (.iload_n 2, 1) := by decide +kernel
theorem dX8_pays_68 : decode prog_10_method_57_code 68 = .ok (.invokevirtual 179, 3) := by decide +kernel
theorem dX8_pays_71 : decode prog_10_method_57_code 71 = .ok (.istore 7, 2) := by decide +kernel
theorem dX8_pays_73 : decode prog_10_method_57_code 73 = .ok (.aload_n 0, 1) := by decide +kernel
theorem dX8_pays_74 : decode prog_10_method_57_code 74 = .ok (.iload_n 1, 1) := by decide +kernel
theorem dX8_pays_75 : decode prog_10_method_57_code 75 = .ok (.iconst 1, 1) := by decide +kernel
theorem dX8_pays_76 : decode prog_10_method_57_code 76 = .ok (.invokevirtual 74, 3) := by decide +kernel
theorem dX8_pays_79 : decode prog_10_method_57_code 79 = .ok (.istore 8, 2) := by decide +kernel
theorem dX8_pays_81 : decode prog_10_method_57_code 81 = .ok (.aload_n 0, 1) := by decide +kernel
theorem dX8_pays_82 : decode prog_10_method_57_code 82 = .ok (.invokevirtual 188, 3) := by decide +kernel
theorem dX8_pays_85 : decode prog_10_method_57_code 85 = .ok (.iload 8, 2) := by decide +kernel
theorem dX8_pays_87 : decode prog_10_method_57_code 87 = .ok (.iload 5, 2) := by decide +kernel
theorem dX8_pays_89 : decode prog_10_method_57_code 89 = .ok (.if_icmp .le 11, 3) := by decide +kernel
theorem dX8_pays_92 : decode prog_10_method_57_code 92 = .ok (.iload 6, 2) := by decide +kernel
theorem dX8_pays_94 : decode prog_10_method_57_code 94 = .ok (.istore 4, 2) := by decide +kernel
theorem dX8_pays_96 : decode prog_10_method_57_code 96 = .ok (.iload 8, 2) := by decide +kernel
theorem dX8_pays_98 : decode prog_10_method_57_code 98 = .ok (.istore 5, 2) := by decide +kernel
theorem dX8_pays_100 : decode prog_10_method_57_code 100 = .ok (.iinc 6 1, 3) := by decide +kernel
theorem dX8_pays_103 : decode prog_10_method_57_code 103 = .ok (.goto (-57), 3) := by decide +kernel
theorem dX8_pays_106 : decode prog_10_method_57_code 106 = .ok (.iload_n 3, 1) := by decide +kernel
theorem dX8_pays_107 : decode prog_10_method_57_code 107 = .ok (.ifCond .ne 8, 3) := by decide +kernel
theorem dX8_pays_110 : decode prog_10_method_57_code 110 = .ok (.iload 4, 2) := by decide +kernel
theorem dX8_pays_112 : decode prog_10_method_57_code 112 = .ok (.goto 5, 3) := by decide +kernel
theorem dX8_pays_115 : decode prog_10_method_57_code 115 = .ok (.iload 5, 2) := by decide +kernel
theorem dX8_pays_117 : decode prog_10_method_57_code 117 = .ok (.ireturn, 1) := by decide +kernel
theorem dX8_worst_0 : decode prog_10_method_58_code 0 = .ok (.iload_n 1, 1) := by decide +kernel
theorem dX8_worst_1 : decode prog_10_method_58_code 1 = .ok (.i2l, 1) := by decide +kernel
theorem dX8_worst_2 : decode prog_10_method_58_code 2 = .ok (.lconst 1, 1) := by decide +kernel
theorem dX8_worst_3 : decode prog_10_method_58_code 3 = .ok (.ldc2_w 193, 3) := by decide +kernel
theorem dX8_worst_6 : decode prog_10_method_58_code 6 = .ok (.invokestatic 65, 3) := by decide +kernel
theorem dX8_worst_9 : decode prog_10_method_58_code 9 = .ok (.ifCond .eq 13, 3) := by decide +kernel
theorem dX8_worst_12 : decode prog_10_method_58_code 12 = .ok (.iload_n 2, 1) := by decide +kernel
theorem dX8_worst_13 : decode prog_10_method_58_code 13 = .ok (.i2l, 1) := by decide +kernel
theorem dX8_worst_14 : decode prog_10_method_58_code 14 = .ok (.lconst 0, 1) := by decide +kernel
theorem dX8_worst_15 : decode prog_10_method_58_code 15 = .ok (.lconst 1, 1) := by decide +kernel
theorem dX8_worst_16 : decode prog_10_method_58_code 16 = .ok (.invokestatic 65, 3) := by decide +kernel
theorem dX8_worst_19 : decode prog_10_method_58_code 19 = .ok (.ifCond .ne 6, 3) := by decide +kernel
theorem dX8_worst_22 : decode prog_10_method_58_code 22 = .ok (.ldc 72, 2) := by decide +kernel
theorem dX8_worst_24 : decode prog_10_method_58_code 24 = .ok (.ireturn, 1) := by decide +kernel
theorem dX8_worst_25 : decode prog_10_method_58_code 25 = .ok (.aload_n 0, 1) := by decide +kernel
theorem dX8_worst_26 : decode prog_10_method_58_code 26 = .ok (.invokevirtual 176, 3) := by decide +kernel
theorem dX8_worst_29 : decode prog_10_method_58_code 29 = .ok (.iconst (-1), 1) := by decide +kernel
theorem dX8_worst_30 : decode prog_10_method_58_code 30 = .ok (.istore_n 3, 1) := by decide +kernel
theorem dX8_worst_31 : decode prog_10_method_58_code 31 = .ok (.iconst 0, 1) := by decide +kernel
theorem dX8_worst_32 : decode prog_10_method_58_code 32 = .ok (.istore 4, 2) := by decide +kernel
theorem dX8_worst_34 : decode prog_10_method_58_code 34 = .ok (.iconst 0, 1) := by decide +kernel
theorem dX8_worst_35 : decode prog_10_method_58_code 35 = .ok (.istore 5, 2) := by decide +kernel
theorem dX8_worst_37 : decode prog_10_method_58_code 37 = .ok (.iload 5, 2) := by decide +kernel
theorem dX8_worst_39 : decode prog_10_method_58_code 39 = .ok (.aload_n 0, 1) := by decide +kernel
theorem dX8_worst_40 : decode prog_10_method_58_code 40 = .ok (.getfield 7, 3) := by decide +kernel
theorem dX8_worst_43 : decode prog_10_method_58_code 43 = .ok (.iconst 2, 1) := by decide +kernel
theorem dX8_worst_44 : decode prog_10_method_58_code 44 = .ok (.iaload, 1) := by decide +kernel
theorem dX8_worst_45 : decode prog_10_method_58_code 45 = .ok (.if_icmp .ge 55, 3) := by decide +kernel
theorem dX8_worst_48 : decode prog_10_method_58_code 48 = .ok (.aload_n 0, 1) := by decide +kernel
theorem dX8_worst_49 : decode prog_10_method_58_code 49 = .ok (.getfield 7, 3) := by decide +kernel
theorem dX8_worst_52 : decode prog_10_method_58_code 52 = .ok (.bipush 72, 2) := by decide +kernel
theorem dX8_worst_54 : decode prog_10_method_58_code 54 = .ok (.iload 5, 2) := by decide +kernel
theorem dX8_worst_56 : decode prog_10_method_58_code 56 = .ok (.iadd, 1) := by decide +kernel
theorem dX8_worst_57 : decode prog_10_method_58_code 57 = .ok (.iconst 2, 1) := by decide +kernel
theorem dX8_worst_58 : decode prog_10_method_58_code 58 = .ok (.iastore, 1) := by decide +kernel
theorem dX8_worst_59 : decode prog_10_method_58_code 59 = .ok (.aload_n 0, 1) := by decide +kernel
theorem dX8_worst_60 : decode prog_10_method_58_code 60 = .ok (.iload_n 1, 1) := by decide +kernel
theorem dX8_worst_61 : decode prog_10_method_58_code 61 = .ok (.invokevirtual 179, 3) := by decide +kernel
theorem dX8_worst_64 : decode prog_10_method_58_code 64 = .ok (.istore 6, 2) := by decide +kernel
theorem dX8_worst_66 : decode prog_10_method_58_code 66 = .ok (.aload_n 0, 1) := by decide +kernel
theorem dX8_worst_67 : decode prog_10_method_58_code 67 = .ok (.invokevirtual 182, 3) := by decide +kernel
theorem dX8_worst_70 : decode prog_10_method_58_code 70 = .ok (.istore 7, 2) := by decide +kernel
theorem dX8_worst_72 : decode prog_10_method_58_code 72 = .ok (.aload_n 0, 1) := by decide +kernel
theorem dX8_worst_73 : decode prog_10_method_58_code 73 = .ok (.invokevirtual 188, 3) := by decide +kernel
theorem dX8_worst_76 : decode prog_10_method_58_code 76 = .ok (.iload_n 3, 1) := by decide +kernel
theorem dX8_worst_77 : decode prog_10_method_58_code 77 = .ok (.ifCond .lt 10, 3) := by decide +kernel
theorem dX8_worst_80 : decode prog_10_method_58_code 80 = .ok (.iload 7, 2) := by decide +kernel
theorem dX8_worst_82 : decode prog_10_method_58_code 82 = .ok (.iload 4, 2) := by decide +kernel
theorem dX8_worst_84 : decode prog_10_method_58_code 84 = .ok (.if_icmp .ge 10, 3) := by decide +kernel
theorem dX8_worst_87 : decode prog_10_method_58_code 87 = .ok (.iload 5, 2) := by decide +kernel
theorem dX8_worst_89 : decode prog_10_method_58_code 89 = .ok (.istore_n 3, 1) := by decide +kernel
theorem dX8_worst_90 : decode prog_10_method_58_code 90 = .ok (.iload 7, 2) := by decide +kernel
theorem dX8_worst_92 : decode prog_10_method_58_code 92 = .ok (.istore 4, 2) := by decide +kernel
theorem dX8_worst_94 : decode prog_10_method_58_code 94 = .ok (.iinc 5 1, 3) := by decide +kernel
theorem dX8_worst_97 : decode prog_10_method_58_code 97 = .ok (.goto (-60), 3) := by decide +kernel
theorem dX8_worst_100 : decode prog_10_method_58_code 100 = .ok (.iload_n 3, 1) := by decide +kernel
theorem dX8_worst_101 : decode prog_10_method_58_code 101 = .ok (.ifCond .ge 8, 3) := by decide +kernel
theorem dX8_worst_104 : decode prog_10_method_58_code 104 = .ok (.ldc 64, 2) := by decide +kernel
theorem dX8_worst_106 : decode prog_10_method_58_code 106 = .ok (.goto 13, 3) := by decide +kernel
theorem dX8_worst_109 : decode prog_10_method_58_code 109 = .ok (.iload_n 2, 1) := by decide +kernel
theorem dX8_worst_110 : decode prog_10_method_58_code 110 = .ok (.ifCond .ne 7, 3) := by decide +kernel
theorem dX8_worst_113 : decode prog_10_method_58_code 113 = .ok (.iload_n 3, 1) := by decide +kernel
theorem dX8_worst_114 : decode prog_10_method_58_code 114 = .ok (.goto 5, 3) := by decide +kernel
theorem dX8_worst_117 : decode prog_10_method_58_code 117 = .ok (.iload 4, 2) := by decide +kernel
theorem dX8_worst_119 : decode prog_10_method_58_code 119 = .ok (.ireturn, 1) := by decide +kernel
theorem dX8_fine_0 : decode prog_10_method_59_code 0 = .ok (.aload_n 0, 1) := by decide +kernel
theorem dX8_fine_1 : decode prog_10_method_59_code 1 = .ok (.iload_n 1, 1) := by decide +kernel
theorem dX8_fine_2 : decode prog_10_method_59_code 2 = .ok (.invokevirtual 95, 3) := by decide +kernel
theorem dX8_fine_5 : decode prog_10_method_59_code 5 = .ok (.ifCond .ne 6, 3) := by decide +kernel
theorem dX8_fine_8 : decode prog_10_method_59_code 8 = .ok (.ldc 72, 2) := by decide +kernel
theorem dX8_fine_10 : decode prog_10_method_59_code 10 = .ok (.ireturn, 1) := by decide +kernel
theorem dX8_fine_11 : decode prog_10_method_59_code 11 = .ok (.aload_n 0, 1) := by decide +kernel
theorem dX8_fine_12 : decode prog_10_method_59_code 12 = .ok (.iconst 2, 1) := by decide +kernel
theorem dX8_fine_13 : decode prog_10_method_59_code 13 = .ok (.invokevirtual 81, 3) := by decide +kernel
theorem dX8_fine_16 : decode prog_10_method_59_code 16 = .ok (.istore_n 2, 1) := by decide +kernel
theorem dX8_fine_17 : decode prog_10_method_59_code 17 = .ok (.iload_n 2, 1) := by decide +kernel
theorem dX8_fine_18 : decode prog_10_method_59_code 18 = .ok (.ifCond .ge 10, 3) := by decide +kernel
theorem dX8_fine_21 : decode prog_10_method_59_code 21 = .ok (.aload_n 0, 1) := by decide +kernel
theorem dX8_fine_22 : decode prog_10_method_59_code 22 = .ok (.iload_n 1, 1) := by decide +kernel
theorem dX8_fine_23 : decode prog_10_method_59_code 23 = .ok (.iconst 1, 1) := by decide +kernel
theorem dX8_fine_24 : decode prog_10_method_59_code 24 = .ok (.invokevirtual 74, 3) := by decide +kernel
theorem dX8_fine_27 : decode prog_10_method_59_code 27 = .ok (.ireturn, 1) := by decide +kernel
theorem dX8_fine_28 : decode prog_10_method_59_code 28 = .ok (.aload_n 0, 1) := by decide +kernel
theorem dX8_fine_29 : decode prog_10_method_59_code 29 = .ok (.getfield 49, 3) := by decide +kernel
theorem dX8_fine_32 : decode prog_10_method_59_code 32 = .ok (.bipush 97, 2) := by decide +kernel
theorem dX8_fine_34 : decode prog_10_method_59_code 34 = .ok (.aload_n 0, 1) := by decide +kernel
theorem dX8_fine_35 : decode prog_10_method_59_code 35 = .ok (.iload_n 1, 1) := by decide +kernel
theorem dX8_fine_36 : decode prog_10_method_59_code 36 = .ok (.iconst 1, 1) := by decide +kernel
theorem dX8_fine_37 : decode prog_10_method_59_code 37 = .ok (.invokevirtual 74, 3) := by decide +kernel
theorem dX8_fine_40 : decode prog_10_method_59_code 40 = .ok (.iastore, 1) := by decide +kernel
theorem dX8_fine_41 : decode prog_10_method_59_code 41 = .ok (.aload_n 0, 1) := by decide +kernel
theorem dX8_fine_42 : decode prog_10_method_59_code 42 = .ok (.getfield 49, 3) := by decide +kernel
theorem dX8_fine_45 : decode prog_10_method_59_code 45 = .ok (.bipush 112, 2) := by decide +kernel
theorem dX8_fine_47 : decode prog_10_method_59_code 47 = .ok (.aload_n 0, 1) := by decide +kernel
theorem dX8_fine_48 : decode prog_10_method_59_code 48 = .ok (.getfield 7, 3) := by decide +kernel
theorem dX8_fine_51 : decode prog_10_method_59_code 51 = .ok (.iconst 4, 1) := by decide +kernel
theorem dX8_fine_52 : decode prog_10_method_59_code 52 = .ok (.iaload, 1) := by decide +kernel
theorem dX8_fine_53 : decode prog_10_method_59_code 53 = .ok (.iastore, 1) := by decide +kernel
theorem dX8_fine_54 : decode prog_10_method_59_code 54 = .ok (.aload_n 0, 1) := by decide +kernel
theorem dX8_fine_55 : decode prog_10_method_59_code 55 = .ok (.iload_n 2, 1) := by decide +kernel
theorem dX8_fine_56 : decode prog_10_method_59_code 56 = .ok (.invokevirtual 89, 3) := by decide +kernel
theorem dX8_fine_59 : decode prog_10_method_59_code 59 = .ok (.ireturn, 1) := by decide +kernel
theorem dX8_feed_0 : decode prog_10_method_60_code 0 = .ok (.aload_n 0, 1) := by decide +kernel
theorem dX8_feed_1 : decode prog_10_method_60_code 1 = .ok (.getfield 195, 3) := by decide +kernel
theorem dX8_feed_4 : decode prog_10_method_60_code 4 = .ok (.bipush 12, 2) := by decide +kernel
theorem dX8_feed_6 : decode prog_10_method_60_code 6 = .ok (.iadd, 1) := by decide +kernel
theorem dX8_feed_7 : decode prog_10_method_60_code 7 = .ok (.bipush 96, 2) := by decide +kernel
theorem dX8_feed_9 : decode prog_10_method_60_code 9 = .ok (.if_icmp .le 6, 3) := by decide +kernel
theorem dX8_feed_12 : decode prog_10_method_60_code 12 = .ok (.ldc 73, 2) := by decide +kernel
theorem dX8_feed_14 : decode prog_10_method_60_code 14 = .ok (.ireturn, 1) := by decide +kernel
theorem dX8_feed_15 : decode prog_10_method_60_code 15 = .ok (.iconst 0, 1) := by decide +kernel
theorem dX8_feed_16 : decode prog_10_method_60_code 16 = .ok (.istore 4, 2) := by decide +kernel
theorem dX8_feed_18 : decode prog_10_method_60_code 18 = .ok (.iload 4, 2) := by decide +kernel
theorem dX8_feed_20 : decode prog_10_method_60_code 20 = .ok (.bipush 12, 2) := by decide +kernel
theorem dX8_feed_22 : decode prog_10_method_60_code 22 = .ok (.if_icmp .ge 69, 3) := by decide +kernel
theorem dX8_feed_25 : decode prog_10_method_60_code 25 = .ok (.iload 4, 2) := by decide +kernel
theorem dX8_feed_27 : decode prog_10_method_60_code 27 = .ok (.iconst 4, 1) := by decide +kernel
theorem dX8_feed_28 : decode prog_10_method_60_code 28 = .ok (.if_icmp .ge 7, 3) := by decide +kernel
theorem dX8_feed_31 : decode prog_10_method_60_code 31 = .ok (.iload_n 1, 1) := by decide +kernel
theorem dX8_feed_32 : decode prog_10_method_60_code 32 = .ok (.goto 15, 3) := by decide +kernel
theorem dX8_feed_35 : decode prog_10_method_60_code 35 = .ok (.iload 4, 2) := by decide +kernel
theorem dX8_feed_37 : decode prog_10_method_60_code 37 = .ok (.bipush 8, 2) := by decide +kernel
theorem dX8_feed_39 : decode prog_10_method_60_code 39 = .ok (.if_icmp .ge 7, 3) := by decide +kernel
theorem dX8_feed_42 : decode prog_10_method_60_code 42 = .ok (.iload_n 2, 1) := by decide +kernel
theorem dX8_feed_43 : decode prog_10_method_60_code 43 = .ok (.goto 4, 3) := by decide +kernel
theorem dX8_feed_46 : decode prog_10_method_60_code 46 = .ok (.iload_n 3, 1) := by decide +kernel
theorem dX8_feed_47 : decode prog_10_method_60_code 47 = .ok (.istore 5, 2) := by decide +kernel
theorem dX8_feed_49 : decode prog_10_method_60_code 49 = .ok (.aload_n 0, 1) := by decide +kernel
theorem dX8_feed_50 : decode prog_10_method_60_code 50 = .ok (.getfield 46, 3) := by decide +kernel
theorem dX8_feed_53 : decode prog_10_method_60_code 53 = .ok (.aload_n 0, 1) := by decide +kernel
theorem dX8_feed_54 : decode prog_10_method_60_code 54 = .ok (.getfield 195, 3) := by decide +kernel
theorem dX8_feed_57 : decode prog_10_method_60_code 57 = .ok (.iload 5, 2) := by decide +kernel
theorem dX8_feed_59 : decode prog_10_method_60_code 59 = .ok (.bipush 24, 2) := by decide +kernel
theorem dX8_feed_61 : decode prog_10_method_60_code 61 = .ok (.bipush 8, 2) := by decide +kernel
theorem dX8_feed_63 : decode prog_10_method_60_code 63 = .ok (.iload 4, 2) := by decide +kernel
theorem dX8_feed_65 : decode prog_10_method_60_code 65 = .ok (.iconst 4, 1) := by decide +kernel
theorem dX8_feed_66 : decode prog_10_method_60_code 66 = .ok (.irem, 1) := by decide +kernel
theorem dX8_feed_67 : decode prog_10_method_60_code 67 = .ok (.imul, 1) := by decide +kernel
theorem dX8_feed_68 : decode prog_10_method_60_code 68 = .ok (.isub, 1) := by decide +kernel
theorem dX8_feed_69 : decode prog_10_method_60_code 69 = .ok (.ishr, 1) := by decide +kernel
theorem dX8_feed_70 : decode prog_10_method_60_code 70 = .ok (.sipush 255, 3) := by decide +kernel
theorem dX8_feed_73 : decode prog_10_method_60_code 73 = .ok (.iand, 1) := by decide +kernel
theorem dX8_feed_74 : decode prog_10_method_60_code 74 = .ok (.iastore, 1) := by decide +kernel
theorem dX8_feed_75 : decode prog_10_method_60_code 75 = .ok (.aload_n 0, 1) := by decide +kernel
theorem dX8_feed_76 : decode prog_10_method_60_code 76 = .ok (.dup, 1) := by decide +kernel
theorem dX8_feed_77 : decode prog_10_method_60_code 77 = .ok (.getfield 195, 3) := by decide +kernel
theorem dX8_feed_80 : decode prog_10_method_60_code 80 = .ok (.iconst 1, 1) := by decide +kernel
theorem dX8_feed_81 : decode prog_10_method_60_code 81 = .ok (.iadd, 1) := by decide +kernel
theorem dX8_feed_82 : decode prog_10_method_60_code 82 = .ok (.putfield 195, 3) := by decide +kernel
theorem dX8_feed_85 : decode prog_10_method_60_code 85 = .ok (.iinc 4 1, 3) := by decide +kernel
theorem dX8_feed_88 : decode prog_10_method_60_code 88 = .ok (.goto (-70), 3) := by decide +kernel
theorem dX8_feed_91 : decode prog_10_method_60_code 91 = .ok (.aload_n 0, 1) := by decide +kernel
theorem dX8_feed_92 : decode prog_10_method_60_code 92 = .ok (.getfield 195, 3) := by decide +kernel
theorem dX8_feed_95 : decode prog_10_method_60_code 95 = .ok (.ireturn, 1) := by decide +kernel
theorem dX8_trim_0 : decode prog_10_method_61_code 0 = .ok (.iload_n 1, 1) := by decide +kernel
theorem dX8_trim_1 : decode prog_10_method_61_code 1 = .ok (.i2l, 1) := by decide +kernel
theorem dX8_trim_2 : decode prog_10_method_61_code 2 = .ok (.lconst 0, 1) := by decide +kernel
theorem dX8_trim_3 : decode prog_10_method_61_code 3 = .ok (.aload_n 0, 1) := by decide +kernel
theorem dX8_trim_4 : decode prog_10_method_61_code 4 = .ok (.getfield 195, 3) := by decide +kernel
theorem dX8_trim_7 : decode prog_10_method_61_code 7 = .ok (.i2l, 1) := by decide +kernel
theorem dX8_trim_8 : decode prog_10_method_61_code 8 = .ok (.invokestatic 65, 3) := by decide +kernel
theorem dX8_trim_11 : decode prog_10_method_61_code 11 = .ok (.ifCond .ne 6, 3) := by decide +kernel
theorem dX8_trim_14 : decode prog_10_method_61_code 14 = .ok (.ldc 72, 2) := by decide +kernel
theorem dX8_trim_16 : decode prog_10_method_61_code 16 = .ok (.ireturn, 1) := by decide +kernel
theorem dX8_trim_17 : decode prog_10_method_61_code 17 = .ok (.aload_n 0, 1) := by decide +kernel
theorem dX8_trim_18 : decode prog_10_method_61_code 18 = .ok (.iload_n 1, 1) := by decide +kernel
theorem dX8_trim_19 : decode prog_10_method_61_code 19 = .ok (.putfield 195, 3) := by decide +kernel
theorem dX8_trim_22 : decode prog_10_method_61_code 22 = .ok (.iload_n 1, 1) := by decide +kernel
theorem dX8_trim_23 : decode prog_10_method_61_code 23 = .ok (.ireturn, 1) := by decide +kernel
theorem dX8_isDigit_0 : decode prog_10_method_63_code 0 = .ok (.iload_n 1, 1) := by decide +kernel
theorem dX8_isDigit_1 : decode prog_10_method_63_code 1 = .ok (.aload_n 0, 1) := by decide +kernel
theorem dX8_isDigit_2 : decode prog_10_method_63_code 2 = .ok (.getfield 195, 3) := by decide +kernel
theorem dX8_isDigit_5 : decode prog_10_method_63_code 5 = .ok (.if_icmp .ge 26, 3) := by decide +kernel
theorem dX8_isDigit_8 : decode prog_10_method_63_code 8 = .ok (.aload_n 0, 1) := by decide +kernel
theorem dX8_isDigit_9 : decode prog_10_method_63_code 9 = .ok (.getfield 46, 3) := by decide +kernel
theorem dX8_isDigit_12 : decode prog_10_method_63_code 12 = .ok (.iload_n 1, 1) := by decide +kernel
theorem dX8_isDigit_13 : decode prog_10_method_63_code 13 = .ok (.iaload, 1) := by decide +kernel
theorem dX8_isDigit_14 : decode prog_10_method_63_code 14 = .ok (.i2l, 1) := by decide +kernel
theorem dX8_isDigit_15 : decode prog_10_method_63_code 15 = .ok (.ldc2_w 203, 3) := by decide +kernel
theorem dX8_isDigit_18 : decode prog_10_method_63_code 18 = .ok (.ldc2_w 205, 3) := by decide +kernel
theorem dX8_isDigit_21 : decode prog_10_method_63_code 21 = .ok (.invokestatic 65, 3) := by decide +kernel
theorem dX8_isDigit_24 : decode prog_10_method_63_code 24 = .ok (.ifCond .eq 7, 3) := by decide +kernel
theorem dX8_isDigit_27 : decode prog_10_method_63_code 27 = .ok (.iconst 1, 1) := by decide +kernel
theorem dX8_isDigit_28 : decode prog_10_method_63_code 28 = .ok (.goto 4, 3) := by decide +kernel
theorem dX8_isDigit_31 : decode prog_10_method_63_code 31 = .ok (.iconst 0, 1) := by decide +kernel
theorem dX8_isDigit_32 : decode prog_10_method_63_code 32 = .ok (.ireturn, 1) := by decide +kernel
theorem dX8_isLetter_0 : decode prog_10_method_62_code 0 = .ok (.iload_n 1, 1) := by decide +kernel
theorem dX8_isLetter_1 : decode prog_10_method_62_code 1 = .ok (.aload_n 0, 1) := by decide +kernel
theorem dX8_isLetter_2 : decode prog_10_method_62_code 2 = .ok (.getfield 195, 3) := by decide +kernel
theorem dX8_isLetter_5 : decode prog_10_method_62_code 5 = .ok (.if_icmp .ge 26, 3) := by decide +kernel
theorem dX8_isLetter_8 : decode prog_10_method_62_code 8 = .ok (.aload_n 0, 1) := by decide +kernel
theorem dX8_isLetter_9 : decode prog_10_method_62_code 9 = .ok (.getfield 46, 3) := by decide +kernel
theorem dX8_isLetter_12 : decode prog_10_method_62_code 12 = .ok (.iload_n 1, 1) := by decide +kernel
theorem dX8_isLetter_13 : decode prog_10_method_62_code 13 = .ok (.iaload, 1) := by decide +kernel
theorem dX8_isLetter_14 : decode prog_10_method_62_code 14 = .ok (.i2l, 1) := by decide +kernel
theorem dX8_isLetter_15 : decode prog_10_method_62_code 15 = .ok (.ldc2_w 199, 3) := by decide +kernel
theorem dX8_isLetter_18 : decode prog_10_method_62_code 18 = .ok (.ldc2_w 201, 3) := by decide +kernel
theorem dX8_isLetter_21 : decode prog_10_method_62_code 21 = .ok (.invokestatic 65, 3) := by decide +kernel
theorem dX8_isLetter_24 : decode prog_10_method_62_code 24 = .ok (.ifCond .eq 7, 3) := by decide +kernel
theorem dX8_isLetter_27 : decode prog_10_method_62_code 27 = .ok (.iconst 1, 1) := by decide +kernel
theorem dX8_isLetter_28 : decode prog_10_method_62_code 28 = .ok (.goto 4, 3) := by decide +kernel
theorem dX8_isLetter_31 : decode prog_10_method_62_code 31 = .ok (.iconst 0, 1) := by decide +kernel
theorem dX8_isLetter_32 : decode prog_10_method_62_code 32 = .ok (.ireturn, 1) := by decide +kernel
theorem dX8_nextToken_0 : decode prog_10_method_64_code 0 = .ok (.aload_n 0, 1) := by decide +kernel
theorem dX8_nextToken_1 : decode prog_10_method_64_code 1 = .ok (.getfield 207, 3) := by decide +kernel
theorem dX8_nextToken_4 : decode prog_10_method_64_code 4 = .ok (.ifCond .le 23, 3) := by decide +kernel
theorem dX8_nextToken_7 : decode prog_10_method_64_code 7 = .ok (.aload_n 0, 1) := by decide +kernel
theorem dX8_nextToken_8 : decode prog_10_method_64_code 8 = .ok (.getfield 210, 3) := by decide +kernel
theorem dX8_nextToken_11 : decode prog_10_method_64_code 11 = .ok (.iconst 1, 1) := by decide +kernel
theorem dX8_nextToken_12 : decode prog_10_method_64_code 12 = .ok (.if_icmp .eq 11, 3) := by decide +kernel
theorem dX8_nextToken_15 : decode prog_10_method_64_code 15 = .ok (.aload_n 0, 1) := by decide +kernel
theorem dX8_nextToken_16 : decode prog_10_method_64_code 16 = .ok (.getfield 210, 3) := by decide +kernel
theorem dX8_nextToken_19 : decode prog_10_method_64_code 19 = .ok (.iconst 2, 1) := by decide +kernel
theorem dX8_nextToken_20 : decode prog_10_method_64_code 20 = .ok (.if_icmp .ne 7, 3) := by decide +kernel
theorem dX8_nextToken_23 : decode prog_10_method_64_code 23 = .ok (.iconst 1, 1) := by decide +kernel
theorem dX8_nextToken_24 : decode prog_10_method_64_code 24 = .ok (.goto 4, 3) := by decide +kernel
theorem dX8_nextToken_27 : decode prog_10_method_64_code 27 = .ok (.iconst 0, 1) := by decide +kernel
theorem dX8_nextToken_28 : decode prog_10_method_64_code 28 = .ok (.istore_n 1, 1) := by decide +kernel
theorem dX8_nextToken_29 : decode prog_10_method_64_code 29 = .ok (.aload_n 0, 1) := by decide +kernel
theorem dX8_nextToken_30 : decode prog_10_method_64_code 30 = .ok (.getfield 207, 3) := by decide +kernel
theorem dX8_nextToken_33 : decode prog_10_method_64_code 33 = .ok (.istore_n 2, 1) := by decide +kernel
theorem dX8_nextToken_34 : decode prog_10_method_64_code 34 = .ok (.aload_n 0, 1) := by decide +kernel
theorem dX8_nextToken_35 : decode prog_10_method_64_code 35 = .ok (.getfield 207, 3) := by decide +kernel
theorem dX8_nextToken_38 : decode prog_10_method_64_code 38 = .ok (.aload_n 0, 1) := by decide +kernel
theorem dX8_nextToken_39 : decode prog_10_method_64_code 39 = .ok (.getfield 195, 3) := by decide +kernel
theorem dX8_nextToken_42 : decode prog_10_method_64_code 42 = .ok (.if_icmp .ge 30, 3) := by decide +kernel
theorem dX8_nextToken_45 : decode prog_10_method_64_code 45 = .ok (.aload_n 0, 1) := by decide +kernel
theorem dX8_nextToken_46 : decode prog_10_method_64_code 46 = .ok (.getfield 46, 3) := by decide +kernel
theorem dX8_nextToken_49 : decode prog_10_method_64_code 49 = .ok (.aload_n 0, 1) := by decide +kernel
theorem dX8_nextToken_50 : decode prog_10_method_64_code 50 = .ok (.getfield 207, 3) := by decide +kernel
theorem dX8_nextToken_53 : decode prog_10_method_64_code 53 = .ok (.iaload, 1) := by decide +kernel
theorem dX8_nextToken_54 : decode prog_10_method_64_code 54 = .ok (.bipush 32, 2) := by decide +kernel
theorem dX8_nextToken_56 : decode prog_10_method_64_code 56 = .ok (.if_icmp .ne 16, 3) := by decide +kernel
theorem dX8_nextToken_59 : decode prog_10_method_64_code 59 = .ok (.aload_n 0, 1) := by decide +kernel
theorem dX8_nextToken_60 : decode prog_10_method_64_code 60 = .ok (.dup, 1) := by decide +kernel
theorem dX8_nextToken_61 : decode prog_10_method_64_code 61 = .ok (.getfield 207, 3) := by decide +kernel
theorem dX8_nextToken_64 : decode prog_10_method_64_code 64 = .ok (.iconst 1, 1) := by decide +kernel
theorem dX8_nextToken_65 : decode prog_10_method_64_code 65 = .ok (.iadd, 1) := by decide +kernel
theorem dX8_nextToken_66 : decode prog_10_method_64_code 66 = .ok (.putfield 207, 3) := by decide +kernel
theorem dX8_nextToken_69 : decode prog_10_method_64_code 69 = .ok (.goto (-35), 3) := by decide +kernel
theorem dX8_nextToken_72 : decode prog_10_method_64_code 72 = .ok (.iload_n 1, 1) := by decide +kernel
theorem dX8_nextToken_73 : decode prog_10_method_64_code 73 = .ok (.ifCond .eq 15, 3) := by decide +kernel
theorem dX8_nextToken_76 : decode prog_10_method_64_code 76 = .ok (.iload_n 2, 1) := by decide +kernel
theorem dX8_nextToken_77 : decode prog_10_method_64_code 77 = .ok (.aload_n 0, 1) := by decide +kernel
theorem dX8_nextToken_78 : decode prog_10_method_64_code 78 = .ok (.getfield 207, 3) := by decide +kernel
theorem dX8_nextToken_81 : decode prog_10_method_64_code 81 = .ok (.if_icmp .ne 7, 3) := by decide +kernel
theorem dX8_nextToken_84 : decode prog_10_method_64_code 84 = .ok (.iconst 1, 1) := by decide +kernel
theorem dX8_nextToken_85 : decode prog_10_method_64_code 85 = .ok (.goto 4, 3) := by decide +kernel
theorem dX8_nextToken_88 : decode prog_10_method_64_code 88 = .ok (.iconst 0, 1) := by decide +kernel
theorem dX8_nextToken_89 : decode prog_10_method_64_code 89 = .ok (.istore_n 1, 1) := by decide +kernel
theorem dX8_nextToken_90 : decode prog_10_method_64_code 90 = .ok (.aload_n 0, 1) := by decide +kernel
theorem dX8_nextToken_91 : decode prog_10_method_64_code 91 = .ok (.aload_n 0, 1) := by decide +kernel
theorem dX8_nextToken_92 : decode prog_10_method_64_code 92 = .ok (.getfield 207, 3) := by decide +kernel
theorem dX8_nextToken_95 : decode prog_10_method_64_code 95 = .ok (.putfield 213, 3) := by decide +kernel
theorem dX8_nextToken_98 : decode prog_10_method_64_code 98 = .ok (.aload_n 0, 1) := by decide +kernel
theorem dX8_nextToken_99 : decode prog_10_method_64_code 99 = .ok (.getfield 213, 3) := by decide +kernel
theorem dX8_nextToken_102 : decode prog_10_method_64_code 102 = .ok (.aload_n 0, 1) := by decide +kernel
theorem dX8_nextToken_103 : decode prog_10_method_64_code 103 = .ok (.getfield 195, 3) := by decide +kernel
theorem dX8_nextToken_106 : decode prog_10_method_64_code 106 = .ok (.if_icmp .ne 11, 3) := by decide +kernel
theorem dX8_nextToken_109 : decode prog_10_method_64_code 109 = .ok (.aload_n 0, 1) := by decide +kernel
theorem dX8_nextToken_110 : decode prog_10_method_64_code 110 = .ok (.iconst 0, 1) := by decide +kernel
theorem dX8_nextToken_111 : decode prog_10_method_64_code 111 = .ok (.putfield 210, 3) := by decide +kernel
theorem dX8_nextToken_114 : decode prog_10_method_64_code 114 = .ok (.goto 225, 3) := by decide +kernel
theorem dX8_nextToken_117 : decode prog_10_method_64_code 117 = .ok (.aload_n 0, 1) := by decide +kernel
theorem dX8_nextToken_118 : decode prog_10_method_64_code 118 = .ok (.aload_n 0, 1) := by decide +kernel
theorem dX8_nextToken_119 : decode prog_10_method_64_code 119 = .ok (.getfield 213, 3) := by decide +kernel
theorem dX8_nextToken_122 : decode prog_10_method_64_code 122 = .ok (.invokevirtual 216, 3) := by decide +kernel
theorem dX8_nextToken_125 : decode prog_10_method_64_code 125 = .ok (.ifCond .eq 73, 3) := by decide +kernel
theorem dX8_nextToken_128 : decode prog_10_method_64_code 128 = .ok (.aload_n 0, 1) := by decide +kernel
theorem dX8_nextToken_129 : decode prog_10_method_64_code 129 = .ok (.aload_n 0, 1) := by decide +kernel
theorem dX8_nextToken_130 : decode prog_10_method_64_code 130 = .ok (.getfield 207, 3) := by decide +kernel
theorem dX8_nextToken_133 : decode prog_10_method_64_code 133 = .ok (.invokevirtual 216, 3) := by decide +kernel
theorem dX8_nextToken_136 : decode prog_10_method_64_code 136 = .ok (.ifCond .eq 16, 3) := by decide +kernel
theorem dX8_nextToken_139 : decode prog_10_method_64_code 139 = .ok (.aload_n 0, 1) := by decide +kernel
theorem dX8_nextToken_140 : decode prog_10_method_64_code 140 = .ok (.dup, 1) := by decide +kernel
theorem dX8_nextToken_141 : decode prog_10_method_64_code 141 = .ok (.getfield 207, 3) := by decide +kernel
theorem dX8_nextToken_144 : decode prog_10_method_64_code 144 = .ok (.iconst 1, 1) := by decide +kernel
theorem dX8_nextToken_145 : decode prog_10_method_64_code 145 = .ok (.iadd, 1) := by decide +kernel
theorem dX8_nextToken_146 : decode prog_10_method_64_code 146 = .ok (.putfield 207, 3) := by decide +kernel
theorem dX8_nextToken_149 : decode prog_10_method_64_code 149 = .ok (.goto (-21), 3) := by decide +kernel
theorem dX8_nextToken_152 : decode prog_10_method_64_code 152 = .ok (.aload_n 0, 1) := by decide +kernel
theorem dX8_nextToken_153 : decode prog_10_method_64_code 153 = .ok (.iload_n 1, 1) := by decide +kernel
theorem dX8_nextToken_154 : decode prog_10_method_64_code 154 = .ok (.ifCond .eq 7, 3) := by decide +kernel
theorem dX8_nextToken_157 : decode prog_10_method_64_code 157 = .ok (.iconst 4, 1) := by decide +kernel
theorem dX8_nextToken_158 : decode prog_10_method_64_code 158 = .ok (.goto 4, 3) := by decide +kernel
theorem dX8_nextToken_161 : decode prog_10_method_64_code 161 = .ok (.iconst 1, 1) := by decide +kernel
theorem dX8_nextToken_162 : decode prog_10_method_64_code 162 = .ok (.putfield 210, 3) := by decide +kernel
theorem dX8_nextToken_165 : decode prog_10_method_64_code 165 = .ok (.aload_n 0, 1) := by decide +kernel
theorem dX8_nextToken_166 : decode prog_10_method_64_code 166 = .ok (.aload_n 0, 1) := by decide +kernel
theorem dX8_nextToken_167 : decode prog_10_method_64_code 167 = .ok (.getfield 207, 3) := by decide +kernel
theorem dX8_nextToken_170 : decode prog_10_method_64_code 170 = .ok (.aload_n 0, 1) := by decide +kernel
theorem dX8_nextToken_171 : decode prog_10_method_64_code 171 = .ok (.getfield 213, 3) := by decide +kernel
theorem dX8_nextToken_174 : decode prog_10_method_64_code 174 = .ok (.isub, 1) := by decide +kernel
theorem dX8_nextToken_175 : decode prog_10_method_64_code 175 = .ok (.iconst 1, 1) := by decide +kernel
theorem dX8_nextToken_176 : decode prog_10_method_64_code 176 = .ok (.if_icmp .ne 15, 3) := by decide +kernel
theorem dX8_nextToken_179 : decode prog_10_method_64_code 179 = .ok (.aload_n 0, 1) := by decide +kernel
theorem dX8_nextToken_180 : decode prog_10_method_64_code 180 = .ok (.getfield 46, 3) := by decide +kernel
theorem dX8_nextToken_183 : decode prog_10_method_64_code 183 = .ok (.aload_n 0, 1) := by decide +kernel
theorem dX8_nextToken_184 : decode prog_10_method_64_code 184 = .ok (.getfield 213, 3) := by decide +kernel
theorem dX8_nextToken_187 : decode prog_10_method_64_code 187 = .ok (.iaload, 1) := by decide +kernel
theorem dX8_nextToken_188 : decode prog_10_method_64_code 188 = .ok (.goto 4, 3) := by decide +kernel
theorem dX8_nextToken_191 : decode prog_10_method_64_code 191 = .ok (.iconst 0, 1) := by decide +kernel
theorem dX8_nextToken_192 : decode prog_10_method_64_code 192 = .ok (.putfield 219, 3) := by decide +kernel
theorem dX8_nextToken_195 : decode prog_10_method_64_code 195 = .ok (.goto 144, 3) := by decide +kernel
theorem dX8_nextToken_198 : decode prog_10_method_64_code 198 = .ok (.aload_n 0, 1) := by decide +kernel
theorem dX8_nextToken_199 : decode prog_10_method_64_code 199 = .ok (.aload_n 0, 1) := by decide +kernel
theorem dX8_nextToken_200 : decode prog_10_method_64_code 200 = .ok (.getfield 213, 3) := by decide +kernel
theorem dX8_nextToken_203 : decode prog_10_method_64_code 203 = .ok (.invokevirtual 222, 3) := by decide +kernel
theorem dX8_nextToken_206 : decode prog_10_method_64_code 206 = .ok (.ifCond .eq 105, 3) := by decide +kernel
theorem dX8_nextToken_209 : decode prog_10_method_64_code 209 = .ok (.aload_n 0, 1) := by decide +kernel
theorem dX8_nextToken_210 : decode prog_10_method_64_code 210 = .ok (.iconst 0, 1) := by decide +kernel
theorem dX8_nextToken_211 : decode prog_10_method_64_code 211 = .ok (.putfield 225, 3) := by decide +kernel
theorem dX8_nextToken_214 : decode prog_10_method_64_code 214 = .ok (.aload_n 0, 1) := by decide +kernel
theorem dX8_nextToken_215 : decode prog_10_method_64_code 215 = .ok (.aload_n 0, 1) := by decide +kernel
theorem dX8_nextToken_216 : decode prog_10_method_64_code 216 = .ok (.getfield 207, 3) := by decide +kernel
theorem dX8_nextToken_219 : decode prog_10_method_64_code 219 = .ok (.invokevirtual 222, 3) := by decide +kernel
theorem dX8_nextToken_222 : decode prog_10_method_64_code 222 = .ok (.ifCond .eq 60, 3) := by decide +kernel
theorem dX8_nextToken_225 : decode prog_10_method_64_code 225 = .ok (.aload_n 0, 1) := by decide +kernel
theorem dX8_nextToken_226 : decode prog_10_method_64_code 226 = .ok (.aload_n 0, 1) := by decide +kernel
theorem dX8_nextToken_227 : decode prog_10_method_64_code 227 = .ok (.getfield 207, 3) := by decide +kernel
theorem dX8_nextToken_230 : decode prog_10_method_64_code 230 = .ok (.aload_n 0, 1) := by decide +kernel
theorem dX8_nextToken_231 : decode prog_10_method_64_code 231 = .ok (.getfield 213, 3) := by decide +kernel
theorem dX8_nextToken_234 : decode prog_10_method_64_code 234 = .ok (.isub, 1) := by decide +kernel
theorem dX8_nextToken_235 : decode prog_10_method_64_code 235 = .ok (.iconst 4, 1) := by decide +kernel
theorem dX8_nextToken_236 : decode prog_10_method_64_code 236 = .ok (.if_icmp .ge 26, 3) := by decide +kernel
theorem dX8_nextToken_239 : decode prog_10_method_64_code 239 = .ok (.bipush 10, 2) := by decide +kernel
theorem dX8_nextToken_241 : decode prog_10_method_64_code 241 = .ok (.aload_n 0, 1) := by decide +kernel
theorem dX8_nextToken_242 : decode prog_10_method_64_code 242 = .ok (.getfield 225, 3) := by decide +kernel
theorem dX8_nextToken_245 : decode prog_10_method_64_code 245 = .ok (.imul, 1) := by decide +kernel
theorem dX8_nextToken_246 : decode prog_10_method_64_code 246 = .ok (.aload_n 0, 1) := by decide +kernel
theorem dX8_nextToken_247 : decode prog_10_method_64_code 247 = .ok (.getfield 46, 3) := by decide +kernel
theorem dX8_nextToken_250 : decode prog_10_method_64_code 250 = .ok (.aload_n 0, 1) := by decide +kernel
theorem dX8_nextToken_251 : decode prog_10_method_64_code 251 = .ok (.getfield 207, 3) := by decide +kernel
theorem dX8_nextToken_254 : decode prog_10_method_64_code 254 = .ok (.iaload, 1) := by decide +kernel
theorem dX8_nextToken_255 : decode prog_10_method_64_code 255 = .ok (.iadd, 1) := by decide +kernel
theorem dX8_nextToken_256 : decode prog_10_method_64_code 256 = .ok (.bipush 48, 2) := by decide +kernel
theorem dX8_nextToken_258 : decode prog_10_method_64_code 258 = .ok (.isub, 1) := by decide +kernel
theorem dX8_nextToken_259 : decode prog_10_method_64_code 259 = .ok (.goto 7, 3) := by decide +kernel
theorem dX8_nextToken_262 : decode prog_10_method_64_code 262 = .ok (.aload_n 0, 1) := by decide +kernel
theorem dX8_nextToken_263 : decode prog_10_method_64_code 263 = .ok (.getfield 225, 3) := by decide +kernel
theorem dX8_nextToken_266 : decode prog_10_method_64_code 266 = .ok (.putfield 225, 3) := by decide +kernel
theorem dX8_nextToken_269 : decode prog_10_method_64_code 269 = .ok (.aload_n 0, 1) := by decide +kernel
theorem dX8_nextToken_270 : decode prog_10_method_64_code 270 = .ok (.dup, 1) := by decide +kernel
theorem dX8_nextToken_271 : decode prog_10_method_64_code 271 = .ok (.getfield 207, 3) := by decide +kernel
theorem dX8_nextToken_274 : decode prog_10_method_64_code 274 = .ok (.iconst 1, 1) := by decide +kernel
theorem dX8_nextToken_275 : decode prog_10_method_64_code 275 = .ok (.iadd, 1) := by decide +kernel
theorem dX8_nextToken_276 : decode prog_10_method_64_code 276 = .ok (.putfield 207, 3) := by decide +kernel
theorem dX8_nextToken_279 : decode prog_10_method_64_code 279 = .ok (.goto (-65), 3) := by decide +kernel
theorem dX8_nextToken_282 : decode prog_10_method_64_code 282 = .ok (.aload_n 0, 1) := by decide +kernel
theorem dX8_nextToken_283 : decode prog_10_method_64_code 283 = .ok (.iload_n 1, 1) := by decide +kernel
theorem dX8_nextToken_284 : decode prog_10_method_64_code 284 = .ok (.ifCond .ne 16, 3) := by decide +kernel
theorem dX8_nextToken_287 : decode prog_10_method_64_code 287 = .ok (.aload_n 0, 1) := by decide +kernel
theorem dX8_nextToken_288 : decode prog_10_method_64_code 288 = .ok (.getfield 207, 3) := by decide +kernel
theorem dX8_nextToken_291 : decode prog_10_method_64_code 291 = .ok (.aload_n 0, 1) := by decide +kernel
theorem dX8_nextToken_292 : decode prog_10_method_64_code 292 = .ok (.getfield 213, 3) := by decide +kernel
theorem dX8_nextToken_295 : decode prog_10_method_64_code 295 = .ok (.isub, 1) := by decide +kernel
theorem dX8_nextToken_296 : decode prog_10_method_64_code 296 = .ok (.iconst 4, 1) := by decide +kernel
theorem dX8_nextToken_297 : decode prog_10_method_64_code 297 = .ok (.if_icmp .le 7, 3) := by decide +kernel
theorem dX8_nextToken_300 : decode prog_10_method_64_code 300 = .ok (.iconst 4, 1) := by decide +kernel
theorem dX8_nextToken_301 : decode prog_10_method_64_code 301 = .ok (.goto 4, 3) := by decide +kernel
theorem dX8_nextToken_304 : decode prog_10_method_64_code 304 = .ok (.iconst 2, 1) := by decide +kernel
theorem dX8_nextToken_305 : decode prog_10_method_64_code 305 = .ok (.putfield 210, 3) := by decide +kernel
theorem dX8_nextToken_308 : decode prog_10_method_64_code 308 = .ok (.goto 31, 3) := by decide +kernel
theorem dX8_nextToken_311 : decode prog_10_method_64_code 311 = .ok (.aload_n 0, 1) := by decide +kernel
theorem dX8_nextToken_312 : decode prog_10_method_64_code 312 = .ok (.iconst 3, 1) := by decide +kernel
theorem dX8_nextToken_313 : decode prog_10_method_64_code 313 = .ok (.putfield 210, 3) := by decide +kernel
theorem dX8_nextToken_316 : decode prog_10_method_64_code 316 = .ok (.aload_n 0, 1) := by decide +kernel
theorem dX8_nextToken_317 : decode prog_10_method_64_code 317 = .ok (.aload_n 0, 1) := by decide +kernel
theorem dX8_nextToken_318 : decode prog_10_method_64_code 318 = .ok (.getfield 46, 3) := by decide +kernel
theorem dX8_nextToken_321 : decode prog_10_method_64_code 321 = .ok (.aload_n 0, 1) := by decide +kernel
theorem dX8_nextToken_322 : decode prog_10_method_64_code 322 = .ok (.getfield 213, 3) := by decide +kernel
theorem dX8_nextToken_325 : decode prog_10_method_64_code 325 = .ok (.iaload, 1) := by decide +kernel
theorem dX8_nextToken_326 : decode prog_10_method_64_code 326 = .ok (.putfield 219, 3) := by decide +kernel
theorem dX8_nextToken_329 : decode prog_10_method_64_code 329 = .ok (.aload_n 0, 1) := by decide +kernel
theorem dX8_nextToken_330 : decode prog_10_method_64_code 330 = .ok (.dup, 1) := by decide +kernel
theorem dX8_nextToken_331 : decode prog_10_method_64_code 331 = .ok (.getfield 207, 3) := by decide +kernel
theorem dX8_nextToken_334 : decode prog_10_method_64_code 334 = .ok (.iconst 1, 1) := by decide +kernel
theorem dX8_nextToken_335 : decode prog_10_method_64_code 335 = .ok (.iadd, 1) := by decide +kernel
theorem dX8_nextToken_336 : decode prog_10_method_64_code 336 = .ok (.putfield 207, 3) := by decide +kernel
theorem dX8_nextToken_339 : decode prog_10_method_64_code 339 = .ok (.return_, 1) := by decide +kernel
theorem dX8_isWordAt_0 : decode prog_10_method_66_code 0 = .ok (.iload 4, 2) := by decide +kernel
theorem dX8_isWordAt_2 : decode prog_10_method_66_code 2 = .ok (.ifCond .ne 7, 3) := by decide +kernel
theorem dX8_isWordAt_5 : decode prog_10_method_66_code 5 = .ok (.iconst 3, 1) := by decide +kernel
theorem dX8_isWordAt_6 : decode prog_10_method_66_code 6 = .ok (.goto 4, 3) := by decide +kernel
theorem dX8_isWordAt_9 : decode prog_10_method_66_code 9 = .ok (.iconst 4, 1) := by decide +kernel
theorem dX8_isWordAt_10 : decode prog_10_method_66_code 10 = .ok (.istore 5, 2) := by decide +kernel
theorem dX8_isWordAt_12 : decode prog_10_method_66_code 12 = .ok (.aload_n 0, 1) := by decide +kernel
theorem dX8_isWordAt_13 : decode prog_10_method_66_code 13 = .ok (.getfield 210, 3) := by decide +kernel
theorem dX8_isWordAt_16 : decode prog_10_method_66_code 16 = .ok (.iconst 1, 1) := by decide +kernel
theorem dX8_isWordAt_17 : decode prog_10_method_66_code 17 = .ok (.if_icmp .ne 85, 3) := by decide +kernel
theorem dX8_isWordAt_20 : decode prog_10_method_66_code 20 = .ok (.aload_n 0, 1) := by decide +kernel
theorem dX8_isWordAt_21 : decode prog_10_method_66_code 21 = .ok (.getfield 207, 3) := by decide +kernel
theorem dX8_isWordAt_24 : decode prog_10_method_66_code 24 = .ok (.aload_n 0, 1) := by decide +kernel
theorem dX8_isWordAt_25 : decode prog_10_method_66_code 25 = .ok (.getfield 213, 3) := by decide +kernel
theorem dX8_isWordAt_28 : decode prog_10_method_66_code 28 = .ok (.isub, 1) := by decide +kernel
theorem dX8_isWordAt_29 : decode prog_10_method_66_code 29 = .ok (.iload 5, 2) := by decide +kernel
theorem dX8_isWordAt_31 : decode prog_10_method_66_code 31 = .ok (.if_icmp .ne 71, 3) := by decide +kernel
theorem dX8_isWordAt_34 : decode prog_10_method_66_code 34 = .ok (.aload_n 0, 1) := by decide +kernel
theorem dX8_isWordAt_35 : decode prog_10_method_66_code 35 = .ok (.getfield 46, 3) := by decide +kernel
theorem dX8_isWordAt_38 : decode prog_10_method_66_code 38 = .ok (.aload_n 0, 1) := by decide +kernel
theorem dX8_isWordAt_39 : decode prog_10_method_66_code 39 = .ok (.getfield 213, 3) := by decide +kernel
theorem dX8_isWordAt_42 : decode prog_10_method_66_code 42 = .ok (.iaload, 1) := by decide +kernel
theorem dX8_isWordAt_43 : decode prog_10_method_66_code 43 = .ok (.iload_n 1, 1) := by decide +kernel
theorem dX8_isWordAt_44 : decode prog_10_method_66_code 44 = .ok (.if_icmp .ne 58, 3) := by decide +kernel
theorem dX8_isWordAt_47 : decode prog_10_method_66_code 47 = .ok (.aload_n 0, 1) := by decide +kernel
theorem dX8_isWordAt_48 : decode prog_10_method_66_code 48 = .ok (.getfield 46, 3) := by decide +kernel
theorem dX8_isWordAt_51 : decode prog_10_method_66_code 51 = .ok (.aload_n 0, 1) := by decide +kernel
theorem dX8_isWordAt_52 : decode prog_10_method_66_code 52 = .ok (.getfield 213, 3) := by decide +kernel
theorem dX8_isWordAt_55 : decode prog_10_method_66_code 55 = .ok (.iconst 1, 1) := by decide +kernel
theorem dX8_isWordAt_56 : decode prog_10_method_66_code 56 = .ok (.iadd, 1) := by decide +kernel
theorem dX8_isWordAt_57 : decode prog_10_method_66_code 57 = .ok (.iaload, 1) := by decide +kernel
theorem dX8_isWordAt_58 : decode prog_10_method_66_code 58 = .ok (.iload_n 2, 1) := by decide +kernel
theorem dX8_isWordAt_59 : decode prog_10_method_66_code 59 = .ok (.if_icmp .ne 43, 3) := by decide +kernel
theorem dX8_isWordAt_62 : decode prog_10_method_66_code 62 = .ok (.aload_n 0, 1) := by decide +kernel
theorem dX8_isWordAt_63 : decode prog_10_method_66_code 63 = .ok (.getfield 46, 3) := by decide +kernel
theorem dX8_isWordAt_66 : decode prog_10_method_66_code 66 = .ok (.aload_n 0, 1) := by decide +kernel
theorem dX8_isWordAt_67 : decode prog_10_method_66_code 67 = .ok (.getfield 213, 3) := by decide +kernel
theorem dX8_isWordAt_70 : decode prog_10_method_66_code 70 = .ok (.iconst 2, 1) := by decide +kernel
theorem dX8_isWordAt_71 : decode prog_10_method_66_code 71 = .ok (.iadd, 1) := by decide +kernel
theorem dX8_isWordAt_72 : decode prog_10_method_66_code 72 = .ok (.iaload, 1) := by decide +kernel
theorem dX8_isWordAt_73 : decode prog_10_method_66_code 73 = .ok (.iload_n 3, 1) := by decide +kernel
theorem dX8_isWordAt_74 : decode prog_10_method_66_code 74 = .ok (.if_icmp .ne 28, 3) := by decide +kernel
theorem dX8_isWordAt_77 : decode prog_10_method_66_code 77 = .ok (.iload 4, 2) := by decide +kernel
theorem dX8_isWordAt_79 : decode prog_10_method_66_code 79 = .ok (.ifCond .eq 19, 3) := by decide +kernel
theorem dX8_isWordAt_82 : decode prog_10_method_66_code 82 = .ok (.aload_n 0, 1) := by decide +kernel
theorem dX8_isWordAt_83 : decode prog_10_method_66_code 83 = .ok (.getfield 46, 3) := by decide +kernel
theorem dX8_isWordAt_86 : decode prog_10_method_66_code 86 = .ok (.aload_n 0, 1) := by decide +kernel
theorem dX8_isWordAt_87 : decode prog_10_method_66_code 87 = .ok (.getfield 213, 3) := by decide +kernel
theorem dX8_isWordAt_90 : decode prog_10_method_66_code 90 = .ok (.iconst 3, 1) := by decide +kernel
theorem dX8_isWordAt_91 : decode prog_10_method_66_code 91 = .ok (.iadd, 1) := by decide +kernel
theorem dX8_isWordAt_92 : decode prog_10_method_66_code 92 = .ok (.iaload, 1) := by decide +kernel
theorem dX8_isWordAt_93 : decode prog_10_method_66_code 93 = .ok (.iload 4, 2) := by decide +kernel
theorem dX8_isWordAt_95 : decode prog_10_method_66_code 95 = .ok (.if_icmp .ne 7, 3) := by decide +kernel
theorem dX8_isWordAt_98 : decode prog_10_method_66_code 98 = .ok (.iconst 1, 1) := by decide +kernel
theorem dX8_isWordAt_99 : decode prog_10_method_66_code 99 = .ok (.goto 4, 3) := by decide +kernel
theorem dX8_isWordAt_102 : decode prog_10_method_66_code 102 = .ok (.iconst 0, 1) := by decide +kernel
theorem dX8_isWordAt_103 : decode prog_10_method_66_code 103 = .ok (.ireturn, 1) := by decide +kernel
theorem dX8_key_0 : decode prog_10_method_67_code 0 = .ok (.aload_n 0, 1) := by decide +kernel
theorem dX8_key_1 : decode prog_10_method_67_code 1 = .ok (.bipush 104, 2) := by decide +kernel
theorem dX8_key_3 : decode prog_10_method_67_code 3 = .ok (.bipush 111, 2) := by decide +kernel
theorem dX8_key_5 : decode prog_10_method_67_code 5 = .ok (.bipush 108, 2) := by decide +kernel
theorem dX8_key_7 : decode prog_10_method_67_code 7 = .ok (.bipush 100, 2) := by decide +kernel
theorem dX8_key_9 : decode prog_10_method_67_code 9 = .ok (.invokevirtual 228, 3) := by decide +kernel
theorem dX8_key_12 : decode prog_10_method_67_code 12 = .ok (.ifCond .eq 5, 3) := by decide +kernel
theorem dX8_key_15 : decode prog_10_method_67_code 15 = .ok (.iconst 0, 1) := by decide +kernel
theorem dX8_key_16 : decode prog_10_method_67_code 16 = .ok (.ireturn, 1) := by decide +kernel
theorem dX8_key_17 : decode prog_10_method_67_code 17 = .ok (.aload_n 0, 1) := by decide +kernel
theorem dX8_key_18 : decode prog_10_method_67_code 18 = .ok (.bipush 115, 2) := by decide +kernel
theorem dX8_key_20 : decode prog_10_method_67_code 20 = .ok (.bipush 116, 2) := by decide +kernel
theorem dX8_key_22 : decode prog_10_method_67_code 22 = .ok (.bipush 111, 2) := by decide +kernel
theorem dX8_key_24 : decode prog_10_method_67_code 24 = .ok (.bipush 112, 2) := by decide +kernel
theorem dX8_key_26 : decode prog_10_method_67_code 26 = .ok (.invokevirtual 228, 3) := by decide +kernel
theorem dX8_key_29 : decode prog_10_method_67_code 29 = .ok (.ifCond .eq 5, 3) := by decide +kernel
theorem dX8_key_32 : decode prog_10_method_67_code 32 = .ok (.iconst 1, 1) := by decide +kernel
theorem dX8_key_33 : decode prog_10_method_67_code 33 = .ok (.ireturn, 1) := by decide +kernel
theorem dX8_key_34 : decode prog_10_method_67_code 34 = .ok (.aload_n 0, 1) := by decide +kernel
theorem dX8_key_35 : decode prog_10_method_67_code 35 = .ok (.bipush 102, 2) := by decide +kernel
theorem dX8_key_37 : decode prog_10_method_67_code 37 = .ok (.bipush 105, 2) := by decide +kernel
theorem dX8_key_39 : decode prog_10_method_67_code 39 = .ok (.bipush 110, 2) := by decide +kernel
theorem dX8_key_41 : decode prog_10_method_67_code 41 = .ok (.bipush 101, 2) := by decide +kernel
theorem dX8_key_43 : decode prog_10_method_67_code 43 = .ok (.invokevirtual 228, 3) := by decide +kernel
theorem dX8_key_46 : decode prog_10_method_67_code 46 = .ok (.ifCond .eq 7, 3) := by decide +kernel
theorem dX8_key_49 : decode prog_10_method_67_code 49 = .ok (.iconst 2, 1) := by decide +kernel
theorem dX8_key_50 : decode prog_10_method_67_code 50 = .ok (.goto 4, 3) := by decide +kernel
theorem dX8_key_53 : decode prog_10_method_67_code 53 = .ok (.iconst (-1), 1) := by decide +kernel
theorem dX8_key_54 : decode prog_10_method_67_code 54 = .ok (.ireturn, 1) := by decide +kernel
theorem dX8_step_0 : decode prog_10_method_69_code 0 = .ok (.aload_n 0, 1) := by decide +kernel
theorem dX8_step_1 : decode prog_10_method_69_code 1 = .ok (.getfield 7, 3) := by decide +kernel
theorem dX8_step_4 : decode prog_10_method_69_code 4 = .ok (.aload_n 0, 1) := by decide +kernel
theorem dX8_step_5 : decode prog_10_method_69_code 5 = .ok (.getfield 232, 3) := by decide +kernel
theorem dX8_step_8 : decode prog_10_method_69_code 8 = .ok (.iconst 2, 1) := by decide +kernel
theorem dX8_step_9 : decode prog_10_method_69_code 9 = .ok (.aload_n 0, 1) := by decide +kernel
theorem dX8_step_10 : decode prog_10_method_69_code 10 = .ok (.getfield 235, 3) := by decide +kernel
theorem dX8_step_13 : decode prog_10_method_69_code 13 = .ok (.imul, 1) := by decide +kernel
theorem dX8_step_14 : decode prog_10_method_69_code 14 = .ok (.iadd, 1) := by decide +kernel
theorem dX8_step_15 : decode prog_10_method_69_code 15 = .ok (.iload_n 1, 1) := by decide +kernel
theorem dX8_step_16 : decode prog_10_method_69_code 16 = .ok (.iastore, 1) := by decide +kernel
theorem dX8_step_17 : decode prog_10_method_69_code 17 = .ok (.aload_n 0, 1) := by decide +kernel
theorem dX8_step_18 : decode prog_10_method_69_code 18 = .ok (.getfield 7, 3) := by decide +kernel
theorem dX8_step_21 : decode prog_10_method_69_code 21 = .ok (.aload_n 0, 1) := by decide +kernel
theorem dX8_step_22 : decode prog_10_method_69_code 22 = .ok (.getfield 232, 3) := by decide +kernel
theorem dX8_step_25 : decode prog_10_method_69_code 25 = .ok (.iconst 2, 1) := by decide +kernel
theorem dX8_step_26 : decode prog_10_method_69_code 26 = .ok (.aload_n 0, 1) := by decide +kernel
theorem dX8_step_27 : decode prog_10_method_69_code 27 = .ok (.getfield 235, 3) := by decide +kernel
theorem dX8_step_30 : decode prog_10_method_69_code 30 = .ok (.imul, 1) := by decide +kernel
theorem dX8_step_31 : decode prog_10_method_69_code 31 = .ok (.iadd, 1) := by decide +kernel
theorem dX8_step_32 : decode prog_10_method_69_code 32 = .ok (.iconst 1, 1) := by decide +kernel
theorem dX8_step_33 : decode prog_10_method_69_code 33 = .ok (.iadd, 1) := by decide +kernel
theorem dX8_step_34 : decode prog_10_method_69_code 34 = .ok (.iload_n 2, 1) := by decide +kernel
theorem dX8_step_35 : decode prog_10_method_69_code 35 = .ok (.iastore, 1) := by decide +kernel
theorem dX8_step_36 : decode prog_10_method_69_code 36 = .ok (.aload_n 0, 1) := by decide +kernel
theorem dX8_step_37 : decode prog_10_method_69_code 37 = .ok (.dup, 1) := by decide +kernel
theorem dX8_step_38 : decode prog_10_method_69_code 38 = .ok (.getfield 235, 3) := by decide +kernel
theorem dX8_step_41 : decode prog_10_method_69_code 41 = .ok (.iconst 1, 1) := by decide +kernel
theorem dX8_step_42 : decode prog_10_method_69_code 42 = .ok (.iadd, 1) := by decide +kernel
theorem dX8_step_43 : decode prog_10_method_69_code 43 = .ok (.putfield 235, 3) := by decide +kernel
theorem dX8_step_46 : decode prog_10_method_69_code 46 = .ok (.return_, 1) := by decide +kernel
theorem dX8_isName_0 : decode prog_10_method_68_code 0 = .ok (.iload_n 0, 1) := by decide +kernel
theorem dX8_isName_1 : decode prog_10_method_68_code 1 = .ok (.lookupswitch 75 #[(0, 27), (1, 51)], 27) := by decide +kernel
theorem dX8_isName_28 : decode prog_10_method_68_code 28 = .ok (.iload_n 1, 1) := by decide +kernel
theorem dX8_isName_29 : decode prog_10_method_68_code 29 = .ok (.bipush 104, 2) := by decide +kernel
theorem dX8_isName_31 : decode prog_10_method_68_code 31 = .ok (.if_icmp .eq 15, 3) := by decide +kernel
theorem dX8_isName_34 : decode prog_10_method_68_code 34 = .ok (.iload_n 1, 1) := by decide +kernel
theorem dX8_isName_35 : decode prog_10_method_68_code 35 = .ok (.bipush 97, 2) := by decide +kernel
theorem dX8_isName_37 : decode prog_10_method_68_code 37 = .ok (.if_icmp .eq 9, 3) := by decide +kernel
theorem dX8_isName_40 : decode prog_10_method_68_code 40 = .ok (.iload_n 1, 1) := by decide +kernel
theorem dX8_isName_41 : decode prog_10_method_68_code 41 = .ok (.bipush 102, 2) := by decide +kernel
theorem dX8_isName_43 : decode prog_10_method_68_code 43 = .ok (.if_icmp .ne 7, 3) := by decide +kernel
theorem dX8_isName_46 : decode prog_10_method_68_code 46 = .ok (.iconst 1, 1) := by decide +kernel
theorem dX8_isName_47 : decode prog_10_method_68_code 47 = .ok (.goto 4, 3) := by decide +kernel
theorem dX8_isName_50 : decode prog_10_method_68_code 50 = .ok (.iconst 0, 1) := by decide +kernel
theorem dX8_isName_51 : decode prog_10_method_68_code 51 = .ok (.ireturn, 1) := by decide +kernel
theorem dX8_isName_52 : decode prog_10_method_68_code 52 = .ok (.iload_n 1, 1) := by decide +kernel
theorem dX8_isName_53 : decode prog_10_method_68_code 53 = .ok (.bipush 115, 2) := by decide +kernel
theorem dX8_isName_55 : decode prog_10_method_68_code 55 = .ok (.if_icmp .eq 15, 3) := by decide +kernel
theorem dX8_isName_58 : decode prog_10_method_68_code 58 = .ok (.iload_n 1, 1) := by decide +kernel
theorem dX8_isName_59 : decode prog_10_method_68_code 59 = .ok (.bipush 112, 2) := by decide +kernel
theorem dX8_isName_61 : decode prog_10_method_68_code 61 = .ok (.if_icmp .eq 9, 3) := by decide +kernel
theorem dX8_isName_64 : decode prog_10_method_68_code 64 = .ok (.iload_n 1, 1) := by decide +kernel
theorem dX8_isName_65 : decode prog_10_method_68_code 65 = .ok (.bipush 116, 2) := by decide +kernel
theorem dX8_isName_67 : decode prog_10_method_68_code 67 = .ok (.if_icmp .ne 7, 3) := by decide +kernel
theorem dX8_isName_70 : decode prog_10_method_68_code 70 = .ok (.iconst 1, 1) := by decide +kernel
theorem dX8_isName_71 : decode prog_10_method_68_code 71 = .ok (.goto 4, 3) := by decide +kernel
theorem dX8_isName_74 : decode prog_10_method_68_code 74 = .ok (.iconst 0, 1) := by decide +kernel
theorem dX8_isName_75 : decode prog_10_method_68_code 75 = .ok (.ireturn, 1) := by decide +kernel
theorem dX8_isName_76 : decode prog_10_method_68_code 76 = .ok (.iload_n 1, 1) := by decide +kernel
theorem dX8_isName_77 : decode prog_10_method_68_code 77 = .ok (.bipush 97, 2) := by decide +kernel
theorem dX8_isName_79 : decode prog_10_method_68_code 79 = .ok (.if_icmp .eq 9, 3) := by decide +kernel
theorem dX8_isName_82 : decode prog_10_method_68_code 82 = .ok (.iload_n 1, 1) := by decide +kernel
theorem dX8_isName_83 : decode prog_10_method_68_code 83 = .ok (.bipush 112, 2) := by decide +kernel
theorem dX8_isName_85 : decode prog_10_method_68_code 85 = .ok (.if_icmp .ne 7, 3) := by decide +kernel
theorem dX8_isName_88 : decode prog_10_method_68_code 88 = .ok (.iconst 1, 1) := by decide +kernel
theorem dX8_isName_89 : decode prog_10_method_68_code 89 = .ok (.goto 4, 3) := by decide +kernel
theorem dX8_isName_92 : decode prog_10_method_68_code 92 = .ok (.iconst 0, 1) := by decide +kernel
theorem dX8_isName_93 : decode prog_10_method_68_code 93 = .ok (.ireturn, 1) := by decide +kernel
theorem dX8_isSign_0 : decode prog_10_method_65_code 0 = .ok (.aload_n 0, 1) := by decide +kernel
theorem dX8_isSign_1 : decode prog_10_method_65_code 1 = .ok (.getfield 210, 3) := by decide +kernel
theorem dX8_isSign_4 : decode prog_10_method_65_code 4 = .ok (.iconst 3, 1) := by decide +kernel
theorem dX8_isSign_5 : decode prog_10_method_65_code 5 = .ok (.if_icmp .ne 15, 3) := by decide +kernel
theorem dX8_isSign_8 : decode prog_10_method_65_code 8 = .ok (.aload_n 0, 1) := by decide +kernel
theorem dX8_isSign_9 : decode prog_10_method_65_code 9 = .ok (.getfield 219, 3) := by decide +kernel
theorem dX8_isSign_12 : decode prog_10_method_65_code 12 = .ok (.iload_n 1, 1) := by decide +kernel
theorem dX8_isSign_13 : decode prog_10_method_65_code 13 = .ok (.if_icmp .ne 7, 3) := by decide +kernel
theorem dX8_isSign_16 : decode prog_10_method_65_code 16 = .ok (.iconst 1, 1) := by decide +kernel
theorem dX8_isSign_17 : decode prog_10_method_65_code 17 = .ok (.goto 4, 3) := by decide +kernel
theorem dX8_isSign_20 : decode prog_10_method_65_code 20 = .ok (.iconst 0, 1) := by decide +kernel
theorem dX8_isSign_21 : decode prog_10_method_65_code 21 = .ok (.ireturn, 1) := by decide +kernel
theorem dX8_isText_0 : decode prog_10_method_11_code 0 = .ok (.iload_n 1, 1) := by decide +kernel
theorem dX8_isText_1 : decode prog_10_method_11_code 1 = .ok (.i2l, 1) := by decide +kernel
theorem dX8_isText_2 : decode prog_10_method_11_code 2 = .ok (.lconst 0, 1) := by decide +kernel
theorem dX8_isText_3 : decode prog_10_method_11_code 3 = .ok (.aload_n 0, 1) := by decide +kernel
theorem dX8_isText_4 : decode prog_10_method_11_code 4 = .ok (.getfield 7, 3) := by decide +kernel
theorem dX8_isText_7 : decode prog_10_method_11_code 7 = .ok (.iconst 3, 1) := by decide +kernel
theorem dX8_isText_8 : decode prog_10_method_11_code 8 = .ok (.iaload, 1) := by decide +kernel
theorem dX8_isText_9 : decode prog_10_method_11_code 9 = .ok (.iconst 1, 1) := by decide +kernel
theorem dX8_isText_10 : decode prog_10_method_11_code 10 = .ok (.isub, 1) := by decide +kernel
theorem dX8_isText_11 : decode prog_10_method_11_code 11 = .ok (.i2l, 1) := by decide +kernel
theorem dX8_isText_12 : decode prog_10_method_11_code 12 = .ok (.invokestatic 65, 3) := by decide +kernel
theorem dX8_isText_15 : decode prog_10_method_11_code 15 = .ok (.ireturn, 1) := by decide +kernel
theorem dX8_textTold_0 : decode prog_10_method_78_code 0 = .ok (.aload_n 0, 1) := by decide +kernel
theorem dX8_textTold_1 : decode prog_10_method_78_code 1 = .ok (.iload_n 1, 1) := by decide +kernel
theorem dX8_textTold_2 : decode prog_10_method_78_code 2 = .ok (.invokevirtual 287, 3) := by decide +kernel
theorem dX8_textTold_5 : decode prog_10_method_78_code 5 = .ok (.ifCond .eq 13, 3) := by decide +kernel
theorem dX8_textTold_8 : decode prog_10_method_78_code 8 = .ok (.iload_n 2, 1) := by decide +kernel
theorem dX8_textTold_9 : decode prog_10_method_78_code 9 = .ok (.i2l, 1) := by decide +kernel
theorem dX8_textTold_10 : decode prog_10_method_78_code 10 = .ok (.lconst 0, 1) := by decide +kernel
theorem dX8_textTold_11 : decode prog_10_method_78_code 11 = .ok (.lconst 1, 1) := by decide +kernel
theorem dX8_textTold_12 : decode prog_10_method_78_code 12 = .ok (.invokestatic 65, 3) := by decide +kernel
theorem dX8_textTold_15 : decode prog_10_method_78_code 15 = .ok (.ifCond .ne 6, 3) := by decide +kernel
theorem dX8_textTold_18 : decode prog_10_method_78_code 18 = .ok (.ldc 72, 2) := by decide +kernel
theorem dX8_textTold_20 : decode prog_10_method_78_code 20 = .ok (.ireturn, 1) := by decide +kernel
theorem dX8_textTold_21 : decode prog_10_method_78_code 21 = .ok (.aload_n 0, 1) := by decide +kernel
theorem dX8_textTold_22 : decode prog_10_method_78_code 22 = .ok (.getfield 7, 3) := by decide +kernel
theorem dX8_textTold_25 : decode prog_10_method_78_code 25 = .ok (.aload_n 0, 1) := by decide +kernel
theorem dX8_textTold_26 : decode prog_10_method_78_code 26 = .ok (.iload_n 1, 1) := by decide +kernel
theorem dX8_textTold_27 : decode prog_10_method_78_code 27 = .ok (.invokevirtual 278, 3) := by decide +kernel
theorem dX8_textTold_30 : decode prog_10_method_78_code 30 = .ok (.iload_n 2, 1) := by decide +kernel
theorem dX8_textTold_31 : decode prog_10_method_78_code 31 = .ok (.iadd, 1) := by decide +kernel
theorem dX8_textTold_32 : decode prog_10_method_78_code 32 = .ok (.iaload, 1) := by decide +kernel
theorem dX8_textTold_33 : decode prog_10_method_78_code 33 = .ok (.ireturn, 1) := by decide +kernel
theorem dX8_why_0 : decode prog_10_method_80_code 0 = .ok (.iload_n 1, 1) := by decide +kernel
theorem dX8_why_1 : decode prog_10_method_80_code 1 = .ok (.i2l, 1) := by decide +kernel
theorem dX8_why_2 : decode prog_10_method_80_code 2 = .ok (.lconst 0, 1) := by decide +kernel
theorem dX8_why_3 : decode prog_10_method_80_code 3 = .ok (.ldc2_w 108, 3) := by decide +kernel
theorem dX8_why_6 : decode prog_10_method_80_code 6 = .ok (.invokestatic 65, 3) := by decide +kernel
theorem dX8_why_9 : decode prog_10_method_80_code 9 = .ok (.ifCond .eq 14, 3) := by decide +kernel
theorem dX8_why_12 : decode prog_10_method_80_code 12 = .ok (.aload_n 0, 1) := by decide +kernel
theorem dX8_why_13 : decode prog_10_method_80_code 13 = .ok (.iload_n 1, 1) := by decide +kernel
theorem dX8_why_14 : decode prog_10_method_80_code 14 = .ok (.invokevirtual 81, 3) := by decide +kernel
theorem dX8_why_17 : decode prog_10_method_80_code 17 = .ok (.invokestatic 105, 3) := by decide +kernel
theorem dX8_why_20 : decode prog_10_method_80_code 20 = .ok (.goto 5, 3) := by decide +kernel
theorem dX8_why_23 : decode prog_10_method_80_code 23 = .ok (.ldc 72, 2) := by decide +kernel
theorem dX8_why_25 : decode prog_10_method_80_code 25 = .ok (.ireturn, 1) := by decide +kernel
theorem dX8_isSheet_0 : decode prog_10_method_83_code 0 = .ok (.iload_n 0, 1) := by decide +kernel
theorem dX8_isSheet_1 : decode prog_10_method_83_code 1 = .ok (.i2l, 1) := by decide +kernel
theorem dX8_isSheet_2 : decode prog_10_method_83_code 2 = .ok (.lconst 0, 1) := by decide +kernel
theorem dX8_isSheet_3 : decode prog_10_method_83_code 3 = .ok (.ldc2_w 293, 3) := by decide +kernel
theorem dX8_isSheet_6 : decode prog_10_method_83_code 6 = .ok (.invokestatic 65, 3) := by decide +kernel
theorem dX8_isSheet_9 : decode prog_10_method_83_code 9 = .ok (.ireturn, 1) := by decide +kernel
theorem dX8_sheet_0 : decode prog_10_method_84_code 0 = .ok (.iload_n 1, 1) := by decide +kernel
theorem dX8_sheet_1 : decode prog_10_method_84_code 1 = .ok (.invokestatic 295, 3) := by decide +kernel
theorem dX8_sheet_4 : decode prog_10_method_84_code 4 = .ok (.ifCond .eq 25, 3) := by decide +kernel
theorem dX8_sheet_7 : decode prog_10_method_84_code 7 = .ok (.iload_n 2, 1) := by decide +kernel
theorem dX8_sheet_8 : decode prog_10_method_84_code 8 = .ok (.i2l, 1) := by decide +kernel
theorem dX8_sheet_9 : decode prog_10_method_84_code 9 = .ok (.ldc2_w 298, 3) := by decide +kernel
theorem dX8_sheet_12 : decode prog_10_method_84_code 12 = .ok (.lconst 1, 1) := by decide +kernel
theorem dX8_sheet_13 : decode prog_10_method_84_code 13 = .ok (.invokestatic 65, 3) := by decide +kernel
theorem dX8_sheet_16 : decode prog_10_method_84_code 16 = .ok (.ifCond .eq 13, 3) := by decide +kernel
theorem dX8_sheet_19 : decode prog_10_method_84_code 19 = .ok (.iload_n 2, 1) := by decide +kernel
theorem dX8_sheet_20 : decode prog_10_method_84_code 20 = .ok (.ifCond .lt 12, 3) := by decide +kernel
theorem dX8_sheet_23 : decode prog_10_method_84_code 23 = .ok (.iload_n 3, 1) := by decide +kernel
theorem dX8_sheet_24 : decode prog_10_method_84_code 24 = .ok (.bipush 24, 2) := by decide +kernel
theorem dX8_sheet_26 : decode prog_10_method_84_code 26 = .ok (.if_icmp .le 6, 3) := by decide +kernel
theorem dX8_sheet_29 : decode prog_10_method_84_code 29 = .ok (.ldc 72, 2) := by decide +kernel
theorem dX8_sheet_31 : decode prog_10_method_84_code 31 = .ok (.ireturn, 1) := by decide +kernel
theorem dX8_sheet_32 : decode prog_10_method_84_code 32 = .ok (.iload_n 2, 1) := by decide +kernel
theorem dX8_sheet_33 : decode prog_10_method_84_code 33 = .ok (.ifCond .lt 11, 3) := by decide +kernel
theorem dX8_sheet_36 : decode prog_10_method_84_code 36 = .ok (.iload_n 3, 1) := by decide +kernel
theorem dX8_sheet_37 : decode prog_10_method_84_code 37 = .ok (.ifCond .ge 7, 3) := by decide +kernel
theorem dX8_sheet_40 : decode prog_10_method_84_code 40 = .ok (.ldc_w 300, 3) := by decide +kernel
theorem dX8_sheet_43 : decode prog_10_method_84_code 43 = .ok (.ireturn, 1) := by decide +kernel
theorem dX8_sheet_44 : decode prog_10_method_84_code 44 = .ok (.aload_n 0, 1) := by decide +kernel
theorem dX8_sheet_45 : decode prog_10_method_84_code 45 = .ok (.getfield 19, 3) := by decide +kernel
theorem dX8_sheet_48 : decode prog_10_method_84_code 48 = .ok (.iload_n 1, 1) := by decide +kernel
theorem dX8_sheet_49 : decode prog_10_method_84_code 49 = .ok (.iload_n 2, 1) := by decide +kernel
theorem dX8_sheet_50 : decode prog_10_method_84_code 50 = .ok (.iastore, 1) := by decide +kernel
theorem dX8_sheet_51 : decode prog_10_method_84_code 51 = .ok (.aload_n 0, 1) := by decide +kernel
theorem dX8_sheet_52 : decode prog_10_method_84_code 52 = .ok (.getfield 22, 3) := by decide +kernel
theorem dX8_sheet_55 : decode prog_10_method_84_code 55 = .ok (.iload_n 1, 1) := by decide +kernel
theorem dX8_sheet_56 : decode prog_10_method_84_code 56 = .ok (.iload_n 2, 1) := by decide +kernel
theorem dX8_sheet_57 : decode prog_10_method_84_code 57 = .ok (.ifCond .ge 7, 3) := by decide +kernel
theorem dX8_sheet_60 : decode prog_10_method_84_code 60 = .ok (.iconst 0, 1) := by decide +kernel
theorem dX8_sheet_61 : decode prog_10_method_84_code 61 = .ok (.goto 4, 3) := by decide +kernel
theorem dX8_sheet_64 : decode prog_10_method_84_code 64 = .ok (.iload_n 3, 1) := by decide +kernel
theorem dX8_sheet_65 : decode prog_10_method_84_code 65 = .ok (.iastore, 1) := by decide +kernel
theorem dX8_sheet_66 : decode prog_10_method_84_code 66 = .ok (.iconst 0, 1) := by decide +kernel
theorem dX8_sheet_67 : decode prog_10_method_84_code 67 = .ok (.istore 4, 2) := by decide +kernel
theorem dX8_sheet_69 : decode prog_10_method_84_code 69 = .ok (.iload 4, 2) := by decide +kernel
theorem dX8_sheet_71 : decode prog_10_method_84_code 71 = .ok (.bipush 24, 2) := by decide +kernel
theorem dX8_sheet_73 : decode prog_10_method_84_code 73 = .ok (.if_icmp .ge 22, 3) := by decide +kernel
theorem dX8_sheet_76 : decode prog_10_method_84_code 76 = .ok (.aload_n 0, 1) := by decide +kernel
theorem dX8_sheet_77 : decode prog_10_method_84_code 77 = .ok (.getfield 25, 3) := by decide +kernel
theorem dX8_sheet_80 : decode prog_10_method_84_code 80 = .ok (.bipush 24, 2) := by decide +kernel
theorem dX8_sheet_82 : decode prog_10_method_84_code 82 = .ok (.iload_n 1, 1) := by decide +kernel
theorem dX8_sheet_83 : decode prog_10_method_84_code 83 = .ok (.imul, 1) := by decide +kernel
theorem dX8_sheet_84 : decode prog_10_method_84_code 84 = .ok (.iload 4, 2) := by decide +kernel
theorem dX8_sheet_86 : decode prog_10_method_84_code 86 = .ok (.iadd, 1) := by decide +kernel
theorem dX8_sheet_87 : decode prog_10_method_84_code 87 = .ok (.iconst 0, 1) := by decide +kernel
theorem dX8_sheet_88 : decode prog_10_method_84_code 88 = .ok (.iastore, 1) := by decide +kernel
theorem dX8_sheet_89 : decode prog_10_method_84_code 89 = .ok (.iinc 4 1, 3) := by decide +kernel
theorem dX8_sheet_92 : decode prog_10_method_84_code 92 = .ok (.goto (-23), 3) := by decide +kernel
theorem dX8_sheet_95 : decode prog_10_method_84_code 95 = .ok (.aload_n 0, 1) := by decide +kernel
theorem dX8_sheet_96 : decode prog_10_method_84_code 96 = .ok (.getfield 22, 3) := by decide +kernel
theorem dX8_sheet_99 : decode prog_10_method_84_code 99 = .ok (.iload_n 1, 1) := by decide +kernel
theorem dX8_sheet_100 : decode prog_10_method_84_code 100 = .ok (.iaload, 1) := by decide +kernel
theorem dX8_sheet_101 : decode prog_10_method_84_code 101 = .ok (.ireturn, 1) := by decide +kernel
theorem dX8_mark_0 : decode prog_10_method_85_code 0 = .ok (.iload_n 1, 1) := by decide +kernel
theorem dX8_mark_1 : decode prog_10_method_85_code 1 = .ok (.invokestatic 295, 3) := by decide +kernel
theorem dX8_mark_4 : decode prog_10_method_85_code 4 = .ok (.ifCond .ne 6, 3) := by decide +kernel
theorem dX8_mark_7 : decode prog_10_method_85_code 7 = .ok (.ldc 72, 2) := by decide +kernel
theorem dX8_mark_9 : decode prog_10_method_85_code 9 = .ok (.ireturn, 1) := by decide +kernel
theorem dX8_mark_10 : decode prog_10_method_85_code 10 = .ok (.aload_n 0, 1) := by decide +kernel
theorem dX8_mark_11 : decode prog_10_method_85_code 11 = .ok (.getfield 19, 3) := by decide +kernel
theorem dX8_mark_14 : decode prog_10_method_85_code 14 = .ok (.iload_n 1, 1) := by decide +kernel
theorem dX8_mark_15 : decode prog_10_method_85_code 15 = .ok (.iaload, 1) := by decide +kernel
theorem dX8_mark_16 : decode prog_10_method_85_code 16 = .ok (.ifCond .ge 7, 3) := by decide +kernel
theorem dX8_mark_19 : decode prog_10_method_85_code 19 = .ok (.ldc_w 301, 3) := by decide +kernel
theorem dX8_mark_22 : decode prog_10_method_85_code 22 = .ok (.ireturn, 1) := by decide +kernel
theorem dX8_mark_23 : decode prog_10_method_85_code 23 = .ok (.iload_n 2, 1) := by decide +kernel
theorem dX8_mark_24 : decode prog_10_method_85_code 24 = .ok (.i2l, 1) := by decide +kernel
theorem dX8_mark_25 : decode prog_10_method_85_code 25 = .ok (.lconst 0, 1) := by decide +kernel
theorem dX8_mark_26 : decode prog_10_method_85_code 26 = .ok (.aload_n 0, 1) := by decide +kernel
theorem dX8_mark_27 : decode prog_10_method_85_code 27 = .ok (.getfield 22, 3) := by decide +kernel
theorem dX8_mark_30 : decode prog_10_method_85_code 30 = .ok (.iload_n 1, 1) := by decide +kernel
theorem dX8_mark_31 : decode prog_10_method_85_code 31 = .ok (.iaload, 1) := by decide +kernel
theorem dX8_mark_32 : decode prog_10_method_85_code 32 = .ok (.iconst 1, 1) := by decide +kernel
theorem dX8_mark_33 : decode prog_10_method_85_code 33 = .ok (.isub, 1) := by decide +kernel
theorem dX8_mark_34 : decode prog_10_method_85_code 34 = .ok (.i2l, 1) := by decide +kernel
theorem dX8_mark_35 : decode prog_10_method_85_code 35 = .ok (.invokestatic 65, 3) := by decide +kernel
theorem dX8_mark_38 : decode prog_10_method_85_code 38 = .ok (.ifCond .ne 7, 3) := by decide +kernel
theorem dX8_mark_41 : decode prog_10_method_85_code 41 = .ok (.ldc_w 302, 3) := by decide +kernel
theorem dX8_mark_44 : decode prog_10_method_85_code 44 = .ok (.ireturn, 1) := by decide +kernel
theorem dX8_mark_45 : decode prog_10_method_85_code 45 = .ok (.aload_n 0, 1) := by decide +kernel
theorem dX8_mark_46 : decode prog_10_method_85_code 46 = .ok (.getfield 19, 3) := by decide +kernel
theorem dX8_mark_49 : decode prog_10_method_85_code 49 = .ok (.iload_n 1, 1) := by decide +kernel
theorem dX8_mark_50 : decode prog_10_method_85_code 50 = .ok (.iaload, 1) := by decide +kernel
theorem dX8_mark_51 : decode prog_10_method_85_code 51 = .ok (.ifCond .ne 12, 3) := by decide +kernel
theorem dX8_mark_54 : decode prog_10_method_85_code 54 = .ok (.iload_n 3, 1) := by decide +kernel
theorem dX8_mark_55 : decode prog_10_method_85_code 55 = .ok (.ldc 64, 2) := by decide +kernel
theorem dX8_mark_57 : decode prog_10_method_85_code 57 = .ok (.if_icmp .ne 6, 3) := by decide +kernel
theorem dX8_mark_60 : decode prog_10_method_85_code 60 = .ok (.ldc 140, 2) := by decide +kernel
theorem dX8_mark_62 : decode prog_10_method_85_code 62 = .ok (.ireturn, 1) := by decide +kernel
theorem dX8_mark_63 : decode prog_10_method_85_code 63 = .ok (.aload_n 0, 1) := by decide +kernel
theorem dX8_mark_64 : decode prog_10_method_85_code 64 = .ok (.getfield 19, 3) := by decide +kernel
theorem dX8_mark_67 : decode prog_10_method_85_code 67 = .ok (.iload_n 1, 1) := by decide +kernel
theorem dX8_mark_68 : decode prog_10_method_85_code 68 = .ok (.iaload, 1) := by decide +kernel
theorem dX8_mark_69 : decode prog_10_method_85_code 69 = .ok (.iconst 1, 1) := by decide +kernel
theorem dX8_mark_70 : decode prog_10_method_85_code 70 = .ok (.if_icmp .ne 26, 3) := by decide +kernel
theorem dX8_mark_73 : decode prog_10_method_85_code 73 = .ok (.iload_n 3, 1) := by decide +kernel
theorem dX8_mark_74 : decode prog_10_method_85_code 74 = .ok (.ldc 64, 2) := by decide +kernel
theorem dX8_mark_76 : decode prog_10_method_85_code 76 = .ok (.if_icmp .eq 20, 3) := by decide +kernel
theorem dX8_mark_79 : decode prog_10_method_85_code 79 = .ok (.iload_n 3, 1) := by decide +kernel
theorem dX8_mark_80 : decode prog_10_method_85_code 80 = .ok (.i2l, 1) := by decide +kernel
theorem dX8_mark_81 : decode prog_10_method_85_code 81 = .ok (.ldc2_w 303, 3) := by decide +kernel
theorem dX8_mark_84 : decode prog_10_method_85_code 84 = .ok (.ldc2_w 305, 3) := by decide +kernel
theorem dX8_mark_87 : decode prog_10_method_85_code 87 = .ok (.invokestatic 65, 3) := by decide +kernel
theorem dX8_mark_90 : decode prog_10_method_85_code 90 = .ok (.ifCond .ne 6, 3) := by decide +kernel
theorem dX8_mark_93 : decode prog_10_method_85_code 93 = .ok (.ldc 72, 2) := by decide +kernel
theorem dX8_mark_95 : decode prog_10_method_85_code 95 = .ok (.ireturn, 1) := by decide +kernel
theorem dX8_mark_96 : decode prog_10_method_85_code 96 = .ok (.aload_n 0, 1) := by decide +kernel
theorem dX8_mark_97 : decode prog_10_method_85_code 97 = .ok (.getfield 25, 3) := by decide +kernel
theorem dX8_mark_100 : decode prog_10_method_85_code 100 = .ok (.bipush 24, 2) := by decide +kernel
theorem dX8_mark_102 : decode prog_10_method_85_code 102 = .ok (.iload_n 1, 1) := by decide +kernel
theorem dX8_mark_103 : decode prog_10_method_85_code 103 = .ok (.imul, 1) := by decide +kernel
theorem dX8_mark_104 : decode prog_10_method_85_code 104 = .ok (.iload_n 2, 1) := by decide +kernel
theorem dX8_mark_105 : decode prog_10_method_85_code 105 = .ok (.iadd, 1) := by decide +kernel
theorem dX8_mark_106 : decode prog_10_method_85_code 106 = .ok (.aload_n 0, 1) := by decide +kernel
theorem dX8_mark_107 : decode prog_10_method_85_code 107 = .ok (.getfield 19, 3) := by decide +kernel
theorem dX8_mark_110 : decode prog_10_method_85_code 110 = .ok (.iload_n 1, 1) := by decide +kernel
theorem dX8_mark_111 : decode prog_10_method_85_code 111 = .ok (.iaload, 1) := by decide +kernel
theorem dX8_mark_112 : decode prog_10_method_85_code 112 = .ok (.ifCond .ne 13, 3) := by decide +kernel
theorem dX8_mark_115 : decode prog_10_method_85_code 115 = .ok (.iload_n 3, 1) := by decide +kernel
theorem dX8_mark_116 : decode prog_10_method_85_code 116 = .ok (.bipush 16, 2) := by decide +kernel
theorem dX8_mark_118 : decode prog_10_method_85_code 118 = .ok (.ishl, 1) := by decide +kernel
theorem dX8_mark_119 : decode prog_10_method_85_code 119 = .ok (.bipush 16, 2) := by decide +kernel
theorem dX8_mark_121 : decode prog_10_method_85_code 121 = .ok (.ishr, 1) := by decide +kernel
theorem dX8_mark_122 : decode prog_10_method_85_code 122 = .ok (.goto 4, 3) := by decide +kernel
theorem dX8_mark_125 : decode prog_10_method_85_code 125 = .ok (.iload_n 3, 1) := by decide +kernel
theorem dX8_mark_126 : decode prog_10_method_85_code 126 = .ok (.iastore, 1) := by decide +kernel
theorem dX8_mark_127 : decode prog_10_method_85_code 127 = .ok (.iconst 1, 1) := by decide +kernel
theorem dX8_mark_128 : decode prog_10_method_85_code 128 = .ok (.ireturn, 1) := by decide +kernel
theorem dX8_pour_0 : decode prog_10_method_86_code 0 = .ok (.iload_n 1, 1) := by decide +kernel
theorem dX8_pour_1 : decode prog_10_method_86_code 1 = .ok (.invokestatic 295, 3) := by decide +kernel
theorem dX8_pour_4 : decode prog_10_method_86_code 4 = .ok (.ifCond .ne 6, 3) := by decide +kernel
theorem dX8_pour_7 : decode prog_10_method_86_code 7 = .ok (.ldc 72, 2) := by decide +kernel
theorem dX8_pour_9 : decode prog_10_method_86_code 9 = .ok (.ireturn, 1) := by decide +kernel
theorem dX8_pour_10 : decode prog_10_method_86_code 10 = .ok (.aload_n 0, 1) := by decide +kernel
theorem dX8_pour_11 : decode prog_10_method_86_code 11 = .ok (.getfield 19, 3) := by decide +kernel
theorem dX8_pour_14 : decode prog_10_method_86_code 14 = .ok (.iload_n 1, 1) := by decide +kernel
theorem dX8_pour_15 : decode prog_10_method_86_code 15 = .ok (.iaload, 1) := by decide +kernel
theorem dX8_pour_16 : decode prog_10_method_86_code 16 = .ok (.ifCond .ge 7, 3) := by decide +kernel
theorem dX8_pour_19 : decode prog_10_method_86_code 19 = .ok (.ldc_w 301, 3) := by decide +kernel
theorem dX8_pour_22 : decode prog_10_method_86_code 22 = .ok (.ireturn, 1) := by decide +kernel
theorem dX8_pour_23 : decode prog_10_method_86_code 23 = .ok (.iconst 0, 1) := by decide +kernel
theorem dX8_pour_24 : decode prog_10_method_86_code 24 = .ok (.istore_n 2, 1) := by decide +kernel
theorem dX8_pour_25 : decode prog_10_method_86_code 25 = .ok (.iconst 0, 1) := by decide +kernel
theorem dX8_pour_26 : decode prog_10_method_86_code 26 = .ok (.istore_n 3, 1) := by decide +kernel
theorem dX8_pour_27 : decode prog_10_method_86_code 27 = .ok (.iload_n 3, 1) := by decide +kernel
theorem dX8_pour_28 : decode prog_10_method_86_code 28 = .ok (.aload_n 0, 1) := by decide +kernel
theorem dX8_pour_29 : decode prog_10_method_86_code 29 = .ok (.getfield 22, 3) := by decide +kernel
theorem dX8_pour_32 : decode prog_10_method_86_code 32 = .ok (.iload_n 1, 1) := by decide +kernel
theorem dX8_pour_33 : decode prog_10_method_86_code 33 = .ok (.iaload, 1) := by decide +kernel
theorem dX8_pour_34 : decode prog_10_method_86_code 34 = .ok (.if_icmp .ge 85, 3) := by decide +kernel
theorem dX8_pour_37 : decode prog_10_method_86_code 37 = .ok (.iload_n 3, 1) := by decide +kernel
theorem dX8_pour_38 : decode prog_10_method_86_code 38 = .ok (.aload_n 0, 1) := by decide +kernel
theorem dX8_pour_39 : decode prog_10_method_86_code 39 = .ok (.getfield 7, 3) := by decide +kernel
theorem dX8_pour_42 : decode prog_10_method_86_code 42 = .ok (.iconst 1, 1) := by decide +kernel
theorem dX8_pour_43 : decode prog_10_method_86_code 43 = .ok (.iaload, 1) := by decide +kernel
theorem dX8_pour_44 : decode prog_10_method_86_code 44 = .ok (.if_icmp .ge 75, 3) := by decide +kernel
theorem dX8_pour_47 : decode prog_10_method_86_code 47 = .ok (.aload_n 0, 1) := by decide +kernel
theorem dX8_pour_48 : decode prog_10_method_86_code 48 = .ok (.getfield 25, 3) := by decide +kernel
theorem dX8_pour_51 : decode prog_10_method_86_code 51 = .ok (.bipush 24, 2) := by decide +kernel
theorem dX8_pour_53 : decode prog_10_method_86_code 53 = .ok (.iload_n 1, 1) := by decide +kernel
theorem dX8_pour_54 : decode prog_10_method_86_code 54 = .ok (.imul, 1) := by decide +kernel
theorem dX8_pour_55 : decode prog_10_method_86_code 55 = .ok (.iload_n 3, 1) := by decide +kernel
theorem dX8_pour_56 : decode prog_10_method_86_code 56 = .ok (.iadd, 1) := by decide +kernel
theorem dX8_pour_57 : decode prog_10_method_86_code 57 = .ok (.iaload, 1) := by decide +kernel
theorem dX8_pour_58 : decode prog_10_method_86_code 58 = .ok (.istore 4, 2) := by decide +kernel
theorem dX8_pour_60 : decode prog_10_method_86_code 60 = .ok (.iload 4, 2) := by decide +kernel
theorem dX8_pour_62 : decode prog_10_method_86_code 62 = .ok (.ldc 64, 2) := by decide +kernel
theorem dX8_pour_64 : decode prog_10_method_86_code 64 = .ok (.if_icmp .ne 12, 3) := by decide +kernel
theorem dX8_pour_67 : decode prog_10_method_86_code 67 = .ok (.aload_n 0, 1) := by decide +kernel
theorem dX8_pour_68 : decode prog_10_method_86_code 68 = .ok (.iload_n 3, 1) := by decide +kernel
theorem dX8_pour_69 : decode prog_10_method_86_code 69 = .ok (.iconst 1, 1) := by decide +kernel
theorem dX8_pour_70 : decode prog_10_method_86_code 70 = .ok (.invokevirtual 121, 3) := by decide +kernel
theorem dX8_pour_73 : decode prog_10_method_86_code 73 = .ok (.goto 11, 3) := by decide +kernel
theorem dX8_pour_76 : decode prog_10_method_86_code 76 = .ok (.iload 4, 2) := by decide +kernel
theorem dX8_pour_78 : decode prog_10_method_86_code 78 = .ok (.iconst 0, 1) := by decide +kernel
theorem dX8_pour_79 : decode prog_10_method_86_code 79 = .ok (.bipush 99, 2) := by decide +kernel
theorem dX8_pour_81 : decode prog_10_method_86_code 81 = .ok (.invokestatic 92, 3) := by decide +kernel
theorem dX8_pour_84 : decode prog_10_method_86_code 84 = .ok (.istore 5, 2) := by decide +kernel
theorem dX8_pour_86 : decode prog_10_method_86_code 86 = .ok (.iload_n 2, 1) := by decide +kernel
theorem dX8_pour_87 : decode prog_10_method_86_code 87 = .ok (.iload 5, 2) := by decide +kernel
theorem dX8_pour_89 : decode prog_10_method_86_code 89 = .ok (.aload_n 0, 1) := by decide +kernel
theorem dX8_pour_90 : decode prog_10_method_86_code 90 = .ok (.bipush 42, 2) := by decide +kernel
theorem dX8_pour_92 : decode prog_10_method_86_code 92 = .ok (.iconst 3, 1) := by decide +kernel
theorem dX8_pour_93 : decode prog_10_method_86_code 93 = .ok (.iload_n 3, 1) := by decide +kernel
theorem dX8_pour_94 : decode prog_10_method_86_code 94 = .ok (.imul, 1) := by decide +kernel
theorem dX8_pour_95 : decode prog_10_method_86_code 95 = .ok (.iadd, 1) := by decide +kernel
theorem dX8_pour_96 : decode prog_10_method_86_code 96 = .ok (.iconst 1, 1) := by decide +kernel
theorem dX8_pour_97 : decode prog_10_method_86_code 97 = .ok (.iadd, 1) := by decide +kernel
theorem dX8_pour_98 : decode prog_10_method_86_code 98 = .ok (.iload 5, 2) := by decide +kernel
theorem dX8_pour_100 : decode prog_10_method_86_code 100 = .ok (.invokevirtual 112, 3) := by decide +kernel
theorem dX8_pour_103 : decode prog_10_method_86_code 103 = .ok (.if_icmp .ne 7, 3) := by decide +kernel
theorem dX8_pour_106 : decode prog_10_method_86_code 106 = .ok (.iconst 0, 1) := by decide +kernel
theorem dX8_pour_107 : decode prog_10_method_86_code 107 = .ok (.goto 4, 3) := by decide +kernel
theorem dX8_pour_110 : decode prog_10_method_86_code 110 = .ok (.iconst 1, 1) := by decide +kernel
theorem dX8_pour_111 : decode prog_10_method_86_code 111 = .ok (.iadd, 1) := by decide +kernel
theorem dX8_pour_112 : decode prog_10_method_86_code 112 = .ok (.istore_n 2, 1) := by decide +kernel
theorem dX8_pour_113 : decode prog_10_method_86_code 113 = .ok (.iinc 3 1, 3) := by decide +kernel
theorem dX8_pour_116 : decode prog_10_method_86_code 116 = .ok (.goto (-89), 3) := by decide +kernel
theorem dX8_pour_119 : decode prog_10_method_86_code 119 = .ok (.iload_n 2, 1) := by decide +kernel
theorem dX8_pour_120 : decode prog_10_method_86_code 120 = .ok (.ireturn, 1) := by decide +kernel
theorem dX8_reads_0 : decode prog_10_method_87_code 0 = .ok (.iload_n 1, 1) := by decide +kernel
theorem dX8_reads_1 : decode prog_10_method_87_code 1 = .ok (.invokestatic 295, 3) := by decide +kernel
theorem dX8_reads_4 : decode prog_10_method_87_code 4 = .ok (.ifCond .ne 6, 3) := by decide +kernel
theorem dX8_reads_7 : decode prog_10_method_87_code 7 = .ok (.ldc 72, 2) := by decide +kernel
theorem dX8_reads_9 : decode prog_10_method_87_code 9 = .ok (.ireturn, 1) := by decide +kernel
theorem dX8_reads_10 : decode prog_10_method_87_code 10 = .ok (.aload_n 0, 1) := by decide +kernel
theorem dX8_reads_11 : decode prog_10_method_87_code 11 = .ok (.getfield 19, 3) := by decide +kernel
theorem dX8_reads_14 : decode prog_10_method_87_code 14 = .ok (.iload_n 1, 1) := by decide +kernel
theorem dX8_reads_15 : decode prog_10_method_87_code 15 = .ok (.iaload, 1) := by decide +kernel
theorem dX8_reads_16 : decode prog_10_method_87_code 16 = .ok (.ifCond .ge 7, 3) := by decide +kernel
theorem dX8_reads_19 : decode prog_10_method_87_code 19 = .ok (.ldc_w 301, 3) := by decide +kernel
theorem dX8_reads_22 : decode prog_10_method_87_code 22 = .ok (.ireturn, 1) := by decide +kernel
theorem dX8_reads_23 : decode prog_10_method_87_code 23 = .ok (.iconst 0, 1) := by decide +kernel
theorem dX8_reads_24 : decode prog_10_method_87_code 24 = .ok (.istore_n 2, 1) := by decide +kernel
theorem dX8_reads_25 : decode prog_10_method_87_code 25 = .ok (.iload_n 2, 1) := by decide +kernel
theorem dX8_reads_26 : decode prog_10_method_87_code 26 = .ok (.aload_n 0, 1) := by decide +kernel
theorem dX8_reads_27 : decode prog_10_method_87_code 27 = .ok (.getfield 22, 3) := by decide +kernel
theorem dX8_reads_30 : decode prog_10_method_87_code 30 = .ok (.iload_n 1, 1) := by decide +kernel
theorem dX8_reads_31 : decode prog_10_method_87_code 31 = .ok (.iaload, 1) := by decide +kernel
theorem dX8_reads_32 : decode prog_10_method_87_code 32 = .ok (.if_icmp .ge 49, 3) := by decide +kernel
theorem dX8_reads_35 : decode prog_10_method_87_code 35 = .ok (.aload_n 0, 1) := by decide +kernel
theorem dX8_reads_36 : decode prog_10_method_87_code 36 = .ok (.getfield 25, 3) := by decide +kernel
theorem dX8_reads_39 : decode prog_10_method_87_code 39 = .ok (.bipush 24, 2) := by decide +kernel
theorem dX8_reads_41 : decode prog_10_method_87_code 41 = .ok (.iload_n 1, 1) := by decide +kernel
theorem dX8_reads_42 : decode prog_10_method_87_code 42 = .ok (.imul, 1) := by decide +kernel
theorem dX8_reads_43 : decode prog_10_method_87_code 43 = .ok (.iload_n 2, 1) := by decide +kernel
theorem dX8_reads_44 : decode prog_10_method_87_code 44 = .ok (.iadd, 1) := by decide +kernel
theorem dX8_reads_45 : decode prog_10_method_87_code 45 = .ok (.iaload, 1) := by decide +kernel
theorem dX8_reads_46 : decode prog_10_method_87_code 46 = .ok (.istore_n 3, 1) := by decide +kernel
theorem dX8_reads_47 : decode prog_10_method_87_code 47 = .ok (.iload_n 3, 1) := by decide +kernel
theorem dX8_reads_48 : decode prog_10_method_87_code 48 = .ok (.ldc 64, 2) := by decide +kernel
theorem dX8_reads_50 : decode prog_10_method_87_code 50 = .ok (.if_icmp .eq 25, 3) := by decide +kernel
theorem dX8_reads_53 : decode prog_10_method_87_code 53 = .ok (.iload_n 2, 1) := by decide +kernel
theorem dX8_reads_54 : decode prog_10_method_87_code 54 = .ok (.aload_n 0, 1) := by decide +kernel
theorem dX8_reads_55 : decode prog_10_method_87_code 55 = .ok (.getfield 7, 3) := by decide +kernel
theorem dX8_reads_58 : decode prog_10_method_87_code 58 = .ok (.iconst 0, 1) := by decide +kernel
theorem dX8_reads_59 : decode prog_10_method_87_code 59 = .ok (.iaload, 1) := by decide +kernel
theorem dX8_reads_60 : decode prog_10_method_87_code 60 = .ok (.if_icmp .ge 13, 3) := by decide +kernel
theorem dX8_reads_63 : decode prog_10_method_87_code 63 = .ok (.iload_n 3, 1) := by decide +kernel
theorem dX8_reads_64 : decode prog_10_method_87_code 64 = .ok (.aload_n 0, 1) := by decide +kernel
theorem dX8_reads_65 : decode prog_10_method_87_code 65 = .ok (.iload_n 2, 1) := by decide +kernel
theorem dX8_reads_66 : decode prog_10_method_87_code 66 = .ok (.iconst 1, 1) := by decide +kernel
theorem dX8_reads_67 : decode prog_10_method_87_code 67 = .ok (.invokevirtual 74, 3) := by decide +kernel
theorem dX8_reads_70 : decode prog_10_method_87_code 70 = .ok (.if_icmp .eq 5, 3) := by decide +kernel
theorem dX8_reads_73 : decode prog_10_method_87_code 73 = .ok (.iload_n 2, 1) := by decide +kernel
theorem dX8_reads_74 : decode prog_10_method_87_code 74 = .ok (.ireturn, 1) := by decide +kernel
theorem dX8_reads_75 : decode prog_10_method_87_code 75 = .ok (.iinc 2 1, 3) := by decide +kernel
theorem dX8_reads_78 : decode prog_10_method_87_code 78 = .ok (.goto (-53), 3) := by decide +kernel
theorem dX8_reads_81 : decode prog_10_method_87_code 81 = .ok (.ldc 64, 2) := by decide +kernel
theorem dX8_reads_83 : decode prog_10_method_87_code 83 = .ok (.ireturn, 1) := by decide +kernel
theorem dX8_filmed_0 : decode prog_10_method_88_code 0 = .ok (.iload_n 1, 1) := by decide +kernel
theorem dX8_filmed_1 : decode prog_10_method_88_code 1 = .ok (.invokestatic 295, 3) := by decide +kernel
theorem dX8_filmed_4 : decode prog_10_method_88_code 4 = .ok (.ifCond .eq 13, 3) := by decide +kernel
theorem dX8_filmed_7 : decode prog_10_method_88_code 7 = .ok (.iload_n 2, 1) := by decide +kernel
theorem dX8_filmed_8 : decode prog_10_method_88_code 8 = .ok (.i2l, 1) := by decide +kernel
theorem dX8_filmed_9 : decode prog_10_method_88_code 9 = .ok (.lconst 0, 1) := by decide +kernel
theorem dX8_filmed_10 : decode prog_10_method_88_code 10 = .ok (.lconst 1, 1) := by decide +kernel
theorem dX8_filmed_11 : decode prog_10_method_88_code 11 = .ok (.invokestatic 65, 3) := by decide +kernel
theorem dX8_filmed_14 : decode prog_10_method_88_code 14 = .ok (.ifCond .ne 6, 3) := by decide +kernel
theorem dX8_filmed_17 : decode prog_10_method_88_code 17 = .ok (.ldc 72, 2) := by decide +kernel
theorem dX8_filmed_19 : decode prog_10_method_88_code 19 = .ok (.ireturn, 1) := by decide +kernel
theorem dX8_filmed_20 : decode prog_10_method_88_code 20 = .ok (.aload_n 0, 1) := by decide +kernel
theorem dX8_filmed_21 : decode prog_10_method_88_code 21 = .ok (.getfield 19, 3) := by decide +kernel
theorem dX8_filmed_24 : decode prog_10_method_88_code 24 = .ok (.iload_n 1, 1) := by decide +kernel
theorem dX8_filmed_25 : decode prog_10_method_88_code 25 = .ok (.iaload, 1) := by decide +kernel
theorem dX8_filmed_26 : decode prog_10_method_88_code 26 = .ok (.ifCond .ge 7, 3) := by decide +kernel
theorem dX8_filmed_29 : decode prog_10_method_88_code 29 = .ok (.ldc_w 301, 3) := by decide +kernel
theorem dX8_filmed_32 : decode prog_10_method_88_code 32 = .ok (.ireturn, 1) := by decide +kernel
theorem dX8_filmed_33 : decode prog_10_method_88_code 33 = .ok (.aload_n 0, 1) := by decide +kernel
theorem dX8_filmed_34 : decode prog_10_method_88_code 34 = .ok (.invokevirtual 176, 3) := by decide +kernel
theorem dX8_filmed_37 : decode prog_10_method_88_code 37 = .ok (.iconst (-1), 1) := by decide +kernel
theorem dX8_filmed_38 : decode prog_10_method_88_code 38 = .ok (.istore_n 3, 1) := by decide +kernel
theorem dX8_filmed_39 : decode prog_10_method_88_code 39 = .ok (.iconst 0, 1) := by decide +kernel
theorem dX8_filmed_40 : decode prog_10_method_88_code 40 = .ok (.istore 4, 2) := by decide +kernel
theorem dX8_filmed_42 : decode prog_10_method_88_code 42 = .ok (.iconst 0, 1) := by decide +kernel
theorem dX8_filmed_43 : decode prog_10_method_88_code 43 = .ok (.istore 5, 2) := by decide +kernel
theorem dX8_filmed_45 : decode prog_10_method_88_code 45 = .ok (.iload 5, 2) := by decide +kernel
theorem dX8_filmed_47 : decode prog_10_method_88_code 47 = .ok (.bipush 40, 2) := by decide +kernel
theorem dX8_filmed_49 : decode prog_10_method_88_code 49 = .ok (.if_icmp .gt 134, 3) := by decide +kernel
theorem dX8_filmed_52 : decode prog_10_method_88_code 52 = .ok (.iconst 0, 1) := by decide +kernel
theorem dX8_filmed_53 : decode prog_10_method_88_code 53 = .ok (.istore 6, 2) := by decide +kernel
theorem dX8_filmed_55 : decode prog_10_method_88_code 55 = .ok (.iload 6, 2) := by decide +kernel
theorem dX8_filmed_57 : decode prog_10_method_88_code 57 = .ok (.aload_n 0, 1) := by decide +kernel
theorem dX8_filmed_58 : decode prog_10_method_88_code 58 = .ok (.getfield 7, 3) := by decide +kernel
theorem dX8_filmed_61 : decode prog_10_method_88_code 61 = .ok (.iconst 1, 1) := by decide +kernel
theorem dX8_filmed_62 : decode prog_10_method_88_code 62 = .ok (.iaload, 1) := by decide +kernel
theorem dX8_filmed_63 : decode prog_10_method_88_code 63 = .ok (.if_icmp .ge 25, 3) := by decide +kernel
theorem dX8_filmed_66 : decode prog_10_method_88_code 66 = .ok (.aload_n 0, 1) := by decide +kernel
theorem dX8_filmed_67 : decode prog_10_method_88_code 67 = .ok (.getfield 7, 3) := by decide +kernel
theorem dX8_filmed_70 : decode prog_10_method_88_code 70 = .ok (.bipush 42, 2) := by decide +kernel
theorem dX8_filmed_72 : decode prog_10_method_88_code 72 = .ok (.iconst 3, 1) := by decide +kernel
theorem dX8_filmed_73 : decode prog_10_method_88_code 73 = .ok (.iload 6, 2) := by decide +kernel
theorem dX8_filmed_75 : decode prog_10_method_88_code 75 = .ok (.imul, 1) := by decide +kernel
theorem dX8_filmed_76 : decode prog_10_method_88_code 76 = .ok (.iadd, 1) := by decide +kernel
theorem dX8_filmed_77 : decode prog_10_method_88_code 77 = .ok (.iconst 1, 1) := by decide +kernel
theorem dX8_filmed_78 : decode prog_10_method_88_code 78 = .ok (.iadd, 1) := by decide +kernel
theorem dX8_filmed_79 : decode prog_10_method_88_code 79 = .ok (.iload 5, 2) := by decide +kernel
theorem dX8_filmed_81 : decode prog_10_method_88_code 81 = .ok (.iastore, 1) := by decide +kernel
theorem dX8_filmed_82 : decode prog_10_method_88_code 82 = .ok (.iinc 6 1, 3) := by decide +kernel
theorem dX8_filmed_85 : decode prog_10_method_88_code 85 = .ok (.goto (-30), 3) := by decide +kernel
theorem dX8_filmed_88 : decode prog_10_method_88_code 88 = .ok (.iconst 0, 1) := by decide +kernel
theorem dX8_filmed_89 : decode prog_10_method_88_code 89 = .ok (.istore 6, 2) := by decide +kernel
theorem dX8_filmed_91 : decode prog_10_method_88_code 91 = .ok (.iconst 0, 1) := by decide +kernel
theorem dX8_filmed_92 : decode prog_10_method_88_code 92 = .ok (.istore 7, 2) := by decide +kernel
theorem dX8_filmed_94 : decode prog_10_method_88_code 94 = .ok (.iload 7, 2) := by decide +kernel
theorem dX8_filmed_96 : decode prog_10_method_88_code 96 = .ok (.aload_n 0, 1) := by decide +kernel
theorem dX8_filmed_97 : decode prog_10_method_88_code 97 = .ok (.getfield 22, 3) := by decide +kernel
theorem dX8_filmed_100 : decode prog_10_method_88_code 100 = .ok (.iload_n 1, 1) := by decide +kernel
theorem dX8_filmed_101 : decode prog_10_method_88_code 101 = .ok (.iaload, 1) := by decide +kernel
theorem dX8_filmed_102 : decode prog_10_method_88_code 102 = .ok (.if_icmp .ge 53, 3) := by decide +kernel
theorem dX8_filmed_105 : decode prog_10_method_88_code 105 = .ok (.aload_n 0, 1) := by decide +kernel
theorem dX8_filmed_106 : decode prog_10_method_88_code 106 = .ok (.getfield 25, 3) := by decide +kernel
theorem dX8_filmed_109 : decode prog_10_method_88_code 109 = .ok (.bipush 24, 2) := by decide +kernel
theorem dX8_filmed_111 : decode prog_10_method_88_code 111 = .ok (.iload_n 1, 1) := by decide +kernel
theorem dX8_filmed_112 : decode prog_10_method_88_code 112 = .ok (.imul, 1) := by decide +kernel
theorem dX8_filmed_113 : decode prog_10_method_88_code 113 = .ok (.iload 7, 2) := by decide +kernel
theorem dX8_filmed_115 : decode prog_10_method_88_code 115 = .ok (.iadd, 1) := by decide +kernel
theorem dX8_filmed_116 : decode prog_10_method_88_code 116 = .ok (.iaload, 1) := by decide +kernel
theorem dX8_filmed_117 : decode prog_10_method_88_code 117 = .ok (.istore 8, 2) := by decide +kernel
theorem dX8_filmed_119 : decode prog_10_method_88_code 119 = .ok (.aload_n 0, 1) := by decide +kernel
theorem dX8_filmed_120 : decode prog_10_method_88_code 120 = .ok (.invokevirtual 172, 3) := by decide +kernel
theorem dX8_filmed_123 : decode prog_10_method_88_code 123 = .ok (.istore 9, 2) := by decide +kernel
theorem dX8_filmed_125 : decode prog_10_method_88_code 125 = .ok (.iload 6, 2) := by decide +kernel
theorem dX8_filmed_127 : decode prog_10_method_88_code 127 = .ok (.iload 8, 2) := by decide +kernel
theorem dX8_filmed_129 : decode prog_10_method_88_code 129 = .ok (.ldc 64, 2) := by decide +kernel
theorem dX8_filmed_131 : decode prog_10_method_88_code 131 = .ok (.if_icmp .eq 10, 3) := by decide +kernel
theorem dX8_filmed_134 : decode prog_10_method_88_code 134 = .ok (.iload 8, 2) := by decide +kernel
theorem dX8_filmed_136 : decode prog_10_method_88_code 136 = .ok (.iload 9, 2) := by decide +kernel
theorem dX8_filmed_138 : decode prog_10_method_88_code 138 = .ok (.if_icmp .ne 7, 3) := by decide +kernel
theorem dX8_filmed_141 : decode prog_10_method_88_code 141 = .ok (.iconst 0, 1) := by decide +kernel
theorem dX8_filmed_142 : decode prog_10_method_88_code 142 = .ok (.goto 4, 3) := by decide +kernel
theorem dX8_filmed_145 : decode prog_10_method_88_code 145 = .ok (.iconst 1, 1) := by decide +kernel
theorem dX8_filmed_146 : decode prog_10_method_88_code 146 = .ok (.iadd, 1) := by decide +kernel
theorem dX8_filmed_147 : decode prog_10_method_88_code 147 = .ok (.istore 6, 2) := by decide +kernel
theorem dX8_filmed_149 : decode prog_10_method_88_code 149 = .ok (.iinc 7 1, 3) := by decide +kernel
theorem dX8_filmed_152 : decode prog_10_method_88_code 152 = .ok (.goto (-58), 3) := by decide +kernel
theorem dX8_filmed_155 : decode prog_10_method_88_code 155 = .ok (.aload_n 0, 1) := by decide +kernel
theorem dX8_filmed_156 : decode prog_10_method_88_code 156 = .ok (.invokevirtual 188, 3) := by decide +kernel
theorem dX8_filmed_159 : decode prog_10_method_88_code 159 = .ok (.iload_n 3, 1) := by decide +kernel
theorem dX8_filmed_160 : decode prog_10_method_88_code 160 = .ok (.ifCond .lt 10, 3) := by decide +kernel
theorem dX8_filmed_163 : decode prog_10_method_88_code 163 = .ok (.iload 6, 2) := by decide +kernel
theorem dX8_filmed_165 : decode prog_10_method_88_code 165 = .ok (.iload 4, 2) := by decide +kernel
theorem dX8_filmed_167 : decode prog_10_method_88_code 167 = .ok (.if_icmp .ge 10, 3) := by decide +kernel
theorem dX8_filmed_170 : decode prog_10_method_88_code 170 = .ok (.iload 5, 2) := by decide +kernel
theorem dX8_filmed_172 : decode prog_10_method_88_code 172 = .ok (.istore_n 3, 1) := by decide +kernel
theorem dX8_filmed_173 : decode prog_10_method_88_code 173 = .ok (.iload 6, 2) := by decide +kernel
theorem dX8_filmed_175 : decode prog_10_method_88_code 175 = .ok (.istore 4, 2) := by decide +kernel
theorem dX8_filmed_177 : decode prog_10_method_88_code 177 = .ok (.iinc 5 1, 3) := by decide +kernel
theorem dX8_filmed_180 : decode prog_10_method_88_code 180 = .ok (.goto (-135), 3) := by decide +kernel
theorem dX8_filmed_183 : decode prog_10_method_88_code 183 = .ok (.iload_n 2, 1) := by decide +kernel
theorem dX8_filmed_184 : decode prog_10_method_88_code 184 = .ok (.ifCond .ne 7, 3) := by decide +kernel
theorem dX8_filmed_187 : decode prog_10_method_88_code 187 = .ok (.iload_n 3, 1) := by decide +kernel
theorem dX8_filmed_188 : decode prog_10_method_88_code 188 = .ok (.goto 5, 3) := by decide +kernel
theorem dX8_filmed_191 : decode prog_10_method_88_code 191 = .ok (.iload 4, 2) := by decide +kernel
theorem dX8_filmed_193 : decode prog_10_method_88_code 193 = .ok (.ireturn, 1) := by decide +kernel
theorem dX8_copy_0 : decode prog_10_method_89_code 0 = .ok (.iload_n 1, 1) := by decide +kernel
theorem dX8_copy_1 : decode prog_10_method_89_code 1 = .ok (.invokestatic 295, 3) := by decide +kernel
theorem dX8_copy_4 : decode prog_10_method_89_code 4 = .ok (.ifCond .eq 10, 3) := by decide +kernel
theorem dX8_copy_7 : decode prog_10_method_89_code 7 = .ok (.iload_n 3, 1) := by decide +kernel
theorem dX8_copy_8 : decode prog_10_method_89_code 8 = .ok (.invokestatic 295, 3) := by decide +kernel
theorem dX8_copy_11 : decode prog_10_method_89_code 11 = .ok (.ifCond .ne 6, 3) := by decide +kernel
theorem dX8_copy_14 : decode prog_10_method_89_code 14 = .ok (.ldc 72, 2) := by decide +kernel
theorem dX8_copy_16 : decode prog_10_method_89_code 16 = .ok (.ireturn, 1) := by decide +kernel
theorem dX8_copy_17 : decode prog_10_method_89_code 17 = .ok (.aload_n 0, 1) := by decide +kernel
theorem dX8_copy_18 : decode prog_10_method_89_code 18 = .ok (.getfield 19, 3) := by decide +kernel
theorem dX8_copy_21 : decode prog_10_method_89_code 21 = .ok (.iload_n 1, 1) := by decide +kernel
theorem dX8_copy_22 : decode prog_10_method_89_code 22 = .ok (.iaload, 1) := by decide +kernel
theorem dX8_copy_23 : decode prog_10_method_89_code 23 = .ok (.ifCond .lt 12, 3) := by decide +kernel
theorem dX8_copy_26 : decode prog_10_method_89_code 26 = .ok (.aload_n 0, 1) := by decide +kernel
theorem dX8_copy_27 : decode prog_10_method_89_code 27 = .ok (.getfield 19, 3) := by decide +kernel
theorem dX8_copy_30 : decode prog_10_method_89_code 30 = .ok (.iload_n 3, 1) := by decide +kernel
theorem dX8_copy_31 : decode prog_10_method_89_code 31 = .ok (.iaload, 1) := by decide +kernel
theorem dX8_copy_32 : decode prog_10_method_89_code 32 = .ok (.ifCond .ge 7, 3) := by decide +kernel
theorem dX8_copy_35 : decode prog_10_method_89_code 35 = .ok (.ldc_w 301, 3) := by decide +kernel
theorem dX8_copy_38 : decode prog_10_method_89_code 38 = .ok (.ireturn, 1) := by decide +kernel
theorem dX8_copy_39 : decode prog_10_method_89_code 39 = .ok (.aload_n 0, 1) := by decide +kernel
theorem dX8_copy_40 : decode prog_10_method_89_code 40 = .ok (.getfield 19, 3) := by decide +kernel
theorem dX8_copy_43 : decode prog_10_method_89_code 43 = .ok (.iload_n 1, 1) := by decide +kernel
theorem dX8_copy_44 : decode prog_10_method_89_code 44 = .ok (.iaload, 1) := by decide +kernel
theorem dX8_copy_45 : decode prog_10_method_89_code 45 = .ok (.aload_n 0, 1) := by decide +kernel
theorem dX8_copy_46 : decode prog_10_method_89_code 46 = .ok (.getfield 19, 3) := by decide +kernel
theorem dX8_copy_49 : decode prog_10_method_89_code 49 = .ok (.iload_n 3, 1) := by decide +kernel
theorem dX8_copy_50 : decode prog_10_method_89_code 50 = .ok (.iaload, 1) := by decide +kernel
theorem dX8_copy_51 : decode prog_10_method_89_code 51 = .ok (.if_icmp .eq 6, 3) := by decide +kernel
theorem dX8_copy_54 : decode prog_10_method_89_code 54 = .ok (.ldc 140, 2) := by decide +kernel
theorem dX8_copy_56 : decode prog_10_method_89_code 56 = .ok (.ireturn, 1) := by decide +kernel
theorem dX8_copy_57 : decode prog_10_method_89_code 57 = .ok (.iload_n 2, 1) := by decide +kernel
theorem dX8_copy_58 : decode prog_10_method_89_code 58 = .ok (.ifCond .lt 48, 3) := by decide +kernel
theorem dX8_copy_61 : decode prog_10_method_89_code 61 = .ok (.iload 4, 2) := by decide +kernel
theorem dX8_copy_63 : decode prog_10_method_89_code 63 = .ok (.ifCond .lt 43, 3) := by decide +kernel
theorem dX8_copy_66 : decode prog_10_method_89_code 66 = .ok (.iload 5, 2) := by decide +kernel
theorem dX8_copy_68 : decode prog_10_method_89_code 68 = .ok (.ifCond .lt 38, 3) := by decide +kernel
theorem dX8_copy_71 : decode prog_10_method_89_code 71 = .ok (.iload_n 2, 1) := by decide +kernel
theorem dX8_copy_72 : decode prog_10_method_89_code 72 = .ok (.i2l, 1) := by decide +kernel
theorem dX8_copy_73 : decode prog_10_method_89_code 73 = .ok (.iload 5, 2) := by decide +kernel
theorem dX8_copy_75 : decode prog_10_method_89_code 75 = .ok (.i2l, 1) := by decide +kernel
theorem dX8_copy_76 : decode prog_10_method_89_code 76 = .ok (.ladd, 1) := by decide +kernel
theorem dX8_copy_77 : decode prog_10_method_89_code 77 = .ok (.aload_n 0, 1) := by decide +kernel
theorem dX8_copy_78 : decode prog_10_method_89_code 78 = .ok (.getfield 22, 3) := by decide +kernel
theorem dX8_copy_81 : decode prog_10_method_89_code 81 = .ok (.iload_n 1, 1) := by decide +kernel
theorem dX8_copy_82 : decode prog_10_method_89_code 82 = .ok (.iaload, 1) := by decide +kernel
theorem dX8_copy_83 : decode prog_10_method_89_code 83 = .ok (.i2l, 1) := by decide +kernel
theorem dX8_copy_84 : decode prog_10_method_89_code 84 = .ok (.lcmp, 1) := by decide +kernel
theorem dX8_copy_85 : decode prog_10_method_89_code 85 = .ok (.ifCond .gt 21, 3) := by decide +kernel
theorem dX8_copy_88 : decode prog_10_method_89_code 88 = .ok (.iload 4, 2) := by decide +kernel
theorem dX8_copy_90 : decode prog_10_method_89_code 90 = .ok (.i2l, 1) := by decide +kernel
theorem dX8_copy_91 : decode prog_10_method_89_code 91 = .ok (.iload 5, 2) := by decide +kernel
theorem dX8_copy_93 : decode prog_10_method_89_code 93 = .ok (.i2l, 1) := by decide +kernel
theorem dX8_copy_94 : decode prog_10_method_89_code 94 = .ok (.ladd, 1) := by decide +kernel
theorem dX8_copy_95 : decode prog_10_method_89_code 95 = .ok (.aload_n 0, 1) := by decide +kernel
theorem dX8_copy_96 : decode prog_10_method_89_code 96 = .ok (.getfield 22, 3) := by decide +kernel
theorem dX8_copy_99 : decode prog_10_method_89_code 99 = .ok (.iload_n 3, 1) := by decide +kernel
theorem dX8_copy_100 : decode prog_10_method_89_code 100 = .ok (.iaload, 1) := by decide +kernel
theorem dX8_copy_101 : decode prog_10_method_89_code 101 = .ok (.i2l, 1) := by decide +kernel
theorem dX8_copy_102 : decode prog_10_method_89_code 102 = .ok (.lcmp, 1) := by decide +kernel
theorem dX8_copy_103 : decode prog_10_method_89_code 103 = .ok (.ifCond .le 7, 3) := by decide +kernel
theorem dX8_copy_106 : decode prog_10_method_89_code 106 = .ok (.ldc_w 302, 3) := by decide +kernel
theorem dX8_copy_109 : decode prog_10_method_89_code 109 = .ok (.ireturn, 1) := by decide +kernel
theorem dX8_copy_110 : decode prog_10_method_89_code 110 = .ok (.iconst 0, 1) := by decide +kernel
theorem dX8_copy_111 : decode prog_10_method_89_code 111 = .ok (.istore 6, 2) := by decide +kernel
theorem dX8_copy_113 : decode prog_10_method_89_code 113 = .ok (.iload 6, 2) := by decide +kernel
theorem dX8_copy_115 : decode prog_10_method_89_code 115 = .ok (.iload 5, 2) := by decide +kernel
theorem dX8_copy_117 : decode prog_10_method_89_code 117 = .ok (.if_icmp .ge 30, 3) := by decide +kernel
theorem dX8_copy_120 : decode prog_10_method_89_code 120 = .ok (.aload_n 0, 1) := by decide +kernel
theorem dX8_copy_121 : decode prog_10_method_89_code 121 = .ok (.getfield 55, 3) := by decide +kernel
theorem dX8_copy_124 : decode prog_10_method_89_code 124 = .ok (.iload 6, 2) := by decide +kernel
theorem dX8_copy_126 : decode prog_10_method_89_code 126 = .ok (.aload_n 0, 1) := by decide +kernel
theorem dX8_copy_127 : decode prog_10_method_89_code 127 = .ok (.getfield 25, 3) := by decide +kernel
theorem dX8_copy_130 : decode prog_10_method_89_code 130 = .ok (.bipush 24, 2) := by decide +kernel
theorem dX8_copy_132 : decode prog_10_method_89_code 132 = .ok (.iload_n 1, 1) := by decide +kernel
theorem dX8_copy_133 : decode prog_10_method_89_code 133 = .ok (.imul, 1) := by decide +kernel
theorem dX8_copy_134 : decode prog_10_method_89_code 134 = .ok (.iload_n 2, 1) := by decide +kernel
theorem dX8_copy_135 : decode prog_10_method_89_code 135 = .ok (.iadd, 1) := by decide +kernel
theorem dX8_copy_136 : decode prog_10_method_89_code 136 = .ok (.iload 6, 2) := by decide +kernel
theorem dX8_copy_138 : decode prog_10_method_89_code 138 = .ok (.iadd, 1) := by decide +kernel
theorem dX8_copy_139 : decode prog_10_method_89_code 139 = .ok (.iaload, 1) := by decide +kernel
theorem dX8_copy_140 : decode prog_10_method_89_code 140 = .ok (.iastore, 1) := by decide +kernel
theorem dX8_copy_141 : decode prog_10_method_89_code 141 = .ok (.iinc 6 1, 3) := by decide +kernel
theorem dX8_copy_144 : decode prog_10_method_89_code 144 = .ok (.goto (-31), 3) := by decide +kernel
theorem dX8_copy_147 : decode prog_10_method_89_code 147 = .ok (.iconst 0, 1) := by decide +kernel
theorem dX8_copy_148 : decode prog_10_method_89_code 148 = .ok (.istore 6, 2) := by decide +kernel
theorem dX8_copy_150 : decode prog_10_method_89_code 150 = .ok (.iload 6, 2) := by decide +kernel
theorem dX8_copy_152 : decode prog_10_method_89_code 152 = .ok (.iload 5, 2) := by decide +kernel
theorem dX8_copy_154 : decode prog_10_method_89_code 154 = .ok (.if_icmp .ge 31, 3) := by decide +kernel
theorem dX8_copy_157 : decode prog_10_method_89_code 157 = .ok (.aload_n 0, 1) := by decide +kernel
theorem dX8_copy_158 : decode prog_10_method_89_code 158 = .ok (.getfield 25, 3) := by decide +kernel
theorem dX8_copy_161 : decode prog_10_method_89_code 161 = .ok (.bipush 24, 2) := by decide +kernel
theorem dX8_copy_163 : decode prog_10_method_89_code 163 = .ok (.iload_n 3, 1) := by decide +kernel
theorem dX8_copy_164 : decode prog_10_method_89_code 164 = .ok (.imul, 1) := by decide +kernel
theorem dX8_copy_165 : decode prog_10_method_89_code 165 = .ok (.iload 4, 2) := by decide +kernel
theorem dX8_copy_167 : decode prog_10_method_89_code 167 = .ok (.iadd, 1) := by decide +kernel
theorem dX8_copy_168 : decode prog_10_method_89_code 168 = .ok (.iload 6, 2) := by decide +kernel
theorem dX8_copy_170 : decode prog_10_method_89_code 170 = .ok (.iadd, 1) := by decide +kernel
theorem dX8_copy_171 : decode prog_10_method_89_code 171 = .ok (.aload_n 0, 1) := by decide +kernel
theorem dX8_copy_172 : decode prog_10_method_89_code 172 = .ok (.getfield 55, 3) := by decide +kernel
theorem dX8_copy_175 : decode prog_10_method_89_code 175 = .ok (.iload 6, 2) := by decide +kernel
theorem dX8_copy_177 : decode prog_10_method_89_code 177 = .ok (.iaload, 1) := by decide +kernel
theorem dX8_copy_178 : decode prog_10_method_89_code 178 = .ok (.iastore, 1) := by decide +kernel
theorem dX8_copy_179 : decode prog_10_method_89_code 179 = .ok (.iinc 6 1, 3) := by decide +kernel
theorem dX8_copy_182 : decode prog_10_method_89_code 182 = .ok (.goto (-32), 3) := by decide +kernel
theorem dX8_copy_185 : decode prog_10_method_89_code 185 = .ok (.iload 5, 2) := by decide +kernel
theorem dX8_copy_187 : decode prog_10_method_89_code 187 = .ok (.ireturn, 1) := by decide +kernel
theorem dX8_isSlot_0 : decode prog_10_method_90_code 0 = .ok (.iload_n 0, 1) := by decide +kernel
theorem dX8_isSlot_1 : decode prog_10_method_90_code 1 = .ok (.i2l, 1) := by decide +kernel
theorem dX8_isSlot_2 : decode prog_10_method_90_code 2 = .ok (.lconst 0, 1) := by decide +kernel
theorem dX8_isSlot_3 : decode prog_10_method_90_code 3 = .ok (.ldc2_w 307, 3) := by decide +kernel
theorem dX8_isSlot_6 : decode prog_10_method_90_code 6 = .ok (.invokestatic 65, 3) := by decide +kernel
theorem dX8_isSlot_9 : decode prog_10_method_90_code 9 = .ok (.ireturn, 1) := by decide +kernel
theorem dX8_lay_0 : decode prog_10_method_91_code 0 = .ok (.iload_n 2, 1) := by decide +kernel
theorem dX8_lay_1 : decode prog_10_method_91_code 1 = .ok (.ifCond .eq 33, 3) := by decide +kernel
theorem dX8_lay_4 : decode prog_10_method_91_code 4 = .ok (.iload_n 2, 1) := by decide +kernel
theorem dX8_lay_5 : decode prog_10_method_91_code 5 = .ok (.iconst 3, 1) := by decide +kernel
theorem dX8_lay_6 : decode prog_10_method_91_code 6 = .ok (.if_icmp .eq 28, 3) := by decide +kernel
theorem dX8_lay_9 : decode prog_10_method_91_code 9 = .ok (.iload_n 2, 1) := by decide +kernel
theorem dX8_lay_10 : decode prog_10_method_91_code 10 = .ok (.iconst 1, 1) := by decide +kernel
theorem dX8_lay_11 : decode prog_10_method_91_code 11 = .ok (.if_icmp .ne 11, 3) := by decide +kernel
theorem dX8_lay_14 : decode prog_10_method_91_code 14 = .ok (.aload_n 0, 1) := by decide +kernel
theorem dX8_lay_15 : decode prog_10_method_91_code 15 = .ok (.iload_n 3, 1) := by decide +kernel
theorem dX8_lay_16 : decode prog_10_method_91_code 16 = .ok (.invokevirtual 127, 3) := by decide +kernel
theorem dX8_lay_19 : decode prog_10_method_91_code 19 = .ok (.ifCond .ne 15, 3) := by decide +kernel
theorem dX8_lay_22 : decode prog_10_method_91_code 22 = .ok (.iload_n 2, 1) := by decide +kernel
theorem dX8_lay_23 : decode prog_10_method_91_code 23 = .ok (.iconst 2, 1) := by decide +kernel
theorem dX8_lay_24 : decode prog_10_method_91_code 24 = .ok (.if_icmp .ne 14, 3) := by decide +kernel
theorem dX8_lay_27 : decode prog_10_method_91_code 27 = .ok (.iload_n 3, 1) := by decide +kernel
theorem dX8_lay_28 : decode prog_10_method_91_code 28 = .ok (.invokestatic 295, 3) := by decide +kernel
theorem dX8_lay_31 : decode prog_10_method_91_code 31 = .ok (.ifCond .eq 7, 3) := by decide +kernel
theorem dX8_lay_34 : decode prog_10_method_91_code 34 = .ok (.iconst 1, 1) := by decide +kernel
theorem dX8_lay_35 : decode prog_10_method_91_code 35 = .ok (.goto 4, 3) := by decide +kernel
theorem dX8_lay_38 : decode prog_10_method_91_code 38 = .ok (.iconst 0, 1) := by decide +kernel
theorem dX8_lay_39 : decode prog_10_method_91_code 39 = .ok (.istore 4, 2) := by decide +kernel
theorem dX8_lay_41 : decode prog_10_method_91_code 41 = .ok (.iload_n 1, 1) := by decide +kernel
theorem dX8_lay_42 : decode prog_10_method_91_code 42 = .ok (.invokestatic 309, 3) := by decide +kernel
theorem dX8_lay_45 : decode prog_10_method_91_code 45 = .ok (.ifCond .eq 8, 3) := by decide +kernel
theorem dX8_lay_48 : decode prog_10_method_91_code 48 = .ok (.iload 4, 2) := by decide +kernel
theorem dX8_lay_50 : decode prog_10_method_91_code 50 = .ok (.ifCond .ne 6, 3) := by decide +kernel
theorem dX8_lay_53 : decode prog_10_method_91_code 53 = .ok (.ldc 72, 2) := by decide +kernel
theorem dX8_lay_55 : decode prog_10_method_91_code 55 = .ok (.ireturn, 1) := by decide +kernel
theorem dX8_lay_56 : decode prog_10_method_91_code 56 = .ok (.iload_n 2, 1) := by decide +kernel
theorem dX8_lay_57 : decode prog_10_method_91_code 57 = .ok (.iconst 2, 1) := by decide +kernel
theorem dX8_lay_58 : decode prog_10_method_91_code 58 = .ok (.if_icmp .ne 16, 3) := by decide +kernel
theorem dX8_lay_61 : decode prog_10_method_91_code 61 = .ok (.aload_n 0, 1) := by decide +kernel
theorem dX8_lay_62 : decode prog_10_method_91_code 62 = .ok (.getfield 19, 3) := by decide +kernel
theorem dX8_lay_65 : decode prog_10_method_91_code 65 = .ok (.iload_n 3, 1) := by decide +kernel
theorem dX8_lay_66 : decode prog_10_method_91_code 66 = .ok (.iaload, 1) := by decide +kernel
theorem dX8_lay_67 : decode prog_10_method_91_code 67 = .ok (.ifCond .ge 7, 3) := by decide +kernel
theorem dX8_lay_70 : decode prog_10_method_91_code 70 = .ok (.ldc_w 301, 3) := by decide +kernel
theorem dX8_lay_73 : decode prog_10_method_91_code 73 = .ok (.ireturn, 1) := by decide +kernel
theorem dX8_lay_74 : decode prog_10_method_91_code 74 = .ok (.aload_n 0, 1) := by decide +kernel
theorem dX8_lay_75 : decode prog_10_method_91_code 75 = .ok (.getfield 28, 3) := by decide +kernel
theorem dX8_lay_78 : decode prog_10_method_91_code 78 = .ok (.iload_n 1, 1) := by decide +kernel
theorem dX8_lay_79 : decode prog_10_method_91_code 79 = .ok (.iaload, 1) := by decide +kernel
theorem dX8_lay_80 : decode prog_10_method_91_code 80 = .ok (.istore 5, 2) := by decide +kernel
theorem dX8_lay_82 : decode prog_10_method_91_code 82 = .ok (.aload_n 0, 1) := by decide +kernel
theorem dX8_lay_83 : decode prog_10_method_91_code 83 = .ok (.getfield 28, 3) := by decide +kernel
theorem dX8_lay_86 : decode prog_10_method_91_code 86 = .ok (.iload_n 1, 1) := by decide +kernel
theorem dX8_lay_87 : decode prog_10_method_91_code 87 = .ok (.iload_n 2, 1) := by decide +kernel
theorem dX8_lay_88 : decode prog_10_method_91_code 88 = .ok (.iastore, 1) := by decide +kernel
theorem dX8_lay_89 : decode prog_10_method_91_code 89 = .ok (.aload_n 0, 1) := by decide +kernel
theorem dX8_lay_90 : decode prog_10_method_91_code 90 = .ok (.getfield 31, 3) := by decide +kernel
theorem dX8_lay_93 : decode prog_10_method_91_code 93 = .ok (.iload_n 1, 1) := by decide +kernel
theorem dX8_lay_94 : decode prog_10_method_91_code 94 = .ok (.iload_n 2, 1) := by decide +kernel
theorem dX8_lay_95 : decode prog_10_method_91_code 95 = .ok (.iconst 1, 1) := by decide +kernel
theorem dX8_lay_96 : decode prog_10_method_91_code 96 = .ok (.if_icmp .ne 12, 3) := by decide +kernel
theorem dX8_lay_99 : decode prog_10_method_91_code 99 = .ok (.aload_n 0, 1) := by decide +kernel
theorem dX8_lay_100 : decode prog_10_method_91_code 100 = .ok (.iload_n 3, 1) := by decide +kernel
theorem dX8_lay_101 : decode prog_10_method_91_code 101 = .ok (.iconst 0, 1) := by decide +kernel
theorem dX8_lay_102 : decode prog_10_method_91_code 102 = .ok (.invokevirtual 121, 3) := by decide +kernel
theorem dX8_lay_105 : decode prog_10_method_91_code 105 = .ok (.goto 4, 3) := by decide +kernel
theorem dX8_lay_108 : decode prog_10_method_91_code 108 = .ok (.iload_n 3, 1) := by decide +kernel
theorem dX8_lay_109 : decode prog_10_method_91_code 109 = .ok (.iastore, 1) := by decide +kernel
theorem dX8_lay_110 : decode prog_10_method_91_code 110 = .ok (.aload_n 0, 1) := by decide +kernel
theorem dX8_lay_111 : decode prog_10_method_91_code 111 = .ok (.getfield 34, 3) := by decide +kernel
theorem dX8_lay_114 : decode prog_10_method_91_code 114 = .ok (.iload_n 1, 1) := by decide +kernel
theorem dX8_lay_115 : decode prog_10_method_91_code 115 = .ok (.iload_n 2, 1) := by decide +kernel
theorem dX8_lay_116 : decode prog_10_method_91_code 116 = .ok (.iconst 1, 1) := by decide +kernel
theorem dX8_lay_117 : decode prog_10_method_91_code 117 = .ok (.if_icmp .ne 11, 3) := by decide +kernel
theorem dX8_lay_120 : decode prog_10_method_91_code 120 = .ok (.aload_n 0, 1) := by decide +kernel
theorem dX8_lay_121 : decode prog_10_method_91_code 121 = .ok (.iload_n 3, 1) := by decide +kernel
theorem dX8_lay_122 : decode prog_10_method_91_code 122 = .ok (.invokevirtual 133, 3) := by decide +kernel
theorem dX8_lay_125 : decode prog_10_method_91_code 125 = .ok (.goto 4, 3) := by decide +kernel
theorem dX8_lay_128 : decode prog_10_method_91_code 128 = .ok (.iconst 0, 1) := by decide +kernel
theorem dX8_lay_129 : decode prog_10_method_91_code 129 = .ok (.iastore, 1) := by decide +kernel
theorem dX8_lay_130 : decode prog_10_method_91_code 130 = .ok (.iload_n 2, 1) := by decide +kernel
theorem dX8_lay_131 : decode prog_10_method_91_code 131 = .ok (.iconst 2, 1) := by decide +kernel
theorem dX8_lay_132 : decode prog_10_method_91_code 132 = .ok (.if_icmp .ne 55, 3) := by decide +kernel
theorem dX8_lay_135 : decode prog_10_method_91_code 135 = .ok (.aload_n 0, 1) := by decide +kernel
theorem dX8_lay_136 : decode prog_10_method_91_code 136 = .ok (.getfield 37, 3) := by decide +kernel
theorem dX8_lay_139 : decode prog_10_method_91_code 139 = .ok (.iload_n 1, 1) := by decide +kernel
theorem dX8_lay_140 : decode prog_10_method_91_code 140 = .ok (.aload_n 0, 1) := by decide +kernel
theorem dX8_lay_141 : decode prog_10_method_91_code 141 = .ok (.getfield 22, 3) := by decide +kernel
theorem dX8_lay_144 : decode prog_10_method_91_code 144 = .ok (.iload_n 3, 1) := by decide +kernel
theorem dX8_lay_145 : decode prog_10_method_91_code 145 = .ok (.iaload, 1) := by decide +kernel
theorem dX8_lay_146 : decode prog_10_method_91_code 146 = .ok (.iastore, 1) := by decide +kernel
theorem dX8_lay_147 : decode prog_10_method_91_code 147 = .ok (.iconst 0, 1) := by decide +kernel
theorem dX8_lay_148 : decode prog_10_method_91_code 148 = .ok (.istore 6, 2) := by decide +kernel
theorem dX8_lay_150 : decode prog_10_method_91_code 150 = .ok (.iload 6, 2) := by decide +kernel
theorem dX8_lay_152 : decode prog_10_method_91_code 152 = .ok (.bipush 24, 2) := by decide +kernel
theorem dX8_lay_154 : decode prog_10_method_91_code 154 = .ok (.if_icmp .ge 33, 3) := by decide +kernel
theorem dX8_lay_157 : decode prog_10_method_91_code 157 = .ok (.aload_n 0, 1) := by decide +kernel
theorem dX8_lay_158 : decode prog_10_method_91_code 158 = .ok (.getfield 40, 3) := by decide +kernel
theorem dX8_lay_161 : decode prog_10_method_91_code 161 = .ok (.bipush 24, 2) := by decide +kernel
theorem dX8_lay_163 : decode prog_10_method_91_code 163 = .ok (.iload_n 1, 1) := by decide +kernel
theorem dX8_lay_164 : decode prog_10_method_91_code 164 = .ok (.imul, 1) := by decide +kernel
theorem dX8_lay_165 : decode prog_10_method_91_code 165 = .ok (.iload 6, 2) := by decide +kernel
theorem dX8_lay_167 : decode prog_10_method_91_code 167 = .ok (.iadd, 1) := by decide +kernel
theorem dX8_lay_168 : decode prog_10_method_91_code 168 = .ok (.aload_n 0, 1) := by decide +kernel
theorem dX8_lay_169 : decode prog_10_method_91_code 169 = .ok (.getfield 25, 3) := by decide +kernel
theorem dX8_lay_172 : decode prog_10_method_91_code 172 = .ok (.bipush 24, 2) := by decide +kernel
theorem dX8_lay_174 : decode prog_10_method_91_code 174 = .ok (.iload_n 3, 1) := by decide +kernel
theorem dX8_lay_175 : decode prog_10_method_91_code 175 = .ok (.imul, 1) := by decide +kernel
theorem dX8_lay_176 : decode prog_10_method_91_code 176 = .ok (.iload 6, 2) := by decide +kernel
theorem dX8_lay_178 : decode prog_10_method_91_code 178 = .ok (.iadd, 1) := by decide +kernel
theorem dX8_lay_179 : decode prog_10_method_91_code 179 = .ok (.iaload, 1) := by decide +kernel
theorem dX8_lay_180 : decode prog_10_method_91_code 180 = .ok (.iastore, 1) := by decide +kernel
theorem dX8_lay_181 : decode prog_10_method_91_code 181 = .ok (.iinc 6 1, 3) := by decide +kernel
theorem dX8_lay_184 : decode prog_10_method_91_code 184 = .ok (.goto (-34), 3) := by decide +kernel
theorem dX8_lay_187 : decode prog_10_method_91_code 187 = .ok (.iload 5, 2) := by decide +kernel
theorem dX8_lay_189 : decode prog_10_method_91_code 189 = .ok (.ireturn, 1) := by decide +kernel
theorem dX8_ask_0 : decode prog_10_method_92_code 0 = .ok (.iload_n 1, 1) := by decide +kernel
theorem dX8_ask_1 : decode prog_10_method_92_code 1 = .ok (.invokestatic 309, 3) := by decide +kernel
theorem dX8_ask_4 : decode prog_10_method_92_code 4 = .ok (.ifCond .eq 15, 3) := by decide +kernel
theorem dX8_ask_7 : decode prog_10_method_92_code 7 = .ok (.iload_n 2, 1) := by decide +kernel
theorem dX8_ask_8 : decode prog_10_method_92_code 8 = .ok (.i2l, 1) := by decide +kernel
theorem dX8_ask_9 : decode prog_10_method_92_code 9 = .ok (.lconst 0, 1) := by decide +kernel
theorem dX8_ask_10 : decode prog_10_method_92_code 10 = .ok (.ldc2_w 115, 3) := by decide +kernel
theorem dX8_ask_13 : decode prog_10_method_92_code 13 = .ok (.invokestatic 65, 3) := by decide +kernel
theorem dX8_ask_16 : decode prog_10_method_92_code 16 = .ok (.ifCond .ne 6, 3) := by decide +kernel
theorem dX8_ask_19 : decode prog_10_method_92_code 19 = .ok (.ldc 72, 2) := by decide +kernel
theorem dX8_ask_21 : decode prog_10_method_92_code 21 = .ok (.ireturn, 1) := by decide +kernel
theorem dX8_ask_22 : decode prog_10_method_92_code 22 = .ok (.aload_n 0, 1) := by decide +kernel
theorem dX8_ask_23 : decode prog_10_method_92_code 23 = .ok (.getfield 28, 3) := by decide +kernel
theorem dX8_ask_26 : decode prog_10_method_92_code 26 = .ok (.iload_n 1, 1) := by decide +kernel
theorem dX8_ask_27 : decode prog_10_method_92_code 27 = .ok (.iaload, 1) := by decide +kernel
theorem dX8_ask_28 : decode prog_10_method_92_code 28 = .ok (.ifCond .ne 7, 3) := by decide +kernel
theorem dX8_ask_31 : decode prog_10_method_92_code 31 = .ok (.ldc_w 301, 3) := by decide +kernel
theorem dX8_ask_34 : decode prog_10_method_92_code 34 = .ok (.ireturn, 1) := by decide +kernel
theorem dX8_ask_35 : decode prog_10_method_92_code 35 = .ok (.aload_n 0, 1) := by decide +kernel
theorem dX8_ask_36 : decode prog_10_method_92_code 36 = .ok (.getfield 28, 3) := by decide +kernel
theorem dX8_ask_39 : decode prog_10_method_92_code 39 = .ok (.iload_n 1, 1) := by decide +kernel
theorem dX8_ask_40 : decode prog_10_method_92_code 40 = .ok (.iaload, 1) := by decide +kernel
theorem dX8_ask_41 : decode prog_10_method_92_code 41 = .ok (.iconst 1, 1) := by decide +kernel
theorem dX8_ask_42 : decode prog_10_method_92_code 42 = .ok (.if_icmp .ne 25, 3) := by decide +kernel
theorem dX8_ask_45 : decode prog_10_method_92_code 45 = .ok (.aload_n 0, 1) := by decide +kernel
theorem dX8_ask_46 : decode prog_10_method_92_code 46 = .ok (.getfield 31, 3) := by decide +kernel
theorem dX8_ask_49 : decode prog_10_method_92_code 49 = .ok (.iload_n 1, 1) := by decide +kernel
theorem dX8_ask_50 : decode prog_10_method_92_code 50 = .ok (.iaload, 1) := by decide +kernel
theorem dX8_ask_51 : decode prog_10_method_92_code 51 = .ok (.iload_n 2, 1) := by decide +kernel
theorem dX8_ask_52 : decode prog_10_method_92_code 52 = .ok (.invokestatic 136, 3) := by decide +kernel
theorem dX8_ask_55 : decode prog_10_method_92_code 55 = .ok (.ifCond .eq 12, 3) := by decide +kernel
theorem dX8_ask_58 : decode prog_10_method_92_code 58 = .ok (.aload_n 0, 1) := by decide +kernel
theorem dX8_ask_59 : decode prog_10_method_92_code 59 = .ok (.getfield 34, 3) := by decide +kernel
theorem dX8_ask_62 : decode prog_10_method_92_code 62 = .ok (.iload_n 1, 1) := by decide +kernel
theorem dX8_ask_63 : decode prog_10_method_92_code 63 = .ok (.iaload, 1) := by decide +kernel
theorem dX8_ask_64 : decode prog_10_method_92_code 64 = .ok (.goto 5, 3) := by decide +kernel
theorem dX8_ask_67 : decode prog_10_method_92_code 67 = .ok (.ldc 140, 2) := by decide +kernel
theorem dX8_ask_69 : decode prog_10_method_92_code 69 = .ok (.ireturn, 1) := by decide +kernel
theorem dX8_item_0 : decode prog_10_method_93_code 0 = .ok (.iload_n 1, 1) := by decide +kernel
theorem dX8_item_1 : decode prog_10_method_93_code 1 = .ok (.invokestatic 309, 3) := by decide +kernel
theorem dX8_item_4 : decode prog_10_method_93_code 4 = .ok (.ifCond .ne 6, 3) := by decide +kernel
theorem dX8_item_7 : decode prog_10_method_93_code 7 = .ok (.ldc 72, 2) := by decide +kernel
theorem dX8_item_9 : decode prog_10_method_93_code 9 = .ok (.ireturn, 1) := by decide +kernel
theorem dX8_item_10 : decode prog_10_method_93_code 10 = .ok (.aload_n 0, 1) := by decide +kernel
theorem dX8_item_11 : decode prog_10_method_93_code 11 = .ok (.getfield 28, 3) := by decide +kernel
theorem dX8_item_14 : decode prog_10_method_93_code 14 = .ok (.iload_n 1, 1) := by decide +kernel
theorem dX8_item_15 : decode prog_10_method_93_code 15 = .ok (.iaload, 1) := by decide +kernel
theorem dX8_item_16 : decode prog_10_method_93_code 16 = .ok (.iconst 2, 1) := by decide +kernel
theorem dX8_item_17 : decode prog_10_method_93_code 17 = .ok (.if_icmp .eq 21, 3) := by decide +kernel
theorem dX8_item_20 : decode prog_10_method_93_code 20 = .ok (.aload_n 0, 1) := by decide +kernel
theorem dX8_item_21 : decode prog_10_method_93_code 21 = .ok (.getfield 28, 3) := by decide +kernel
theorem dX8_item_24 : decode prog_10_method_93_code 24 = .ok (.iload_n 1, 1) := by decide +kernel
theorem dX8_item_25 : decode prog_10_method_93_code 25 = .ok (.iaload, 1) := by decide +kernel
theorem dX8_item_26 : decode prog_10_method_93_code 26 = .ok (.ifCond .ne 9, 3) := by decide +kernel
theorem dX8_item_29 : decode prog_10_method_93_code 29 = .ok (.ldc_w 301, 3) := by decide +kernel
theorem dX8_item_32 : decode prog_10_method_93_code 32 = .ok (.goto 5, 3) := by decide +kernel
theorem dX8_item_35 : decode prog_10_method_93_code 35 = .ok (.ldc 140, 2) := by decide +kernel
theorem dX8_item_37 : decode prog_10_method_93_code 37 = .ok (.ireturn, 1) := by decide +kernel
theorem dX8_item_38 : decode prog_10_method_93_code 38 = .ok (.iload_n 2, 1) := by decide +kernel
theorem dX8_item_39 : decode prog_10_method_93_code 39 = .ok (.i2l, 1) := by decide +kernel
theorem dX8_item_40 : decode prog_10_method_93_code 40 = .ok (.lconst 0, 1) := by decide +kernel
theorem dX8_item_41 : decode prog_10_method_93_code 41 = .ok (.aload_n 0, 1) := by decide +kernel
theorem dX8_item_42 : decode prog_10_method_93_code 42 = .ok (.getfield 37, 3) := by decide +kernel
theorem dX8_item_45 : decode prog_10_method_93_code 45 = .ok (.iload_n 1, 1) := by decide +kernel
theorem dX8_item_46 : decode prog_10_method_93_code 46 = .ok (.iaload, 1) := by decide +kernel
theorem dX8_item_47 : decode prog_10_method_93_code 47 = .ok (.iconst 1, 1) := by decide +kernel
theorem dX8_item_48 : decode prog_10_method_93_code 48 = .ok (.isub, 1) := by decide +kernel
theorem dX8_item_49 : decode prog_10_method_93_code 49 = .ok (.i2l, 1) := by decide +kernel
theorem dX8_item_50 : decode prog_10_method_93_code 50 = .ok (.invokestatic 65, 3) := by decide +kernel
theorem dX8_item_53 : decode prog_10_method_93_code 53 = .ok (.ifCond .ne 7, 3) := by decide +kernel
theorem dX8_item_56 : decode prog_10_method_93_code 56 = .ok (.ldc_w 302, 3) := by decide +kernel
theorem dX8_item_59 : decode prog_10_method_93_code 59 = .ok (.ireturn, 1) := by decide +kernel
theorem dX8_item_60 : decode prog_10_method_93_code 60 = .ok (.aload_n 0, 1) := by decide +kernel
theorem dX8_item_61 : decode prog_10_method_93_code 61 = .ok (.getfield 40, 3) := by decide +kernel
theorem dX8_item_64 : decode prog_10_method_93_code 64 = .ok (.bipush 24, 2) := by decide +kernel
theorem dX8_item_66 : decode prog_10_method_93_code 66 = .ok (.iload_n 1, 1) := by decide +kernel
theorem dX8_item_67 : decode prog_10_method_93_code 67 = .ok (.imul, 1) := by decide +kernel
theorem dX8_item_68 : decode prog_10_method_93_code 68 = .ok (.iload_n 2, 1) := by decide +kernel
theorem dX8_item_69 : decode prog_10_method_93_code 69 = .ok (.iadd, 1) := by decide +kernel
theorem dX8_item_70 : decode prog_10_method_93_code 70 = .ok (.iaload, 1) := by decide +kernel
theorem dX8_item_71 : decode prog_10_method_93_code 71 = .ok (.istore_n 3, 1) := by decide +kernel
theorem dX8_item_72 : decode prog_10_method_93_code 72 = .ok (.iload_n 3, 1) := by decide +kernel
theorem dX8_item_73 : decode prog_10_method_93_code 73 = .ok (.ldc 64, 2) := by decide +kernel
theorem dX8_item_75 : decode prog_10_method_93_code 75 = .ok (.if_icmp .ne 8, 3) := by decide +kernel
theorem dX8_item_78 : decode prog_10_method_93_code 78 = .ok (.ldc 140, 2) := by decide +kernel
theorem dX8_item_80 : decode prog_10_method_93_code 80 = .ok (.goto 4, 3) := by decide +kernel
theorem dX8_item_83 : decode prog_10_method_93_code 83 = .ok (.iload_n 3, 1) := by decide +kernel
theorem dX8_item_84 : decode prog_10_method_93_code 84 = .ok (.ireturn, 1) := by decide +kernel
theorem dX8_rest_0 : decode prog_10_method_94_code 0 = .ok (.iload_n 1, 1) := by decide +kernel
theorem dX8_rest_1 : decode prog_10_method_94_code 1 = .ok (.invokestatic 309, 3) := by decide +kernel
theorem dX8_rest_4 : decode prog_10_method_94_code 4 = .ok (.ifCond .ne 6, 3) := by decide +kernel
theorem dX8_rest_7 : decode prog_10_method_94_code 7 = .ok (.ldc 72, 2) := by decide +kernel
theorem dX8_rest_9 : decode prog_10_method_94_code 9 = .ok (.ireturn, 1) := by decide +kernel
theorem dX8_rest_10 : decode prog_10_method_94_code 10 = .ok (.aload_n 0, 1) := by decide +kernel
theorem dX8_rest_11 : decode prog_10_method_94_code 11 = .ok (.getfield 28, 3) := by decide +kernel
theorem dX8_rest_14 : decode prog_10_method_94_code 14 = .ok (.iload_n 1, 1) := by decide +kernel
theorem dX8_rest_15 : decode prog_10_method_94_code 15 = .ok (.iaload, 1) := by decide +kernel
theorem dX8_rest_16 : decode prog_10_method_94_code 16 = .ok (.iconst 3, 1) := by decide +kernel
theorem dX8_rest_17 : decode prog_10_method_94_code 17 = .ok (.if_icmp .eq 21, 3) := by decide +kernel
theorem dX8_rest_20 : decode prog_10_method_94_code 20 = .ok (.aload_n 0, 1) := by decide +kernel
theorem dX8_rest_21 : decode prog_10_method_94_code 21 = .ok (.getfield 28, 3) := by decide +kernel
theorem dX8_rest_24 : decode prog_10_method_94_code 24 = .ok (.iload_n 1, 1) := by decide +kernel
theorem dX8_rest_25 : decode prog_10_method_94_code 25 = .ok (.iaload, 1) := by decide +kernel
theorem dX8_rest_26 : decode prog_10_method_94_code 26 = .ok (.ifCond .ne 9, 3) := by decide +kernel
theorem dX8_rest_29 : decode prog_10_method_94_code 29 = .ok (.ldc_w 301, 3) := by decide +kernel
theorem dX8_rest_32 : decode prog_10_method_94_code 32 = .ok (.goto 5, 3) := by decide +kernel
theorem dX8_rest_35 : decode prog_10_method_94_code 35 = .ok (.ldc 140, 2) := by decide +kernel
theorem dX8_rest_37 : decode prog_10_method_94_code 37 = .ok (.ireturn, 1) := by decide +kernel
theorem dX8_rest_38 : decode prog_10_method_94_code 38 = .ok (.iload_n 2, 1) := by decide +kernel
theorem dX8_rest_39 : decode prog_10_method_94_code 39 = .ok (.ifCond .ne 8, 3) := by decide +kernel
theorem dX8_rest_42 : decode prog_10_method_94_code 42 = .ok (.ldc 175, 2) := by decide +kernel
theorem dX8_rest_44 : decode prog_10_method_94_code 44 = .ok (.goto 11, 3) := by decide +kernel
theorem dX8_rest_47 : decode prog_10_method_94_code 47 = .ok (.aload_n 0, 1) := by decide +kernel
theorem dX8_rest_48 : decode prog_10_method_94_code 48 = .ok (.getfield 31, 3) := by decide +kernel
theorem dX8_rest_51 : decode prog_10_method_94_code 51 = .ok (.iload_n 1, 1) := by decide +kernel
theorem dX8_rest_52 : decode prog_10_method_94_code 52 = .ok (.iaload, 1) := by decide +kernel
theorem dX8_rest_53 : decode prog_10_method_94_code 53 = .ok (.iload_n 2, 1) := by decide +kernel
theorem dX8_rest_54 : decode prog_10_method_94_code 54 = .ok (.irem, 1) := by decide +kernel
theorem dX8_rest_55 : decode prog_10_method_94_code 55 = .ok (.ireturn, 1) := by decide +kernel
theorem dX8_tell_0 : decode prog_10_method_95_code 0 = .ok (.aload_n 0, 1) := by decide +kernel
theorem dX8_tell_1 : decode prog_10_method_95_code 1 = .ok (.getfield 312, 3) := by decide +kernel
theorem dX8_tell_4 : decode prog_10_method_95_code 4 = .ok (.bipush 60, 2) := by decide +kernel
theorem dX8_tell_6 : decode prog_10_method_95_code 6 = .ok (.if_icmp .ne 6, 3) := by decide +kernel
theorem dX8_tell_9 : decode prog_10_method_95_code 9 = .ok (.ldc 73, 2) := by decide +kernel
theorem dX8_tell_11 : decode prog_10_method_95_code 11 = .ok (.ireturn, 1) := by decide +kernel
theorem dX8_tell_12 : decode prog_10_method_95_code 12 = .ok (.aload_n 0, 1) := by decide +kernel
theorem dX8_tell_13 : decode prog_10_method_95_code 13 = .ok (.getfield 58, 3) := by decide +kernel
theorem dX8_tell_16 : decode prog_10_method_95_code 16 = .ok (.aload_n 0, 1) := by decide +kernel
theorem dX8_tell_17 : decode prog_10_method_95_code 17 = .ok (.getfield 312, 3) := by decide +kernel
theorem dX8_tell_20 : decode prog_10_method_95_code 20 = .ok (.iload_n 1, 1) := by decide +kernel
theorem dX8_tell_21 : decode prog_10_method_95_code 21 = .ok (.iastore, 1) := by decide +kernel
theorem dX8_tell_22 : decode prog_10_method_95_code 22 = .ok (.aload_n 0, 1) := by decide +kernel
theorem dX8_tell_23 : decode prog_10_method_95_code 23 = .ok (.dup, 1) := by decide +kernel
theorem dX8_tell_24 : decode prog_10_method_95_code 24 = .ok (.getfield 312, 3) := by decide +kernel
theorem dX8_tell_27 : decode prog_10_method_95_code 27 = .ok (.iconst 1, 1) := by decide +kernel
theorem dX8_tell_28 : decode prog_10_method_95_code 28 = .ok (.iadd, 1) := by decide +kernel
theorem dX8_tell_29 : decode prog_10_method_95_code 29 = .ok (.putfield 312, 3) := by decide +kernel
theorem dX8_tell_32 : decode prog_10_method_95_code 32 = .ok (.aload_n 0, 1) := by decide +kernel
theorem dX8_tell_33 : decode prog_10_method_95_code 33 = .ok (.getfield 312, 3) := by decide +kernel
theorem dX8_tell_36 : decode prog_10_method_95_code 36 = .ok (.ireturn, 1) := by decide +kernel
theorem dX8_setAside_0 : decode prog_10_method_96_code 0 = .ok (.iconst 0, 1) := by decide +kernel
theorem dX8_setAside_1 : decode prog_10_method_96_code 1 = .ok (.istore_n 3, 1) := by decide +kernel
theorem dX8_setAside_2 : decode prog_10_method_96_code 2 = .ok (.iload_n 3, 1) := by decide +kernel
theorem dX8_setAside_3 : decode prog_10_method_96_code 3 = .ok (.sipush 2892, 3) := by decide +kernel
theorem dX8_setAside_6 : decode prog_10_method_96_code 6 = .ok (.if_icmp .ge 15, 3) := by decide +kernel
theorem dX8_setAside_9 : decode prog_10_method_96_code 9 = .ok (.aload_n 2, 1) := by decide +kernel
theorem dX8_setAside_10 : decode prog_10_method_96_code 10 = .ok (.iload_n 3, 1) := by decide +kernel
theorem dX8_setAside_11 : decode prog_10_method_96_code 11 = .ok (.aload_n 1, 1) := by decide +kernel
theorem dX8_setAside_12 : decode prog_10_method_96_code 12 = .ok (.iload_n 3, 1) := by decide +kernel
theorem dX8_setAside_13 : decode prog_10_method_96_code 13 = .ok (.iaload, 1) := by decide +kernel
theorem dX8_setAside_14 : decode prog_10_method_96_code 14 = .ok (.iastore, 1) := by decide +kernel
theorem dX8_setAside_15 : decode prog_10_method_96_code 15 = .ok (.iinc 3 1, 3) := by decide +kernel
theorem dX8_setAside_18 : decode prog_10_method_96_code 18 = .ok (.goto (-16), 3) := by decide +kernel
theorem dX8_setAside_21 : decode prog_10_method_96_code 21 = .ok (.return_, 1) := by decide +kernel
theorem dX8_check_0 : decode prog_10_method_97_code 0 = .ok (.aload_n 0, 1) := by decide +kernel
theorem dX8_check_1 : decode prog_10_method_97_code 1 = .ok (.getfield 312, 3) := by decide +kernel
theorem dX8_check_4 : decode prog_10_method_97_code 4 = .ok (.istore_n 2, 1) := by decide +kernel
theorem dX8_check_5 : decode prog_10_method_97_code 5 = .ok (.aload_n 0, 1) := by decide +kernel
theorem dX8_check_6 : decode prog_10_method_97_code 6 = .ok (.iconst 0, 1) := by decide +kernel
theorem dX8_check_7 : decode prog_10_method_97_code 7 = .ok (.putfield 312, 3) := by decide +kernel
theorem dX8_check_10 : decode prog_10_method_97_code 10 = .ok (.iload_n 1, 1) := by decide +kernel
theorem dX8_check_11 : decode prog_10_method_97_code 11 = .ok (.i2l, 1) := by decide +kernel
theorem dX8_check_12 : decode prog_10_method_97_code 12 = .ok (.lconst 1, 1) := by decide +kernel
theorem dX8_check_13 : decode prog_10_method_97_code 13 = .ok (.ldc2_w 191, 3) := by decide +kernel
theorem dX8_check_16 : decode prog_10_method_97_code 16 = .ok (.invokestatic 65, 3) := by decide +kernel
theorem dX8_check_19 : decode prog_10_method_97_code 19 = .ok (.ifCond .ne 6, 3) := by decide +kernel
theorem dX8_check_22 : decode prog_10_method_97_code 22 = .ok (.ldc 72, 2) := by decide +kernel
theorem dX8_check_24 : decode prog_10_method_97_code 24 = .ok (.ireturn, 1) := by decide +kernel
theorem dX8_check_25 : decode prog_10_method_97_code 25 = .ok (.aload_n 0, 1) := by decide +kernel
theorem dX8_check_26 : decode prog_10_method_97_code 26 = .ok (.getfield 315, 3) := by decide +kernel
theorem dX8_check_29 : decode prog_10_method_97_code 29 = .ok (.ifCond .ne 6, 3) := by decide +kernel
theorem dX8_check_32 : decode prog_10_method_97_code 32 = .ok (.ldc 175, 2) := by decide +kernel
theorem dX8_check_34 : decode prog_10_method_97_code 34 = .ok (.ireturn, 1) := by decide +kernel
theorem dX8_check_35 : decode prog_10_method_97_code 35 = .ok (.aload_n 0, 1) := by decide +kernel
theorem dX8_check_36 : decode prog_10_method_97_code 36 = .ok (.aload_n 0, 1) := by decide +kernel
theorem dX8_check_37 : decode prog_10_method_97_code 37 = .ok (.getfield 7, 3) := by decide +kernel
theorem dX8_check_40 : decode prog_10_method_97_code 40 = .ok (.aload_n 0, 1) := by decide +kernel
theorem dX8_check_41 : decode prog_10_method_97_code 41 = .ok (.getfield 16, 3) := by decide +kernel
theorem dX8_check_44 : decode prog_10_method_97_code 44 = .ok (.invokevirtual 319, 3) := by decide +kernel
theorem dX8_check_47 : decode prog_10_method_97_code 47 = .ok (.aload_n 0, 1) := by decide +kernel
theorem dX8_check_48 : decode prog_10_method_97_code 48 = .ok (.aload_n 0, 1) := by decide +kernel
theorem dX8_check_49 : decode prog_10_method_97_code 49 = .ok (.getfield 13, 3) := by decide +kernel
theorem dX8_check_52 : decode prog_10_method_97_code 52 = .ok (.aload_n 0, 1) := by decide +kernel
theorem dX8_check_53 : decode prog_10_method_97_code 53 = .ok (.getfield 7, 3) := by decide +kernel
theorem dX8_check_56 : decode prog_10_method_97_code 56 = .ok (.invokevirtual 319, 3) := by decide +kernel
theorem dX8_check_59 : decode prog_10_method_97_code 59 = .ok (.iconst 0, 1) := by decide +kernel
theorem dX8_check_60 : decode prog_10_method_97_code 60 = .ok (.istore_n 3, 1) := by decide +kernel
theorem dX8_check_61 : decode prog_10_method_97_code 61 = .ok (.iconst 0, 1) := by decide +kernel
theorem dX8_check_62 : decode prog_10_method_97_code 62 = .ok (.istore 4, 2) := by decide +kernel
theorem dX8_check_64 : decode prog_10_method_97_code 64 = .ok (.iload 4, 2) := by decide +kernel
theorem dX8_check_66 : decode prog_10_method_97_code 66 = .ok (.iload_n 1, 1) := by decide +kernel
theorem dX8_check_67 : decode prog_10_method_97_code 67 = .ok (.if_icmp .ge 46, 3) := by decide +kernel
theorem dX8_check_70 : decode prog_10_method_97_code 70 = .ok (.aload_n 0, 1) := by decide +kernel
theorem dX8_check_71 : decode prog_10_method_97_code 71 = .ok (.getfield 7, 3) := by decide +kernel
theorem dX8_check_74 : decode prog_10_method_97_code 74 = .ok (.iconst 4, 1) := by decide +kernel
theorem dX8_check_75 : decode prog_10_method_97_code 75 = .ok (.iaload, 1) := by decide +kernel
theorem dX8_check_76 : decode prog_10_method_97_code 76 = .ok (.sipush 9999, 3) := by decide +kernel
theorem dX8_check_79 : decode prog_10_method_97_code 79 = .ok (.if_icmp .ge 34, 3) := by decide +kernel
theorem dX8_check_82 : decode prog_10_method_97_code 82 = .ok (.aload_n 0, 1) := by decide +kernel
theorem dX8_check_83 : decode prog_10_method_97_code 83 = .ok (.getfield 61, 3) := by decide +kernel
theorem dX8_check_86 : decode prog_10_method_97_code 86 = .ok (.iload_n 3, 1) := by decide +kernel
theorem dX8_check_87 : decode prog_10_method_97_code 87 = .ok (.aload_n 0, 1) := by decide +kernel
theorem dX8_check_88 : decode prog_10_method_97_code 88 = .ok (.invokevirtual 172, 3) := by decide +kernel
theorem dX8_check_91 : decode prog_10_method_97_code 91 = .ok (.iastore, 1) := by decide +kernel
theorem dX8_check_92 : decode prog_10_method_97_code 92 = .ok (.aload_n 0, 1) := by decide +kernel
theorem dX8_check_93 : decode prog_10_method_97_code 93 = .ok (.getfield 61, 3) := by decide +kernel
theorem dX8_check_96 : decode prog_10_method_97_code 96 = .ok (.iload_n 3, 1) := by decide +kernel
theorem dX8_check_97 : decode prog_10_method_97_code 97 = .ok (.iconst 1, 1) := by decide +kernel
theorem dX8_check_98 : decode prog_10_method_97_code 98 = .ok (.iadd, 1) := by decide +kernel
theorem dX8_check_99 : decode prog_10_method_97_code 99 = .ok (.aload_n 0, 1) := by decide +kernel
theorem dX8_check_100 : decode prog_10_method_97_code 100 = .ok (.invokevirtual 182, 3) := by decide +kernel
theorem dX8_check_103 : decode prog_10_method_97_code 103 = .ok (.iastore, 1) := by decide +kernel
theorem dX8_check_104 : decode prog_10_method_97_code 104 = .ok (.iinc 3 2, 3) := by decide +kernel
theorem dX8_check_107 : decode prog_10_method_97_code 107 = .ok (.iinc 4 1, 3) := by decide +kernel
theorem dX8_check_110 : decode prog_10_method_97_code 110 = .ok (.goto (-46), 3) := by decide +kernel
theorem dX8_check_113 : decode prog_10_method_97_code 113 = .ok (.aload_n 0, 1) := by decide +kernel
theorem dX8_check_114 : decode prog_10_method_97_code 114 = .ok (.aload_n 0, 1) := by decide +kernel
theorem dX8_check_115 : decode prog_10_method_97_code 115 = .ok (.getfield 16, 3) := by decide +kernel
theorem dX8_check_118 : decode prog_10_method_97_code 118 = .ok (.aload_n 0, 1) := by decide +kernel
theorem dX8_check_119 : decode prog_10_method_97_code 119 = .ok (.getfield 7, 3) := by decide +kernel
theorem dX8_check_122 : decode prog_10_method_97_code 122 = .ok (.invokevirtual 319, 3) := by decide +kernel
theorem dX8_check_125 : decode prog_10_method_97_code 125 = .ok (.iconst 0, 1) := by decide +kernel
theorem dX8_check_126 : decode prog_10_method_97_code 126 = .ok (.istore 4, 2) := by decide +kernel
theorem dX8_check_128 : decode prog_10_method_97_code 128 = .ok (.iload 4, 2) := by decide +kernel
theorem dX8_check_130 : decode prog_10_method_97_code 130 = .ok (.iload_n 2, 1) := by decide +kernel
theorem dX8_check_131 : decode prog_10_method_97_code 131 = .ok (.if_icmp .ge 32, 3) := by decide +kernel
theorem dX8_check_134 : decode prog_10_method_97_code 134 = .ok (.iload 4, 2) := by decide +kernel
theorem dX8_check_136 : decode prog_10_method_97_code 136 = .ok (.iload_n 3, 1) := by decide +kernel
theorem dX8_check_137 : decode prog_10_method_97_code 137 = .ok (.if_icmp .ge 26, 3) := by decide +kernel
theorem dX8_check_140 : decode prog_10_method_97_code 140 = .ok (.aload_n 0, 1) := by decide +kernel
theorem dX8_check_141 : decode prog_10_method_97_code 141 = .ok (.getfield 58, 3) := by decide +kernel
theorem dX8_check_144 : decode prog_10_method_97_code 144 = .ok (.iload 4, 2) := by decide +kernel
theorem dX8_check_146 : decode prog_10_method_97_code 146 = .ok (.iaload, 1) := by decide +kernel
theorem dX8_check_147 : decode prog_10_method_97_code 147 = .ok (.aload_n 0, 1) := by decide +kernel
theorem dX8_check_148 : decode prog_10_method_97_code 148 = .ok (.getfield 61, 3) := by decide +kernel
theorem dX8_check_151 : decode prog_10_method_97_code 151 = .ok (.iload 4, 2) := by decide +kernel
theorem dX8_check_153 : decode prog_10_method_97_code 153 = .ok (.iaload, 1) := by decide +kernel
theorem dX8_check_154 : decode prog_10_method_97_code 154 = .ok (.if_icmp .ne 9, 3) := by decide +kernel
theorem dX8_check_157 : decode prog_10_method_97_code 157 = .ok (.iinc 4 1, 3) := by decide +kernel
theorem dX8_check_160 : decode prog_10_method_97_code 160 = .ok (.goto (-32), 3) := by decide +kernel
theorem dX8_check_163 : decode prog_10_method_97_code 163 = .ok (.iload 4, 2) := by decide +kernel
theorem dX8_check_165 : decode prog_10_method_97_code 165 = .ok (.iload_n 2, 1) := by decide +kernel
theorem dX8_check_166 : decode prog_10_method_97_code 166 = .ok (.if_icmp .ne 13, 3) := by decide +kernel
theorem dX8_check_169 : decode prog_10_method_97_code 169 = .ok (.iload 4, 2) := by decide +kernel
theorem dX8_check_171 : decode prog_10_method_97_code 171 = .ok (.iload_n 3, 1) := by decide +kernel
theorem dX8_check_172 : decode prog_10_method_97_code 172 = .ok (.if_icmp .ne 7, 3) := by decide +kernel
theorem dX8_check_175 : decode prog_10_method_97_code 175 = .ok (.iconst 0, 1) := by decide +kernel
theorem dX8_check_176 : decode prog_10_method_97_code 176 = .ok (.goto 7, 3) := by decide +kernel
theorem dX8_check_179 : decode prog_10_method_97_code 179 = .ok (.iconst 1, 1) := by decide +kernel
theorem dX8_check_180 : decode prog_10_method_97_code 180 = .ok (.iload 4, 2) := by decide +kernel
theorem dX8_check_182 : decode prog_10_method_97_code 182 = .ok (.iadd, 1) := by decide +kernel
theorem dX8_check_183 : decode prog_10_method_97_code 183 = .ok (.ireturn, 1) := by decide +kernel
theorem dX8_keep_0 : decode prog_10_method_98_code 0 = .ok (.aload_n 0, 1) := by decide +kernel
theorem dX8_keep_1 : decode prog_10_method_98_code 1 = .ok (.iconst 1, 1) := by decide +kernel
theorem dX8_keep_2 : decode prog_10_method_98_code 2 = .ok (.putfield 315, 3) := by decide +kernel
theorem dX8_keep_5 : decode prog_10_method_98_code 5 = .ok (.aload_n 0, 1) := by decide +kernel
theorem dX8_keep_6 : decode prog_10_method_98_code 6 = .ok (.aload_n 0, 1) := by decide +kernel
theorem dX8_keep_7 : decode prog_10_method_98_code 7 = .ok (.getfield 7, 3) := by decide +kernel
theorem dX8_keep_10 : decode prog_10_method_98_code 10 = .ok (.aload_n 0, 1) := by decide +kernel
theorem dX8_keep_11 : decode prog_10_method_98_code 11 = .ok (.getfield 13, 3) := by decide +kernel
theorem dX8_keep_14 : decode prog_10_method_98_code 14 = .ok (.invokevirtual 319, 3) := by decide +kernel
theorem dX8_keep_17 : decode prog_10_method_98_code 17 = .ok (.aload_n 0, 1) := by decide +kernel
theorem dX8_keep_18 : decode prog_10_method_98_code 18 = .ok (.getfield 7, 3) := by decide +kernel
theorem dX8_keep_21 : decode prog_10_method_98_code 21 = .ok (.iconst 0, 1) := by decide +kernel
theorem dX8_keep_22 : decode prog_10_method_98_code 22 = .ok (.iaload, 1) := by decide +kernel
theorem dX8_keep_23 : decode prog_10_method_98_code 23 = .ok (.ireturn, 1) := by decide +kernel
theorem dX8_back_0 : decode prog_10_method_99_code 0 = .ok (.aload_n 0, 1) := by decide +kernel
theorem dX8_back_1 : decode prog_10_method_99_code 1 = .ok (.getfield 315, 3) := by decide +kernel
theorem dX8_back_4 : decode prog_10_method_99_code 4 = .ok (.ifCond .ne 6, 3) := by decide +kernel
theorem dX8_back_7 : decode prog_10_method_99_code 7 = .ok (.ldc 175, 2) := by decide +kernel
theorem dX8_back_9 : decode prog_10_method_99_code 9 = .ok (.ireturn, 1) := by decide +kernel
theorem dX8_back_10 : decode prog_10_method_99_code 10 = .ok (.aload_n 0, 1) := by decide +kernel
theorem dX8_back_11 : decode prog_10_method_99_code 11 = .ok (.aload_n 0, 1) := by decide +kernel
theorem dX8_back_12 : decode prog_10_method_99_code 12 = .ok (.getfield 13, 3) := by decide +kernel
theorem dX8_back_15 : decode prog_10_method_99_code 15 = .ok (.aload_n 0, 1) := by decide +kernel
theorem dX8_back_16 : decode prog_10_method_99_code 16 = .ok (.getfield 7, 3) := by decide +kernel
theorem dX8_back_19 : decode prog_10_method_99_code 19 = .ok (.invokevirtual 319, 3) := by decide +kernel
theorem dX8_back_22 : decode prog_10_method_99_code 22 = .ok (.aload_n 0, 1) := by decide +kernel
theorem dX8_back_23 : decode prog_10_method_99_code 23 = .ok (.getfield 7, 3) := by decide +kernel
theorem dX8_back_26 : decode prog_10_method_99_code 26 = .ok (.iconst 0, 1) := by decide +kernel
theorem dX8_back_27 : decode prog_10_method_99_code 27 = .ok (.iaload, 1) := by decide +kernel
theorem dX8_back_28 : decode prog_10_method_99_code 28 = .ok (.ireturn, 1) := by decide +kernel
theorem dX8_count_0 : decode prog_10_method_100_code 0 = .ok (.iload_n 1, 1) := by decide +kernel
theorem dX8_count_1 : decode prog_10_method_100_code 1 = .ok (.tableswitch 189 0 15 #[79, 86, 91, 98, 105, 112, 120, 127, 135, 143, 151, 159, 164, 171, 176, 181], 79) := by decide +kernel
theorem dX8_count_80 : decode prog_10_method_100_code 80 = .ok (.aload_n 0, 1) := by decide +kernel
theorem dX8_count_81 : decode prog_10_method_100_code 81 = .ok (.getfield 7, 3) := by decide +kernel
theorem dX8_count_84 : decode prog_10_method_100_code 84 = .ok (.iconst 0, 1) := by decide +kernel
theorem dX8_count_85 : decode prog_10_method_100_code 85 = .ok (.iaload, 1) := by decide +kernel
theorem dX8_count_86 : decode prog_10_method_100_code 86 = .ok (.ireturn, 1) := by decide +kernel
theorem dX8_count_87 : decode prog_10_method_100_code 87 = .ok (.aload_n 0, 1) := by decide +kernel
theorem dX8_count_88 : decode prog_10_method_100_code 88 = .ok (.invokevirtual 151, 3) := by decide +kernel
theorem dX8_count_91 : decode prog_10_method_100_code 91 = .ok (.ireturn, 1) := by decide +kernel
theorem dX8_count_92 : decode prog_10_method_100_code 92 = .ok (.aload_n 0, 1) := by decide +kernel
theorem dX8_count_93 : decode prog_10_method_100_code 93 = .ok (.getfield 7, 3) := by decide +kernel
theorem dX8_count_96 : decode prog_10_method_100_code 96 = .ok (.iconst 1, 1) := by decide +kernel
theorem dX8_count_97 : decode prog_10_method_100_code 97 = .ok (.iaload, 1) := by decide +kernel
theorem dX8_count_98 : decode prog_10_method_100_code 98 = .ok (.ireturn, 1) := by decide +kernel
theorem dX8_count_99 : decode prog_10_method_100_code 99 = .ok (.aload_n 0, 1) := by decide +kernel
theorem dX8_count_100 : decode prog_10_method_100_code 100 = .ok (.getfield 7, 3) := by decide +kernel
theorem dX8_count_103 : decode prog_10_method_100_code 103 = .ok (.iconst 2, 1) := by decide +kernel
theorem dX8_count_104 : decode prog_10_method_100_code 104 = .ok (.iaload, 1) := by decide +kernel
theorem dX8_count_105 : decode prog_10_method_100_code 105 = .ok (.ireturn, 1) := by decide +kernel
theorem dX8_count_106 : decode prog_10_method_100_code 106 = .ok (.aload_n 0, 1) := by decide +kernel
theorem dX8_count_107 : decode prog_10_method_100_code 107 = .ok (.getfield 7, 3) := by decide +kernel
theorem dX8_count_110 : decode prog_10_method_100_code 110 = .ok (.iconst 4, 1) := by decide +kernel
theorem dX8_count_111 : decode prog_10_method_100_code 111 = .ok (.iaload, 1) := by decide +kernel
theorem dX8_count_112 : decode prog_10_method_100_code 112 = .ok (.ireturn, 1) := by decide +kernel
theorem dX8_count_113 : decode prog_10_method_100_code 113 = .ok (.aload_n 0, 1) := by decide +kernel
theorem dX8_count_114 : decode prog_10_method_100_code 114 = .ok (.getfield 7, 3) := by decide +kernel
theorem dX8_count_117 : decode prog_10_method_100_code 117 = .ok (.bipush 6, 2) := by decide +kernel
theorem dX8_count_119 : decode prog_10_method_100_code 119 = .ok (.iaload, 1) := by decide +kernel
theorem dX8_count_120 : decode prog_10_method_100_code 120 = .ok (.ireturn, 1) := by decide +kernel
theorem dX8_count_121 : decode prog_10_method_100_code 121 = .ok (.aload_n 0, 1) := by decide +kernel
theorem dX8_count_122 : decode prog_10_method_100_code 122 = .ok (.getfield 7, 3) := by decide +kernel
theorem dX8_count_125 : decode prog_10_method_100_code 125 = .ok (.iconst 5, 1) := by decide +kernel
theorem dX8_count_126 : decode prog_10_method_100_code 126 = .ok (.iaload, 1) := by decide +kernel
theorem dX8_count_127 : decode prog_10_method_100_code 127 = .ok (.ireturn, 1) := by decide +kernel
theorem dX8_count_128 : decode prog_10_method_100_code 128 = .ok (.aload_n 0, 1) := by decide +kernel
theorem dX8_count_129 : decode prog_10_method_100_code 129 = .ok (.getfield 7, 3) := by decide +kernel
theorem dX8_count_132 : decode prog_10_method_100_code 132 = .ok (.bipush 7, 2) := by decide +kernel
theorem dX8_count_134 : decode prog_10_method_100_code 134 = .ok (.iaload, 1) := by decide +kernel
theorem dX8_count_135 : decode prog_10_method_100_code 135 = .ok (.ireturn, 1) := by decide +kernel
theorem dX8_count_136 : decode prog_10_method_100_code 136 = .ok (.aload_n 0, 1) := by decide +kernel
theorem dX8_count_137 : decode prog_10_method_100_code 137 = .ok (.getfield 7, 3) := by decide +kernel
theorem dX8_count_140 : decode prog_10_method_100_code 140 = .ok (.bipush 8, 2) := by decide +kernel
theorem dX8_count_142 : decode prog_10_method_100_code 142 = .ok (.iaload, 1) := by decide +kernel
theorem dX8_count_143 : decode prog_10_method_100_code 143 = .ok (.ireturn, 1) := by decide +kernel
theorem dX8_count_144 : decode prog_10_method_100_code 144 = .ok (.aload_n 0, 1) := by decide +kernel
theorem dX8_count_145 : decode prog_10_method_100_code 145 = .ok (.getfield 7, 3) := by decide +kernel
theorem dX8_count_148 : decode prog_10_method_100_code 148 = .ok (.bipush 9, 2) := by decide +kernel
theorem dX8_count_150 : decode prog_10_method_100_code 150 = .ok (.iaload, 1) := by decide +kernel
theorem dX8_count_151 : decode prog_10_method_100_code 151 = .ok (.ireturn, 1) := by decide +kernel
theorem dX8_count_152 : decode prog_10_method_100_code 152 = .ok (.aload_n 0, 1) := by decide +kernel
theorem dX8_count_153 : decode prog_10_method_100_code 153 = .ok (.getfield 7, 3) := by decide +kernel
theorem dX8_count_156 : decode prog_10_method_100_code 156 = .ok (.bipush 10, 2) := by decide +kernel
theorem dX8_count_158 : decode prog_10_method_100_code 158 = .ok (.iaload, 1) := by decide +kernel
theorem dX8_count_159 : decode prog_10_method_100_code 159 = .ok (.ireturn, 1) := by decide +kernel
theorem dX8_count_160 : decode prog_10_method_100_code 160 = .ok (.aload_n 0, 1) := by decide +kernel
theorem dX8_count_161 : decode prog_10_method_100_code 161 = .ok (.invokevirtual 182, 3) := by decide +kernel
theorem dX8_count_164 : decode prog_10_method_100_code 164 = .ok (.ireturn, 1) := by decide +kernel
theorem dX8_count_165 : decode prog_10_method_100_code 165 = .ok (.aload_n 0, 1) := by decide +kernel
theorem dX8_count_166 : decode prog_10_method_100_code 166 = .ok (.getfield 7, 3) := by decide +kernel
theorem dX8_count_169 : decode prog_10_method_100_code 169 = .ok (.iconst 3, 1) := by decide +kernel
theorem dX8_count_170 : decode prog_10_method_100_code 170 = .ok (.iaload, 1) := by decide +kernel
theorem dX8_count_171 : decode prog_10_method_100_code 171 = .ok (.ireturn, 1) := by decide +kernel
theorem dX8_count_172 : decode prog_10_method_100_code 172 = .ok (.aload_n 0, 1) := by decide +kernel
theorem dX8_count_173 : decode prog_10_method_100_code 173 = .ok (.getfield 312, 3) := by decide +kernel
theorem dX8_count_176 : decode prog_10_method_100_code 176 = .ok (.ireturn, 1) := by decide +kernel
theorem dX8_count_177 : decode prog_10_method_100_code 177 = .ok (.aload_n 0, 1) := by decide +kernel
theorem dX8_count_178 : decode prog_10_method_100_code 178 = .ok (.getfield 195, 3) := by decide +kernel
theorem dX8_count_181 : decode prog_10_method_100_code 181 = .ok (.ireturn, 1) := by decide +kernel
theorem dX8_count_182 : decode prog_10_method_100_code 182 = .ok (.aload_n 0, 1) := by decide +kernel
theorem dX8_count_183 : decode prog_10_method_100_code 183 = .ok (.getfield 7, 3) := by decide +kernel
theorem dX8_count_186 : decode prog_10_method_100_code 186 = .ok (.bipush 11, 2) := by decide +kernel
theorem dX8_count_188 : decode prog_10_method_100_code 188 = .ok (.iaload, 1) := by decide +kernel
theorem dX8_count_189 : decode prog_10_method_100_code 189 = .ok (.ireturn, 1) := by decide +kernel
theorem dX8_count_190 : decode prog_10_method_100_code 190 = .ok (.ldc 72, 2) := by decide +kernel
theorem dX8_count_192 : decode prog_10_method_100_code 192 = .ok (.ireturn, 1) := by decide +kernel
