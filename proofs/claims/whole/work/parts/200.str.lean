abbrev IJ0_length_8abf5 : Inf := (⟨"java/lang/String", "length", "()I"⟩, prog_14_method_54_code, 1, (Option.some FieldType.int))
theorem dJ0_length_8abf5_0 : decode prog_14_method_54_code 0 = .ok (.aload_n 0, 1) := by decide +kernel
theorem dJ0_length_8abf5_1 : decode prog_14_method_54_code 1 = .ok (.getfield 9, 3) := by decide +kernel
theorem dJ0_length_8abf5_4 : decode prog_14_method_54_code 4 = .ok (.arraylength, 1) := by decide +kernel
theorem dJ0_length_8abf5_5 : decode prog_14_method_54_code 5 = .ok (.aload_n 0, 1) := by decide +kernel
theorem dJ0_length_8abf5_6 : decode prog_14_method_54_code 6 = .ok (.invokevirtual 335, 3) := by decide +kernel
theorem dJ0_length_8abf5_9 : decode prog_14_method_54_code 9 = .ok (.ishr, 1) := by decide +kernel
theorem dJ0_length_8abf5_10 : decode prog_14_method_54_code 10 = .ok (.ireturn, 1) := by decide +kernel
abbrev IJ0_coder_7d493 : Inf := (⟨"java/lang/String", "coder", "()B"⟩, prog_14_method_152_code, 1, (Option.some FieldType.byte))
theorem dJ0_coder_7d493_0 : decode prog_14_method_152_code 0 = .ok (.getstatic 38, 3) := by decide +kernel
theorem dJ0_coder_7d493_3 : decode prog_14_method_152_code 3 = .ok (.ifCond .eq 10, 3) := by decide +kernel
theorem dJ0_coder_7d493_6 : decode prog_14_method_152_code 6 = .ok (.aload_n 0, 1) := by decide +kernel
theorem dJ0_coder_7d493_7 : decode prog_14_method_152_code 7 = .ok (.getfield 15, 3) := by decide +kernel
theorem dJ0_coder_7d493_10 : decode prog_14_method_152_code 10 = .ok (.goto 4, 3) := by decide +kernel
theorem dJ0_coder_7d493_13 : decode prog_14_method_152_code 13 = .ok (.iconst 1, 1) := by decide +kernel
theorem dJ0_coder_7d493_14 : decode prog_14_method_152_code 14 = .ok (.ireturn, 1) := by decide +kernel
abbrev IJ0_charAt_5068e : Inf := (⟨"java/lang/String", "charAt", "(I)C"⟩, prog_14_method_56_code, 2, (Option.some FieldType.char))
theorem dJ0_charAt_5068e_0 : decode prog_14_method_56_code 0 = .ok (.aload_n 0, 1) := by decide +kernel
theorem dJ0_charAt_5068e_1 : decode prog_14_method_56_code 1 = .ok (.invokevirtual 492, 3) := by decide +kernel
theorem dJ0_charAt_5068e_4 : decode prog_14_method_56_code 4 = .ok (.ifCond .eq 12, 3) := by decide +kernel
theorem dJ0_charAt_5068e_7 : decode prog_14_method_56_code 7 = .ok (.aload_n 0, 1) := by decide +kernel
theorem dJ0_charAt_5068e_8 : decode prog_14_method_56_code 8 = .ok (.getfield 9, 3) := by decide +kernel
theorem dJ0_charAt_5068e_11 : decode prog_14_method_56_code 11 = .ok (.iload_n 1, 1) := by decide +kernel
theorem dJ0_charAt_5068e_12 : decode prog_14_method_56_code 12 = .ok (.invokestatic 495, 3) := by decide +kernel
theorem dJ0_charAt_5068e_15 : decode prog_14_method_56_code 15 = .ok (.ireturn, 1) := by decide +kernel
theorem dJ0_charAt_5068e_16 : decode prog_14_method_56_code 16 = .ok (.aload_n 0, 1) := by decide +kernel
theorem dJ0_charAt_5068e_17 : decode prog_14_method_56_code 17 = .ok (.getfield 9, 3) := by decide +kernel
theorem dJ0_charAt_5068e_20 : decode prog_14_method_56_code 20 = .ok (.iload_n 1, 1) := by decide +kernel
theorem dJ0_charAt_5068e_21 : decode prog_14_method_56_code 21 = .ok (.invokestatic 498, 3) := by decide +kernel
theorem dJ0_charAt_5068e_24 : decode prog_14_method_56_code 24 = .ok (.ireturn, 1) := by decide +kernel
abbrev IJ0_isLatin1_aae02 : Inf := (⟨"java/lang/String", "isLatin1", "()Z"⟩, prog_14_method_154_code, 1, (Option.some FieldType.boolean))
theorem dJ0_isLatin1_aae02_0 : decode prog_14_method_154_code 0 = .ok (.getstatic 38, 3) := by decide +kernel
theorem dJ0_isLatin1_aae02_3 : decode prog_14_method_154_code 3 = .ok (.ifCond .eq 14, 3) := by decide +kernel
theorem dJ0_isLatin1_aae02_6 : decode prog_14_method_154_code 6 = .ok (.aload_n 0, 1) := by decide +kernel
theorem dJ0_isLatin1_aae02_7 : decode prog_14_method_154_code 7 = .ok (.getfield 15, 3) := by decide +kernel
theorem dJ0_isLatin1_aae02_10 : decode prog_14_method_154_code 10 = .ok (.ifCond .ne 7, 3) := by decide +kernel
theorem dJ0_isLatin1_aae02_13 : decode prog_14_method_154_code 13 = .ok (.iconst 1, 1) := by decide +kernel
theorem dJ0_isLatin1_aae02_14 : decode prog_14_method_154_code 14 = .ok (.goto 4, 3) := by decide +kernel
theorem dJ0_isLatin1_aae02_17 : decode prog_14_method_154_code 17 = .ok (.iconst 0, 1) := by decide +kernel
theorem dJ0_isLatin1_aae02_18 : decode prog_14_method_154_code 18 = .ok (.ireturn, 1) := by decide +kernel
abbrev IJ1_charAt_3b067 : Inf := (⟨"java/lang/StringLatin1", "charAt", "([BI)C"⟩, prog_15_method_2_code, 2, (Option.some FieldType.char))
theorem dJ1_charAt_3b067_0 : decode prog_15_method_2_code 0 = .ok (.iload_n 1, 1) := by decide +kernel
theorem dJ1_charAt_3b067_1 : decode prog_15_method_2_code 1 = .ok (.aload_n 0, 1) := by decide +kernel
theorem dJ1_charAt_3b067_2 : decode prog_15_method_2_code 2 = .ok (.arraylength, 1) := by decide +kernel
theorem dJ1_charAt_3b067_3 : decode prog_15_method_2_code 3 = .ok (.invokestatic 9, 3) := by decide +kernel
theorem dJ1_charAt_3b067_6 : decode prog_15_method_2_code 6 = .ok (.aload_n 0, 1) := by decide +kernel
theorem dJ1_charAt_3b067_7 : decode prog_15_method_2_code 7 = .ok (.iload_n 1, 1) := by decide +kernel
theorem dJ1_charAt_3b067_8 : decode prog_15_method_2_code 8 = .ok (.baload, 1) := by decide +kernel
theorem dJ1_charAt_3b067_9 : decode prog_15_method_2_code 9 = .ok (.sipush 255, 3) := by decide +kernel
theorem dJ1_charAt_3b067_12 : decode prog_15_method_2_code 12 = .ok (.iand, 1) := by decide +kernel
theorem dJ1_charAt_3b067_13 : decode prog_15_method_2_code 13 = .ok (.i2c, 1) := by decide +kernel
theorem dJ1_charAt_3b067_14 : decode prog_15_method_2_code 14 = .ok (.ireturn, 1) := by decide +kernel
abbrev IJ0_checkIndex_df160 : Inf := (⟨"java/lang/String", "checkIndex", "(II)V"⟩, prog_14_method_155_code, 2, (Option.none : Option FieldType))
theorem dJ0_checkIndex_df160_0 : decode prog_14_method_155_code 0 = .ok (.iload_n 0, 1) := by decide +kernel
theorem dJ0_checkIndex_df160_1 : decode prog_14_method_155_code 1 = .ok (.iload_n 1, 1) := by decide +kernel
theorem dJ0_checkIndex_df160_2 : decode prog_14_method_155_code 2 = .ok (.getstatic 1053, 3) := by decide +kernel
theorem dJ0_checkIndex_df160_5 : decode prog_14_method_155_code 5 = .ok (.invokestatic 1059, 3) := by decide +kernel
theorem dJ0_checkIndex_df160_8 : decode prog_14_method_155_code 8 = .ok (.pop, 1) := by decide +kernel
theorem dJ0_checkIndex_df160_9 : decode prog_14_method_155_code 9 = .ok (.return_, 1) := by decide +kernel
abbrev IJ3_checkIndex_8e157 : Inf := (⟨"jdk/internal/util/Preconditions", "checkIndex", "(IILjava/util/function/BiFunction;)I"⟩, prog_19_method_11_code, 3, (Option.some FieldType.int))
theorem dJ3_checkIndex_8e157_0 : decode prog_19_method_11_code 0 = .ok (.iload_n 0, 1) := by decide +kernel
theorem dJ3_checkIndex_8e157_1 : decode prog_19_method_11_code 1 = .ok (.ifCond .lt 8, 3) := by decide +kernel
theorem dJ3_checkIndex_8e157_4 : decode prog_19_method_11_code 4 = .ok (.iload_n 0, 1) := by decide +kernel
theorem dJ3_checkIndex_8e157_5 : decode prog_19_method_11_code 5 = .ok (.iload_n 1, 1) := by decide +kernel
theorem dJ3_checkIndex_8e157_6 : decode prog_19_method_11_code 6 = .ok (.if_icmp .lt 10, 3) := by decide +kernel
theorem dJ3_checkIndex_8e157_9 : decode prog_19_method_11_code 9 = .ok (.aload_n 2, 1) := by decide +kernel
theorem dJ3_checkIndex_8e157_10 : decode prog_19_method_11_code 10 = .ok (.iload_n 0, 1) := by decide +kernel
theorem dJ3_checkIndex_8e157_11 : decode prog_19_method_11_code 11 = .ok (.iload_n 1, 1) := by decide +kernel
theorem dJ3_checkIndex_8e157_12 : decode prog_19_method_11_code 12 = .ok (.invokestatic 95, 3) := by decide +kernel
theorem dJ3_checkIndex_8e157_15 : decode prog_19_method_11_code 15 = .ok (.athrow, 1) := by decide +kernel
theorem dJ3_checkIndex_8e157_16 : decode prog_19_method_11_code 16 = .ok (.iload_n 0, 1) := by decide +kernel
theorem dJ3_checkIndex_8e157_17 : decode prog_19_method_11_code 17 = .ok (.ireturn, 1) := by decide +kernel
abbrev IJ0_indexOf_0f7a4 : Inf := (⟨"java/lang/String", "indexOf", "(I)I"⟩, prog_14_method_79_code, 2, (Option.some FieldType.int))
theorem dJ0_indexOf_0f7a4_0 : decode prog_14_method_79_code 0 = .ok (.aload_n 0, 1) := by decide +kernel
theorem dJ0_indexOf_0f7a4_1 : decode prog_14_method_79_code 1 = .ok (.iload_n 1, 1) := by decide +kernel
theorem dJ0_indexOf_0f7a4_2 : decode prog_14_method_79_code 2 = .ok (.iconst 0, 1) := by decide +kernel
theorem dJ0_indexOf_0f7a4_3 : decode prog_14_method_79_code 3 = .ok (.invokevirtual 633, 3) := by decide +kernel
theorem dJ0_indexOf_0f7a4_6 : decode prog_14_method_79_code 6 = .ok (.ireturn, 1) := by decide +kernel
abbrev IJ0_indexOf_7cf53 : Inf := (⟨"java/lang/String", "indexOf", "(II)I"⟩, prog_14_method_80_code, 3, (Option.some FieldType.int))
theorem dJ0_indexOf_7cf53_0 : decode prog_14_method_80_code 0 = .ok (.aload_n 0, 1) := by decide +kernel
theorem dJ0_indexOf_7cf53_1 : decode prog_14_method_80_code 1 = .ok (.invokevirtual 492, 3) := by decide +kernel
theorem dJ0_indexOf_7cf53_4 : decode prog_14_method_80_code 4 = .ok (.ifCond .eq 19, 3) := by decide +kernel
theorem dJ0_indexOf_7cf53_7 : decode prog_14_method_80_code 7 = .ok (.aload_n 0, 1) := by decide +kernel
theorem dJ0_indexOf_7cf53_8 : decode prog_14_method_80_code 8 = .ok (.getfield 9, 3) := by decide +kernel
theorem dJ0_indexOf_7cf53_11 : decode prog_14_method_80_code 11 = .ok (.iload_n 1, 1) := by decide +kernel
theorem dJ0_indexOf_7cf53_12 : decode prog_14_method_80_code 12 = .ok (.iload_n 2, 1) := by decide +kernel
theorem dJ0_indexOf_7cf53_13 : decode prog_14_method_80_code 13 = .ok (.aload_n 0, 1) := by decide +kernel
theorem dJ0_indexOf_7cf53_14 : decode prog_14_method_80_code 14 = .ok (.invokevirtual 505, 3) := by decide +kernel
theorem dJ0_indexOf_7cf53_17 : decode prog_14_method_80_code 17 = .ok (.invokestatic 637, 3) := by decide +kernel
theorem dJ0_indexOf_7cf53_20 : decode prog_14_method_80_code 20 = .ok (.goto 16, 3) := by decide +kernel
theorem dJ0_indexOf_7cf53_23 : decode prog_14_method_80_code 23 = .ok (.aload_n 0, 1) := by decide +kernel
theorem dJ0_indexOf_7cf53_24 : decode prog_14_method_80_code 24 = .ok (.getfield 9, 3) := by decide +kernel
theorem dJ0_indexOf_7cf53_27 : decode prog_14_method_80_code 27 = .ok (.iload_n 1, 1) := by decide +kernel
theorem dJ0_indexOf_7cf53_28 : decode prog_14_method_80_code 28 = .ok (.iload_n 2, 1) := by decide +kernel
theorem dJ0_indexOf_7cf53_29 : decode prog_14_method_80_code 29 = .ok (.aload_n 0, 1) := by decide +kernel
theorem dJ0_indexOf_7cf53_30 : decode prog_14_method_80_code 30 = .ok (.invokevirtual 505, 3) := by decide +kernel
theorem dJ0_indexOf_7cf53_33 : decode prog_14_method_80_code 33 = .ok (.invokestatic 640, 3) := by decide +kernel
theorem dJ0_indexOf_7cf53_36 : decode prog_14_method_80_code 36 = .ok (.ireturn, 1) := by decide +kernel
abbrev IJ1_indexOf_4cfef : Inf := (⟨"java/lang/StringLatin1", "indexOf", "([BIII)I"⟩, prog_15_method_22_code, 4, (Option.some FieldType.int))
theorem dJ1_indexOf_4cfef_0 : decode prog_15_method_22_code 0 = .ok (.iload_n 1, 1) := by decide +kernel
theorem dJ1_indexOf_4cfef_1 : decode prog_15_method_22_code 1 = .ok (.invokestatic 88, 3) := by decide +kernel
theorem dJ1_indexOf_4cfef_4 : decode prog_15_method_22_code 4 = .ok (.ifCond .ne 5, 3) := by decide +kernel
theorem dJ1_indexOf_4cfef_7 : decode prog_15_method_22_code 7 = .ok (.iconst (-1), 1) := by decide +kernel
theorem dJ1_indexOf_4cfef_8 : decode prog_15_method_22_code 8 = .ok (.ireturn, 1) := by decide +kernel
theorem dJ1_indexOf_4cfef_9 : decode prog_15_method_22_code 9 = .ok (.iload_n 2, 1) := by decide +kernel
theorem dJ1_indexOf_4cfef_10 : decode prog_15_method_22_code 10 = .ok (.iconst 0, 1) := by decide +kernel
theorem dJ1_indexOf_4cfef_11 : decode prog_15_method_22_code 11 = .ok (.invokestatic 92, 3) := by decide +kernel
theorem dJ1_indexOf_4cfef_14 : decode prog_15_method_22_code 14 = .ok (.istore_n 2, 1) := by decide +kernel
theorem dJ1_indexOf_4cfef_15 : decode prog_15_method_22_code 15 = .ok (.iload_n 3, 1) := by decide +kernel
theorem dJ1_indexOf_4cfef_16 : decode prog_15_method_22_code 16 = .ok (.aload_n 0, 1) := by decide +kernel
theorem dJ1_indexOf_4cfef_17 : decode prog_15_method_22_code 17 = .ok (.arraylength, 1) := by decide +kernel
theorem dJ1_indexOf_4cfef_18 : decode prog_15_method_22_code 18 = .ok (.invokestatic 38, 3) := by decide +kernel
theorem dJ1_indexOf_4cfef_21 : decode prog_15_method_22_code 21 = .ok (.istore_n 3, 1) := by decide +kernel
theorem dJ1_indexOf_4cfef_22 : decode prog_15_method_22_code 22 = .ok (.iload_n 2, 1) := by decide +kernel
theorem dJ1_indexOf_4cfef_23 : decode prog_15_method_22_code 23 = .ok (.iload_n 3, 1) := by decide +kernel
theorem dJ1_indexOf_4cfef_24 : decode prog_15_method_22_code 24 = .ok (.if_icmp .lt 5, 3) := by decide +kernel
theorem dJ1_indexOf_4cfef_27 : decode prog_15_method_22_code 27 = .ok (.iconst (-1), 1) := by decide +kernel
theorem dJ1_indexOf_4cfef_28 : decode prog_15_method_22_code 28 = .ok (.ireturn, 1) := by decide +kernel
theorem dJ1_indexOf_4cfef_29 : decode prog_15_method_22_code 29 = .ok (.aload_n 0, 1) := by decide +kernel
theorem dJ1_indexOf_4cfef_30 : decode prog_15_method_22_code 30 = .ok (.iload_n 1, 1) := by decide +kernel
theorem dJ1_indexOf_4cfef_31 : decode prog_15_method_22_code 31 = .ok (.iload_n 2, 1) := by decide +kernel
theorem dJ1_indexOf_4cfef_32 : decode prog_15_method_22_code 32 = .ok (.iload_n 3, 1) := by decide +kernel
theorem dJ1_indexOf_4cfef_33 : decode prog_15_method_22_code 33 = .ok (.invokestatic 95, 3) := by decide +kernel
theorem dJ1_indexOf_4cfef_36 : decode prog_15_method_22_code 36 = .ok (.ireturn, 1) := by decide +kernel
abbrev IJ1_canEncode_9a6ad : Inf := (⟨"java/lang/StringLatin1", "canEncode", "(I)Z"⟩, prog_15_method_4_code, 1, (Option.some FieldType.boolean))
theorem dJ1_canEncode_9a6ad_0 : decode prog_15_method_4_code 0 = .ok (.iload_n 0, 1) := by decide +kernel
theorem dJ1_canEncode_9a6ad_1 : decode prog_15_method_4_code 1 = .ok (.ifCond .lt 14, 3) := by decide +kernel
theorem dJ1_canEncode_9a6ad_4 : decode prog_15_method_4_code 4 = .ok (.iload_n 0, 1) := by decide +kernel
theorem dJ1_canEncode_9a6ad_5 : decode prog_15_method_4_code 5 = .ok (.sipush 255, 3) := by decide +kernel
theorem dJ1_canEncode_9a6ad_8 : decode prog_15_method_4_code 8 = .ok (.if_icmp .gt 7, 3) := by decide +kernel
theorem dJ1_canEncode_9a6ad_11 : decode prog_15_method_4_code 11 = .ok (.iconst 1, 1) := by decide +kernel
theorem dJ1_canEncode_9a6ad_12 : decode prog_15_method_4_code 12 = .ok (.goto 4, 3) := by decide +kernel
theorem dJ1_canEncode_9a6ad_15 : decode prog_15_method_4_code 15 = .ok (.iconst 0, 1) := by decide +kernel
theorem dJ1_canEncode_9a6ad_16 : decode prog_15_method_4_code 16 = .ok (.ireturn, 1) := by decide +kernel
abbrev IJ1_indexOfChar_4cfef : Inf := (⟨"java/lang/StringLatin1", "indexOfChar", "([BIII)I"⟩, prog_15_method_23_code, 6, (Option.some FieldType.int))
theorem dJ1_indexOfChar_4cfef_0 : decode prog_15_method_23_code 0 = .ok (.iload_n 1, 1) := by decide +kernel
theorem dJ1_indexOfChar_4cfef_1 : decode prog_15_method_23_code 1 = .ok (.i2b, 1) := by decide +kernel
theorem dJ1_indexOfChar_4cfef_2 : decode prog_15_method_23_code 2 = .ok (.istore 4, 2) := by decide +kernel
theorem dJ1_indexOfChar_4cfef_4 : decode prog_15_method_23_code 4 = .ok (.iload_n 2, 1) := by decide +kernel
theorem dJ1_indexOfChar_4cfef_5 : decode prog_15_method_23_code 5 = .ok (.istore 5, 2) := by decide +kernel
theorem dJ1_indexOfChar_4cfef_7 : decode prog_15_method_23_code 7 = .ok (.iload 5, 2) := by decide +kernel
theorem dJ1_indexOfChar_4cfef_9 : decode prog_15_method_23_code 9 = .ok (.iload_n 3, 1) := by decide +kernel
theorem dJ1_indexOfChar_4cfef_10 : decode prog_15_method_23_code 10 = .ok (.if_icmp .ge 21, 3) := by decide +kernel
theorem dJ1_indexOfChar_4cfef_13 : decode prog_15_method_23_code 13 = .ok (.aload_n 0, 1) := by decide +kernel
theorem dJ1_indexOfChar_4cfef_14 : decode prog_15_method_23_code 14 = .ok (.iload 5, 2) := by decide +kernel
theorem dJ1_indexOfChar_4cfef_16 : decode prog_15_method_23_code 16 = .ok (.baload, 1) := by decide +kernel
theorem dJ1_indexOfChar_4cfef_17 : decode prog_15_method_23_code 17 = .ok (.iload 4, 2) := by decide +kernel
theorem dJ1_indexOfChar_4cfef_19 : decode prog_15_method_23_code 19 = .ok (.if_icmp .ne 6, 3) := by decide +kernel
theorem dJ1_indexOfChar_4cfef_22 : decode prog_15_method_23_code 22 = .ok (.iload 5, 2) := by decide +kernel
theorem dJ1_indexOfChar_4cfef_24 : decode prog_15_method_23_code 24 = .ok (.ireturn, 1) := by decide +kernel
theorem dJ1_indexOfChar_4cfef_25 : decode prog_15_method_23_code 25 = .ok (.iinc 5 1, 3) := by decide +kernel
theorem dJ1_indexOfChar_4cfef_28 : decode prog_15_method_23_code 28 = .ok (.goto (-21), 3) := by decide +kernel
theorem dJ1_indexOfChar_4cfef_31 : decode prog_15_method_23_code 31 = .ok (.iconst (-1), 1) := by decide +kernel
theorem dJ1_indexOfChar_4cfef_32 : decode prog_15_method_23_code 32 = .ok (.ireturn, 1) := by decide +kernel
theorem dX1_isWord_0 : decode prog_3_method_9_code 0 = .ok (.aload_n 0, 1) := by decide +kernel
theorem dX1_isWord_1 : decode prog_3_method_9_code 1 = .ok (.getfield 34, 3) := by decide +kernel
theorem dX1_isWord_4 : decode prog_3_method_9_code 4 = .ok (.bipush (-2), 2) := by decide +kernel
theorem dX1_isWord_6 : decode prog_3_method_9_code 6 = .ok (.if_icmp .ne 19, 3) := by decide +kernel
theorem dX1_isWord_9 : decode prog_3_method_9_code 9 = .ok (.aload_n 0, 1) := by decide +kernel
theorem dX1_isWord_10 : decode prog_3_method_9_code 10 = .ok (.getfield 31, 3) := by decide +kernel
theorem dX1_isWord_13 : decode prog_3_method_9_code 13 = .ok (.aload_n 0, 1) := by decide +kernel
theorem dX1_isWord_14 : decode prog_3_method_9_code 14 = .ok (.getfield 64, 3) := by decide +kernel
theorem dX1_isWord_17 : decode prog_3_method_9_code 17 = .ok (.isub, 1) := by decide +kernel
theorem dX1_isWord_18 : decode prog_3_method_9_code 18 = .ok (.aload_n 1, 1) := by decide +kernel
theorem dX1_isWord_19 : decode prog_3_method_9_code 19 = .ok (.invokevirtual 75, 3) := by decide +kernel
theorem dX1_isWord_22 : decode prog_3_method_9_code 22 = .ok (.if_icmp .eq 5, 3) := by decide +kernel
theorem dX1_isWord_25 : decode prog_3_method_9_code 25 = .ok (.iconst 0, 1) := by decide +kernel
theorem dX1_isWord_26 : decode prog_3_method_9_code 26 = .ok (.ireturn, 1) := by decide +kernel
theorem dX1_isWord_27 : decode prog_3_method_9_code 27 = .ok (.iconst 0, 1) := by decide +kernel
theorem dX1_isWord_28 : decode prog_3_method_9_code 28 = .ok (.istore_n 2, 1) := by decide +kernel
theorem dX1_isWord_29 : decode prog_3_method_9_code 29 = .ok (.iload_n 2, 1) := by decide +kernel
theorem dX1_isWord_30 : decode prog_3_method_9_code 30 = .ok (.aload_n 1, 1) := by decide +kernel
theorem dX1_isWord_31 : decode prog_3_method_9_code 31 = .ok (.invokevirtual 75, 3) := by decide +kernel
theorem dX1_isWord_34 : decode prog_3_method_9_code 34 = .ok (.if_icmp .ge 34, 3) := by decide +kernel
theorem dX1_isWord_37 : decode prog_3_method_9_code 37 = .ok (.aload_n 0, 1) := by decide +kernel
theorem dX1_isWord_38 : decode prog_3_method_9_code 38 = .ok (.aload_n 0, 1) := by decide +kernel
theorem dX1_isWord_39 : decode prog_3_method_9_code 39 = .ok (.getfield 64, 3) := by decide +kernel
theorem dX1_isWord_42 : decode prog_3_method_9_code 42 = .ok (.iload_n 2, 1) := by decide +kernel
theorem dX1_isWord_43 : decode prog_3_method_9_code 43 = .ok (.iadd, 1) := by decide +kernel
theorem dX1_isWord_44 : decode prog_3_method_9_code 44 = .ok (.aload_n 1, 1) := by decide +kernel
theorem dX1_isWord_45 : decode prog_3_method_9_code 45 = .ok (.iload_n 2, 1) := by decide +kernel
theorem dX1_isWord_46 : decode prog_3_method_9_code 46 = .ok (.invokevirtual 80, 3) := by decide +kernel
theorem dX1_isWord_49 : decode prog_3_method_9_code 49 = .ok (.aload_n 1, 1) := by decide +kernel
theorem dX1_isWord_50 : decode prog_3_method_9_code 50 = .ok (.iload_n 2, 1) := by decide +kernel
theorem dX1_isWord_51 : decode prog_3_method_9_code 51 = .ok (.invokevirtual 80, 3) := by decide +kernel
theorem dX1_isWord_54 : decode prog_3_method_9_code 54 = .ok (.invokevirtual 67, 3) := by decide +kernel
theorem dX1_isWord_57 : decode prog_3_method_9_code 57 = .ok (.ifCond .ne 5, 3) := by decide +kernel
theorem dX1_isWord_60 : decode prog_3_method_9_code 60 = .ok (.iconst 0, 1) := by decide +kernel
theorem dX1_isWord_61 : decode prog_3_method_9_code 61 = .ok (.ireturn, 1) := by decide +kernel
theorem dX1_isWord_62 : decode prog_3_method_9_code 62 = .ok (.iinc 2 1, 3) := by decide +kernel
theorem dX1_isWord_65 : decode prog_3_method_9_code 65 = .ok (.goto (-36), 3) := by decide +kernel
theorem dX1_isWord_68 : decode prog_3_method_9_code 68 = .ok (.iconst 1, 1) := by decide +kernel
theorem dX1_isWord_69 : decode prog_3_method_9_code 69 = .ok (.ireturn, 1) := by decide +kernel
theorem dX1_nameHere_0 : decode prog_3_method_16_code 0 = .ok (.aload_n 0, 1) := by decide +kernel
theorem dX1_nameHere_1 : decode prog_3_method_16_code 1 = .ok (.getfield 52, 3) := by decide +kernel
theorem dX1_nameHere_4 : decode prog_3_method_16_code 4 = .ok (.ifCond .ne 8, 3) := by decide +kernel
theorem dX1_nameHere_7 : decode prog_3_method_16_code 7 = .ok (.ldc 118, 2) := by decide +kernel
theorem dX1_nameHere_9 : decode prog_3_method_16_code 9 = .ok (.goto 18, 3) := by decide +kernel
theorem dX1_nameHere_12 : decode prog_3_method_16_code 12 = .ok (.aload_n 0, 1) := by decide +kernel
theorem dX1_nameHere_13 : decode prog_3_method_16_code 13 = .ok (.getfield 52, 3) := by decide +kernel
theorem dX1_nameHere_16 : decode prog_3_method_16_code 16 = .ok (.iconst 1, 1) := by decide +kernel
theorem dX1_nameHere_17 : decode prog_3_method_16_code 17 = .ok (.if_icmp .ne 8, 3) := by decide +kernel
theorem dX1_nameHere_20 : decode prog_3_method_16_code 20 = .ok (.ldc 120, 2) := by decide +kernel
theorem dX1_nameHere_22 : decode prog_3_method_16_code 22 = .ok (.goto 5, 3) := by decide +kernel
theorem dX1_nameHere_25 : decode prog_3_method_16_code 25 = .ok (.ldc 122, 2) := by decide +kernel
theorem dX1_nameHere_27 : decode prog_3_method_16_code 27 = .ok (.astore_n 1, 1) := by decide +kernel
theorem dX1_nameHere_28 : decode prog_3_method_16_code 28 = .ok (.aload_n 0, 1) := by decide +kernel
theorem dX1_nameHere_29 : decode prog_3_method_16_code 29 = .ok (.getfield 31, 3) := by decide +kernel
theorem dX1_nameHere_32 : decode prog_3_method_16_code 32 = .ok (.aload_n 0, 1) := by decide +kernel
theorem dX1_nameHere_33 : decode prog_3_method_16_code 33 = .ok (.getfield 64, 3) := by decide +kernel
theorem dX1_nameHere_36 : decode prog_3_method_16_code 36 = .ok (.isub, 1) := by decide +kernel
theorem dX1_nameHere_37 : decode prog_3_method_16_code 37 = .ok (.iconst 1, 1) := by decide +kernel
theorem dX1_nameHere_38 : decode prog_3_method_16_code 38 = .ok (.if_icmp .ne 31, 3) := by decide +kernel
theorem dX1_nameHere_41 : decode prog_3_method_16_code 41 = .ok (.aload_n 0, 1) := by decide +kernel
theorem dX1_nameHere_42 : decode prog_3_method_16_code 42 = .ok (.getfield 64, 3) := by decide +kernel
theorem dX1_nameHere_45 : decode prog_3_method_16_code 45 = .ok (.aload_n 0, 1) := by decide +kernel
theorem dX1_nameHere_46 : decode prog_3_method_16_code 46 = .ok (.getfield 18, 3) := by decide +kernel
theorem dX1_nameHere_49 : decode prog_3_method_16_code 49 = .ok (.if_icmp .ge 20, 3) := by decide +kernel
theorem dX1_nameHere_52 : decode prog_3_method_16_code 52 = .ok (.aload_n 1, 1) := by decide +kernel
theorem dX1_nameHere_53 : decode prog_3_method_16_code 53 = .ok (.aload_n 0, 1) := by decide +kernel
theorem dX1_nameHere_54 : decode prog_3_method_16_code 54 = .ok (.getfield 9, 3) := by decide +kernel
theorem dX1_nameHere_57 : decode prog_3_method_16_code 57 = .ok (.aload_n 0, 1) := by decide +kernel
theorem dX1_nameHere_58 : decode prog_3_method_16_code 58 = .ok (.getfield 64, 3) := by decide +kernel
theorem dX1_nameHere_61 : decode prog_3_method_16_code 61 = .ok (.iaload, 1) := by decide +kernel
theorem dX1_nameHere_62 : decode prog_3_method_16_code 62 = .ok (.i2c, 1) := by decide +kernel
theorem dX1_nameHere_63 : decode prog_3_method_16_code 63 = .ok (.invokevirtual 124, 3) := by decide +kernel
theorem dX1_nameHere_66 : decode prog_3_method_16_code 66 = .ok (.goto 4, 3) := by decide +kernel
theorem dX1_nameHere_69 : decode prog_3_method_16_code 69 = .ok (.iconst (-1), 1) := by decide +kernel
theorem dX1_nameHere_70 : decode prog_3_method_16_code 70 = .ok (.ireturn, 1) := by decide +kernel
section VS
variable {D : Dat} {d : Nat} {I : Inf} {pc pc2 : Nat} {L : List (Nat × Value)} {st st0 : List Value} {m m1 : Mem} {kc ks : Nat} {Q : Option Value → Mem → Prop}
theorem V_i2b {x v : Int32} (hd : decode I.2.1 pc = .ok (.i2b, 1)) (hv : x.toInt8.toInt32 = v) (k : V D d I pc2 L (.int v :: st) m kc ks Q) (hp : pc2 = pc + 1 := by rfl) : V D d I pc L (.int x :: st) m kc ks Q := by
  subst hp
  intro p l e R s mm args below meth c H locs cells slots ls A mc ms QQ hC hW hl g1 g2 hRm hq
  exact lv_i2b hC.1 hC.2.1 hd hv (k p l e R s mm args below meth c H locs cells slots ls A mc ms QQ hC hW hl g1 g2 hRm hq)
theorem V_str {i index : Nat} {tx : String} (hd : decode I.2.1 pc = .ok (.ldc index, 2)) (hi : strT[i]? = some (index, tx)) (hown : I.1.cls = "ParcelRing$Reader") (k : V D d I pc2 L (.ref (D.2.2.2.1 i) :: st) m kc ks Q) (hp : pc2 = pc + 2 := by rfl) : V D d I pc L st m kc ks Q := by
  subst hp
  intro p l e R s mm args below meth c H locs cells slots ls A mc ms QQ hC hW hl g1 g2 hRm hq
  have h1 := hC.2.2.2.2.2.2.1
  rw [hown] at h1
  exact va_ldcS hC.1 hC.2.1 h1 (hC.2.2.2.2.2.2.2.2.2.1.2.2.2.2.1 i _ hi) hd (k p l e R s mm args below meth c H locs cells slots ls A mc ms QQ hC hW hl g1 g2 hRm hq)
theorem V_cs {index : Nat} (hd : decode I.2.1 pc = .ok (.getstatic index, 3)) (hw : Cond.fieldLink I.1.cls index "java/lang/String" "COMPACT_STRINGS" "Z" ∈ GW) (k : V D d I pc2 L (.int 1 :: st) m kc ks Q) (hp : pc2 = pc + 3 := by rfl) : V D d I pc L st m kc ks Q := by
  subst hp
  intro p l e R s mm args below meth c H locs cells slots ls A mc ms QQ hC hW hl g1 g2 hRm hq
  obtain ⟨ws, hR, hP, hD, hS⟩ := id hW
  exact va_gets hC.1 hC.2.1 hC.2.2.2.2.2.2.2.2.2.1.2.2.2.2.2.1 hS hC.2.2.2.2.2.2.1 (hC.2.2.2.2.2.2.2.1 _ hw) (fun _ h => h) hd (k p l e R s mm args below meth c H locs cells slots ls A mc ms QQ hC hW hl g1 g2 hRm hq)
theorem V_fmt {index : Nat} (hd : decode I.2.1 pc = .ok (.getstatic index, 3)) (hw : Cond.fieldLink I.1.cls index "jdk/internal/util/Preconditions" "SIOOBE_FORMATTER" "Ljava/util/function/BiFunction;" ∈ GW) (k : ∀ x : Option Nat, V D d I pc2 L (va_rf x :: st) m kc ks Q) (hp : pc2 = pc + 3 := by rfl) : V D d I pc L st m kc ks Q := by
  subst hp
  intro p l e R s mm args below meth c H locs cells slots ls A mc ms QQ hC hW hl g1 g2 hRm hq
  obtain ⟨ws, hR, hP, hD, hS⟩ := id hW
  rcases hC.2.2.2.2.2.2.2.2.2.1.2.2.2.2.2.2.1 with hz | ⟨t, hz⟩
  · exact va_gets hC.1 hC.2.1 hz hS hC.2.2.2.2.2.2.1 (hC.2.2.2.2.2.2.2.1 _ hw) (fun _ h => h) hd (k none p l e R s mm args below meth c H locs cells slots ls A mc ms QQ hC hW hl g1 g2 hRm hq)
  · exact va_gets hC.1 hC.2.1 hz hS hC.2.2.2.2.2.2.1 (hC.2.2.2.2.2.2.2.1 _ hw) (fun _ h => h) hd (k (some t) p l e R s mm args below meth c H locs cells slots ls A mc ms QQ hC hW hl g1 g2 hRm hq)
theorem V_scoder {i index : Nat} (hi : i < 6) (hd : decode I.2.1 pc = .ok (.getfield index, 3)) (hw : Cond.fieldLink I.1.cls index "java/lang/String" "coder" "B" ∈ GW) (k : V D d I pc2 L (.int 0 :: st) m kc ks Q) (hp : pc2 = pc + 3 := by rfl) : V D d I pc L (.ref (D.2.2.2.1 i) :: st) m kc ks Q := by
  subst hp
  intro p l e R s mm args below meth c H locs cells slots ls A mc ms QQ hC hW hl g1 g2 hRm hq
  obtain ⟨ws, hR, hP, hD, hS⟩ := id hW
  exact vk_getf hC.1 hC.2.1 (hC.2.2.2.2.2.2.2.2.2.1.2.2.2.1.1 i hi).2.1 hS hC.2.2.2.2.2.2.1 (hC.2.2.2.2.2.2.2.1 _ hw) (fun _ h => h) hd (k p l e R s mm args below meth c H locs cells slots ls A mc ms QQ hC hW hl g1 g2 hRm hq)
theorem V_svalue {i index : Nat} (hi : i < 6) (hd : decode I.2.1 pc = .ok (.getfield index, 3)) (hw : Cond.fieldLink I.1.cls index "java/lang/String" "value" "[B" ∈ GW) (k : V D d I pc2 L (.ref (D.2.2.2.2.1 i) :: st) m kc ks Q) (hp : pc2 = pc + 3 := by rfl) : V D d I pc L (.ref (D.2.2.2.1 i) :: st) m kc ks Q := by
  subst hp
  intro p l e R s mm args below meth c H locs cells slots ls A mc ms QQ hC hW hl g1 g2 hRm hq
  obtain ⟨ws, hR, hP, hD, hS⟩ := id hW
  exact vk_getf hC.1 hC.2.1 (hC.2.2.2.2.2.2.2.2.2.1.2.2.2.1.1 i hi).2.2.1 hS hC.2.2.2.2.2.2.1 (hC.2.2.2.2.2.2.2.1 _ hw) (fun _ h => h) hd (k p l e R s mm args below meth c H locs cells slots ls A mc ms QQ hC hW hl g1 g2 hRm hq)
theorem V_sblen {i : Nat} (hi : i < 6) (hd : decode I.2.1 pc = .ok (.arraylength, 1)) (k : V D d I pc2 L (.int (nI (strL.getD i 0)) :: st) m kc ks Q) (hp : pc2 = pc + 1 := by rfl) : V D d I pc L (.ref (D.2.2.2.2.1 i) :: st) m kc ks Q := by
  subst hp
  intro p l e R s mm args below meth c H locs cells slots ls A mc ms QQ hC hW hl g1 g2 hRm hq
  obtain ⟨ws, hR, hP, hD, hS⟩ := id hW
  exact va_tlen hC.1 hC.2.1 (hC.2.2.2.2.2.2.2.2.2.1.2.2.2.1.1 i hi).2.2.2 hS rfl hd (k p l e R s mm args below meth c H locs cells slots ls A mc ms QQ hC hW hl g1 g2 hRm hq)
theorem V_sbld {i : Nat} {j : Int32} (hi : i < 6) (hd : decode I.2.1 pc = .ok (.baload, 1)) (hj : vp_in j (strL.getD i 0)) (k : V D d I pc2 L (.int ((strB.getD i []).getD j.toNatClampNeg 0) :: st) m kc ks Q) (hp : pc2 = pc + 1 := by rfl) : V D d I pc L (.int j :: .ref (D.2.2.2.2.1 i) :: st) m kc ks Q := by
  subst hp
  intro p l e R s mm args below meth c H locs cells slots ls A mc ms QQ hC hW hl g1 g2 hRm hq
  obtain ⟨ws, hR, hP, hD, hS⟩ := id hW
  exact va_tb hC.1 hC.2.1 (hC.2.2.2.2.2.2.2.2.2.1.2.2.2.1.1 i hi).2.2.2 hS hj rfl hd (k p l e R s mm args below meth c H locs cells slots ls A mc ms QQ hC hW hl g1 g2 hRm hq)
def MLz (own : String) (index : Nat) (J : Inf) (n : Nat) : Prop := Cond.methodLink own index J.1 ∈ GW ∧ Cond.instanceMethod J.1 ∈ GW ∧ Cond.selects "java/lang/String" J.1 J.1 ∈ GW ∧ Cond.initialized J.1.cls ∈ GW ∧ wI J ∈ GW ∧ (J.1.cls ≠ "java/lang/invoke/MethodHandle" ∧ J.1.cls ≠ "java/lang/invoke/VarHandle" ∧ (parseMethodDescriptor J.1.desc).map (fun d => d.parameters.length) = some n) ∧ J.2.2.1 ≤ 21
/-- a call on a String constant -/
theorem V_cZ {J : Inf} {index d2 n i : Nat} {v : Int32} (As : List Value) (hi : i < 6) (hT : T D d2 J (.ref (D.2.2.2.1 i) :: As) m 0 0 (Qi v m)) (hd : decode I.2.1 pc = .ok (.invokevirtual index, 3)) (hL : MLz I.1.cls index J n) (hdd : d2 < d) (hn : As.length = n) (hs : ((st.map fun v => v.category).sum) ≤ 8) (k : V D d I pc2 L (.int v :: st) m kc ks Q) (hst : As.reverse ++ .ref (D.2.2.2.1 i) :: st = st0 := by rfl) (hp : pc2 = pc + 3 := by rfl) : V D d I pc L st0 m kc ks Q := by
  subst hst
  subst hp
  obtain ⟨hw, hw2, hw3, hwi, hwc, hy, hml⟩ := hL
  intro p l e R s mm args below meth c H locs cells slots ls A mc ms QQ hC hW hl g1 g2 hRm hq
  have hG := hC.2.2.2.2.2.2.2.1
  have hrm : (rmOf d2 0 0).frames + 1 ≤ R.frames ∧ 8 + (J.2.2.1 + 11) + (rmOf d2 0 0).locals ≤ R.locals := ⟨by show d2 + 1 ≤ _; omega, by show 8 + (J.2.2.1 + 11) + 40 * d2 ≤ _; omega⟩
  have hrecv : ∃ cellB : Cell, H[D.2.2.2.1 i]? = some cellB ∧ cellB.vm.isStatics = false ∧ s.vm.findClass "java/lang/String" = some cellB.cls := by
    obtain ⟨ws, hR, hP, hD, hS⟩ := hW
    exact vk_recv hC.2.2.2.2.2.2.2.2.2.1.2.2.2.1 hi hS
  refine V_ret hC.2.2.2.2.2.2.2.2.2.2 hW (va_runV ⟨hC.1, hC.2.1, hC.2.2.1, hC.2.2.2.2.2.2.1, hG⟩ (hT l H.size) ⟨callB_of n hG (gw_cons hwc) rfl rfl rfl (hG _ hwi) (hG _ hw) hy hrm, hG _ hw2, hG _ hw3⟩ ⟨Pw_blind, hrecv, fun U hU hWm => ⟨rfl, Pw_call hC hW hU hWm⟩⟩ rfl hn hl.1 rfl (lv_room hs) hd ⟨by omega, by omega⟩) (fun r m1 H1 locs1 hQ1 hW1 => ?_)
  obtain ⟨rfl, rfl⟩ := hQ1
  exact k p l e R s mm args below meth c H1 locs1 _ _ ls A mc ms QQ hC hW1 hl (by omega) (by omega) hRm hq
end VS
def sCh (i k : Nat) : Int32 := (strB.getD i []).getD k 0
def sLn (i : Nat) : Nat := strL.getD i 0
theorem sCh_ok : ∀ i, i < 6 → ∀ k, k < sLn i → (((sCh i k) &&& (Int16.ofInt 255).toInt32).toUInt32 % 65536).toInt32 = sCh i k ∧ narrow .char (.int (sCh i k)) = .int (sCh i k) := by decide
theorem sLn_le : ∀ i, i < 6 → sLn i ≤ 4 := by decide
section JT
variable {D : Dat} {i : Nat} {m : Mem}
theorem tJ0_coder (hi : i < 6) : T D 0 IJ0_coder_7d493 [.ref (D.2.2.2.1 i)] m 0 0 (Qi 0 m) := by
  refine T_of_V (by decide) (Nat.le_of_ble_eq_true rfl) ?_
  show V D 0 IJ0_coder_7d493 0 [(0, .ref (D.2.2.2.1 i))] [] m 0 0 (Qi 0 m)
  refine V_cs (pc2 := 3) dJ0_coder_7d493_0 (gw_of 609 (by decide +kernel) (by decide +kernel)) ?_
  refine V_if_eq (pc2 := 6) (tgt := 13) dJ0_coder_7d493_3 (fun c => absurd c (by decide)) (fun _ => ?_)
  refine V_aload_n (pc2 := 7) dJ0_coder_7d493_6 0 rfl rfl ?_
  refine V_scoder hi (pc2 := 10) dJ0_coder_7d493_7 (gw_of 1403 (by decide +kernel) (by decide +kernel)) ?_
  refine V_goto (tgt := 14) dJ0_coder_7d493_10 ?_
  exact V_zret dJ0_coder_7d493_14 rfl (by decide) ⟨rfl, rfl⟩
theorem tJ0_isLatin1 (hi : i < 6) : T D 0 IJ0_isLatin1_aae02 [.ref (D.2.2.2.1 i)] m 0 0 (Qi 1 m) := by
  refine T_of_V (by decide) (Nat.le_of_ble_eq_true rfl) ?_
  show V D 0 IJ0_isLatin1_aae02 0 [(0, .ref (D.2.2.2.1 i))] [] m 0 0 (Qi 1 m)
  refine V_cs (pc2 := 3) dJ0_isLatin1_aae02_0 (gw_of 609 (by decide +kernel) (by decide +kernel)) ?_
  refine V_if_eq (pc2 := 6) (tgt := 17) dJ0_isLatin1_aae02_3 (fun c => absurd c (by decide)) (fun _ => ?_)
  refine V_aload_n (pc2 := 7) dJ0_isLatin1_aae02_6 0 rfl rfl ?_
  refine V_scoder hi (pc2 := 10) dJ0_isLatin1_aae02_7 (gw_of 1403 (by decide +kernel) (by decide +kernel)) ?_
  refine V_if_ne (pc2 := 13) (tgt := 17) dJ0_isLatin1_aae02_10 (fun c => absurd rfl c) (fun _ => ?_)
  refine V_iconst (v := 1) (pc2 := 14) dJ0_isLatin1_aae02_13 (by decide) ?_
  refine V_goto (tgt := 18) dJ0_isLatin1_aae02_14 ?_
  exact V_zret dJ0_isLatin1_aae02_18 rfl (by decide) ⟨rfl, rfl⟩
theorem tJ0_length (hi : i < 6) : T D 1 IJ0_length_8abf5 [.ref (D.2.2.2.1 i)] m 0 0 (Qi (nI (sLn i)) m) := by
  refine T_of_V (by decide) (Nat.le_of_ble_eq_true rfl) ?_
  show V D 1 IJ0_length_8abf5 0 [(0, .ref (D.2.2.2.1 i))] [] m 0 0 (Qi (nI (sLn i)) m)
  refine V_aload_n (pc2 := 1) dJ0_length_8abf5_0 0 rfl rfl ?_
  refine V_svalue hi (pc2 := 4) dJ0_length_8abf5_1 (gw_of 1402 (by decide +kernel) (by decide +kernel)) ?_
  refine V_sblen hi (pc2 := 5) dJ0_length_8abf5_4 ?_
  refine V_aload_n (pc2 := 6) dJ0_length_8abf5_5 0 rfl rfl ?_
  refine V_cZ (pc2 := 9) [] (st := [.int (nI (sLn i))]) hi (tJ0_coder hi) dJ0_length_8abf5_6 (⟨gw_of 605 (by decide +kernel) (by decide +kernel), gw_of 606 (by decide +kernel) (by decide +kernel), gw_of 607 (by decide +kernel) (by decide +kernel), gw_of 12 (by decide +kernel) (by decide +kernel), gw_of 608 (by decide +kernel) (by decide +kernel), ⟨by decide, by decide, by decide +kernel⟩, by decide⟩ : MLz "java/lang/String" 335 IJ0_coder_7d493 0) (by decide) rfl (Nat.le_of_ble_eq_true rfl) ?_
  refine V_ishr (pc2 := 10) dJ0_length_8abf5_9 ?_
  rw [sb_shr0]
  exact V_iret dJ0_length_8abf5_10 rfl ⟨rfl, rfl⟩
theorem tJ3_checkIndex {j n : Int32} {x : Option Nat} (h1 : ¬ j < 0) (h2 : j < n) : T D 0 IJ3_checkIndex_8e157 [.int j, .int n, va_rf x] m 0 0 (Qi j m) := by
  have key : V D 0 IJ3_checkIndex_8e157 0 [(0, .int j), (1, .int n)] [] m 0 0 (Qi j m) := by
    refine V_iload_n (pc2 := 1) dJ3_checkIndex_8e157_0 0 rfl rfl ?_
    refine V_if_lt (pc2 := 4) (tgt := 9) dJ3_checkIndex_8e157_1 (fun c => absurd c h1) (fun _ => ?_)
    refine V_iload_n (pc2 := 5) dJ3_checkIndex_8e157_4 0 rfl rfl ?_
    refine V_iload_n (pc2 := 6) dJ3_checkIndex_8e157_5 1 rfl rfl ?_
    refine V_icmp_lt (pc2 := 9) (tgt := 16) dJ3_checkIndex_8e157_6 (fun _ => ?_) (fun c => absurd h2 c)
    refine V_iload_n (pc2 := 17) dJ3_checkIndex_8e157_16 0 rfl rfl ?_
    exact V_iret dJ3_checkIndex_8e157_17 rfl ⟨rfl, rfl⟩
  cases x with
  | none => exact T_of_V (by decide) (Nat.le_of_ble_eq_true rfl) (V_lv key [0, 1] rfl)
  | some a => exact T_of_V (by decide) (Nat.le_of_ble_eq_true rfl) (V_lv key [0, 1] rfl)
theorem tJ0_checkIndex {j n : Int32} (h1 : ¬ j < 0) (h2 : j < n) : T D 1 IJ0_checkIndex_df160 [.int j, .int n] m 0 0 (Qv m) := by
  refine T_of_V (by decide) (Nat.le_of_ble_eq_true rfl) ?_
  show V D 1 IJ0_checkIndex_df160 0 [(0, .int j), (1, .int n)] [] m 0 0 (Qv m)
  refine V_iload_n (pc2 := 1) dJ0_checkIndex_df160_0 0 rfl rfl ?_
  refine V_iload_n (pc2 := 2) dJ0_checkIndex_df160_1 1 rfl rfl ?_
  refine V_fmt (pc2 := 5) dJ0_checkIndex_df160_2 (gw_of 625 (by decide +kernel) (by decide +kernel)) (fun x => ?_)
  refine V_cSi (pc2 := 8) [.int j, .int n, va_rf x] (st := []) (tJ3_checkIndex h1 h2) dJ0_checkIndex_df160_5 (⟨gw_of 627 (by decide +kernel) (by decide +kernel), gw_of 628 (by decide +kernel) (by decide +kernel), gw_of 14 (by decide +kernel) (by decide +kernel), gw_of 629 (by decide +kernel) (by decide +kernel), ⟨by decide, by decide, by decide +kernel⟩, by decide⟩ : MLs "java/lang/String" 1059 IJ3_checkIndex_8e157 3) (by decide) rfl (Nat.le_of_ble_eq_true rfl) ?_
  refine V_pop (pc2 := 9) dJ0_checkIndex_df160_8 rfl ?_
  exact V_vret dJ0_checkIndex_df160_9 rfl ⟨rfl, rfl⟩
theorem tJ1_charAt {k : Nat} (hi : i < 6) (hk : k < sLn i) : T D 2 IJ1_charAt_3b067 [.ref (D.2.2.2.2.1 i), .int (nI k)] m 0 0 (Qi (sCh i k) m) := by
  have h4 := sLn_le i hi
  refine T_of_V (by decide) (Nat.le_of_ble_eq_true rfl) ?_
  show V D 2 IJ1_charAt_3b067 0 [(0, .ref (D.2.2.2.2.1 i)), (1, .int (nI k))] [] m 0 0 (Qi (sCh i k) m)
  refine V_iload_n (pc2 := 1) dJ1_charAt_3b067_0 1 rfl rfl ?_
  refine V_aload_n (pc2 := 2) dJ1_charAt_3b067_1 0 rfl rfl ?_
  refine V_sblen hi (pc2 := 3) dJ1_charAt_3b067_2 ?_
  refine V_cSv (pc2 := 6) [.int (nI k), .int (nI (sLn i))] (st := []) (tJ0_checkIndex (nI_pos (by omega)) (nI_lt hk (by omega))) dJ1_charAt_3b067_3 (⟨gw_of 622 (by decide +kernel) (by decide +kernel), gw_of 623 (by decide +kernel) (by decide +kernel), gw_of 12 (by decide +kernel) (by decide +kernel), gw_of 624 (by decide +kernel) (by decide +kernel), ⟨by decide, by decide, by decide +kernel⟩, by decide⟩ : MLs "java/lang/StringLatin1" 9 IJ0_checkIndex_df160 2) (by decide) rfl (Nat.le_of_ble_eq_true rfl) ?_
  refine V_aload_n (pc2 := 7) dJ1_charAt_3b067_6 0 rfl rfl ?_
  refine V_iload_n (pc2 := 8) dJ1_charAt_3b067_7 1 rfl rfl ?_
  refine V_sbld hi (pc2 := 9) dJ1_charAt_3b067_8 (vp_in_nI hk (by show sLn i < _; omega)) ?_
  rw [nI_clamp (by omega)]
  refine V_sipush (v := (Int16.ofInt 255).toInt32) (pc2 := 12) dJ1_charAt_3b067_9 rfl ?_
  refine V_iand (pc2 := 13) dJ1_charAt_3b067_12 ?_
  refine V_i2c (v := sCh i k) (pc2 := 14) dJ1_charAt_3b067_13 (sCh_ok i hi k hk).1 ?_
  exact V_zret dJ1_charAt_3b067_14 rfl (sCh_ok i hi k hk).2 ⟨rfl, rfl⟩
theorem tJ0_charAt {k : Nat} (hi : i < 6) (hk : k < sLn i) : T D 3 IJ0_charAt_5068e [.ref (D.2.2.2.1 i), .int (nI k)] m 0 0 (Qi (sCh i k) m) := by
  refine T_of_V (by decide) (Nat.le_of_ble_eq_true rfl) ?_
  show V D 3 IJ0_charAt_5068e 0 [(0, .ref (D.2.2.2.1 i)), (1, .int (nI k))] [] m 0 0 (Qi (sCh i k) m)
  refine V_aload_n (pc2 := 1) dJ0_charAt_5068e_0 0 rfl rfl ?_
  refine V_cZ (pc2 := 4) [] (st := []) hi (tJ0_isLatin1 hi) dJ0_charAt_5068e_1 (⟨gw_of 615 (by decide +kernel) (by decide +kernel), gw_of 616 (by decide +kernel) (by decide +kernel), gw_of 617 (by decide +kernel) (by decide +kernel), gw_of 12 (by decide +kernel) (by decide +kernel), gw_of 618 (by decide +kernel) (by decide +kernel), ⟨by decide, by decide, by decide +kernel⟩, by decide⟩ : MLz "java/lang/String" 492 IJ0_isLatin1_aae02 0) (by decide) rfl (Nat.le_of_ble_eq_true rfl) ?_
  refine V_if_eq (pc2 := 7) (tgt := 16) dJ0_charAt_5068e_4 (fun c => absurd c (by decide)) (fun _ => ?_)
  refine V_aload_n (pc2 := 8) dJ0_charAt_5068e_7 0 rfl rfl ?_
  refine V_svalue hi (pc2 := 11) dJ0_charAt_5068e_8 (gw_of 1402 (by decide +kernel) (by decide +kernel)) ?_
  refine V_iload_n (pc2 := 12) dJ0_charAt_5068e_11 1 rfl rfl ?_
  refine V_cSi (pc2 := 15) [.ref (D.2.2.2.2.1 i), .int (nI k)] (st := []) (tJ1_charAt hi hk) dJ0_charAt_5068e_12 (⟨gw_of 619 (by decide +kernel) (by decide +kernel), gw_of 620 (by decide +kernel) (by decide +kernel), gw_of 13 (by decide +kernel) (by decide +kernel), gw_of 621 (by decide +kernel) (by decide +kernel), ⟨by decide, by decide, by decide +kernel⟩, by decide⟩ : MLs "java/lang/String" 495 IJ1_charAt_3b067 2) (by decide) rfl (Nat.le_of_ble_eq_true rfl) ?_
  exact V_zret dJ0_charAt_5068e_15 rfl (sCh_ok i hi k hk).2 ⟨rfl, rfl⟩
theorem tJ1_canEncode {x : Int32} (h1 : ¬ x < 0) (h2 : ¬ (Int16.ofInt 255).toInt32 < x) : T D 0 IJ1_canEncode_9a6ad [.int x] m 0 0 (Qi 1 m) := by
  refine T_of_V (by decide) (Nat.le_of_ble_eq_true rfl) ?_
  show V D 0 IJ1_canEncode_9a6ad 0 [(0, .int x)] [] m 0 0 (Qi 1 m)
  refine V_iload_n (pc2 := 1) dJ1_canEncode_9a6ad_0 0 rfl rfl ?_
  refine V_if_lt (pc2 := 4) (tgt := 15) dJ1_canEncode_9a6ad_1 (fun c => absurd c h1) (fun _ => ?_)
  refine V_iload_n (pc2 := 5) dJ1_canEncode_9a6ad_4 0 rfl rfl ?_
  refine V_sipush (v := (Int16.ofInt 255).toInt32) (pc2 := 8) dJ1_canEncode_9a6ad_5 rfl ?_
  refine V_icmp_gt (pc2 := 11) (tgt := 15) dJ1_canEncode_9a6ad_8 (fun c => absurd c h2) (fun _ => ?_)
  refine V_iconst (v := 1) (pc2 := 12) dJ1_canEncode_9a6ad_11 (by decide) ?_
  refine V_goto (tgt := 16) dJ1_canEncode_9a6ad_12 ?_
  exact V_zret dJ1_canEncode_9a6ad_16 rfl (by decide) ⟨rfl, rfl⟩
/-- the first place from k on, n places long, at which it stands -/
def fidx (i : Nat) (x : Int32) : Nat → Nat → Int32
  | 0, _ => -1
  | n + 1, k => if sCh i k = x then nI k else fidx i x n (k + 1)
theorem tJ1_indexOfChar {x : Int32} (hi : i < 6) : T D 0 IJ1_indexOfChar_4cfef [.ref (D.2.2.2.2.1 i), .int x, .int 0, .int (nI (sLn i))] m 0 0 (Qi (fidx i x.toInt8.toInt32 (sLn i) 0) m) := by
  have h4 := sLn_le i hi
  refine T_of_V (by decide) (Nat.le_of_ble_eq_true rfl) ?_
  show V D 0 IJ1_indexOfChar_4cfef 0 [(0, .ref (D.2.2.2.2.1 i)), (1, .int x), (2, .int 0), (3, .int (nI (sLn i)))] [] m 0 0 (Qi (fidx i x.toInt8.toInt32 (sLn i) 0) m)
  have key : ∀ n k : Nat, k + n = sLn i → V D 0 IJ1_indexOfChar_4cfef 7 [(0, .ref (D.2.2.2.2.1 i)), (3, .int (nI (sLn i))), (4, .int x.toInt8.toInt32), (5, .int (nI k))] [] m 0 0 (Qi (fidx i x.toInt8.toInt32 n k) m) := by
    intro n
    induction n with
    | zero =>
      intro k hk
      refine V_iload (pc2 := 9) dJ1_indexOfChar_4cfef_7 3 rfl ?_
      refine V_iload_n (pc2 := 10) dJ1_indexOfChar_4cfef_9 1 rfl rfl ?_
      refine V_icmp_ge (pc2 := 13) (tgt := 31) dJ1_indexOfChar_4cfef_10 (fun _ => ?_) (fun c => absurd (nI_le (by omega) (by omega)) c)
      refine V_iconst (v := -1) (pc2 := 32) dJ1_indexOfChar_4cfef_31 (by decide) ?_
      exact V_iret dJ1_indexOfChar_4cfef_32 rfl ⟨rfl, rfl⟩
    | succ n ih =>
      intro k hk
      refine V_iload (pc2 := 9) dJ1_indexOfChar_4cfef_7 3 rfl ?_
      refine V_iload_n (pc2 := 10) dJ1_indexOfChar_4cfef_9 1 rfl rfl ?_
      refine V_icmp_ge (pc2 := 13) (tgt := 31) dJ1_indexOfChar_4cfef_10 (fun c => absurd c (nI_ge (by omega) (by omega))) (fun _ => ?_)
      refine V_aload_n (pc2 := 14) dJ1_indexOfChar_4cfef_13 0 rfl rfl ?_
      refine V_iload (pc2 := 16) dJ1_indexOfChar_4cfef_14 3 rfl ?_
      refine V_sbld hi (pc2 := 17) dJ1_indexOfChar_4cfef_16 (vp_in_nI (by show k < sLn i; omega) (by show sLn i < _; omega)) ?_
      rw [nI_clamp (by omega)]
      refine V_iload (pc2 := 19) dJ1_indexOfChar_4cfef_17 2 rfl ?_
      refine V_icmp_ne (pc2 := 22) (tgt := 25) dJ1_indexOfChar_4cfef_19 (fun c => ?_) (fun c => ?_)
      · refine V_iinc (pc2 := 28) (v := nI (k + 1)) (L2 := [(5, .int (nI (k + 1))), (0, .ref (D.2.2.2.2.1 i)), (3, .int (nI (sLn i))), (4, .int x.toInt8.toInt32)]) dJ1_indexOfChar_4cfef_25 3 rfl (nI_1 k) ?_ rfl rfl
        refine V_goto (tgt := 7) dJ1_indexOfChar_4cfef_28 ?_
        have e : fidx i x.toInt8.toInt32 (n + 1) k = fidx i x.toInt8.toInt32 n (k + 1) := if_neg c
        rw [e]
        exact V_lv (ih (k + 1) (by omega)) [1, 2, 3, 0] rfl
      · refine V_iload (pc2 := 24) dJ1_indexOfChar_4cfef_22 3 rfl ?_
        have e : fidx i x.toInt8.toInt32 (n + 1) k = nI k := if_pos c
        rw [e]
        exact V_iret dJ1_indexOfChar_4cfef_24 rfl ⟨rfl, rfl⟩
  refine V_iload_n (pc2 := 1) dJ1_indexOfChar_4cfef_0 1 rfl rfl ?_
  refine V_i2b (pc2 := 2) dJ1_indexOfChar_4cfef_1 rfl ?_
  refine V_istore (pc2 := 4) (L2 := [(4, .int x.toInt8.toInt32), (0, .ref (D.2.2.2.2.1 i)), (1, .int x), (2, .int 0), (3, .int (nI (sLn i)))]) dJ1_indexOfChar_4cfef_2 ?_ rfl rfl
  refine V_iload_n (pc2 := 5) dJ1_indexOfChar_4cfef_4 3 rfl rfl ?_
  refine V_istore (pc2 := 7) (L2 := [(5, .int 0), (4, .int x.toInt8.toInt32), (0, .ref (D.2.2.2.2.1 i)), (1, .int x), (2, .int 0), (3, .int (nI (sLn i)))]) dJ1_indexOfChar_4cfef_5 ?_ rfl rfl
  exact V_lv (key (sLn i) 0 (by omega)) [2, 5, 1, 0] rfl
theorem tJ1_indexOf {x : Int32} (hi : i < 6) (h1 : ¬ x < 0) (h2 : ¬ (Int16.ofInt 255).toInt32 < x) : T D 1 IJ1_indexOf_4cfef [.ref (D.2.2.2.2.1 i), .int x, .int 0, .int (nI (sLn i))] m 0 0 (Qi (fidx i x.toInt8.toInt32 (sLn i) 0) m) := by
  have h4 := sLn_le i hi
  have h5 : 0 < sLn i := by revert i; decide
  refine T_of_V (by decide) (Nat.le_of_ble_eq_true rfl) ?_
  show V D 1 IJ1_indexOf_4cfef 0 [(0, .ref (D.2.2.2.2.1 i)), (1, .int x), (2, .int 0), (3, .int (nI (sLn i)))] [] m 0 0 (Qi (fidx i x.toInt8.toInt32 (sLn i) 0) m)
  refine V_iload_n (pc2 := 1) dJ1_indexOf_4cfef_0 1 rfl rfl ?_
  refine V_cSi (pc2 := 4) [.int x] (st := []) (tJ1_canEncode h1 h2) dJ1_indexOf_4cfef_1 (⟨gw_of 694 (by decide +kernel) (by decide +kernel), gw_of 695 (by decide +kernel) (by decide +kernel), gw_of 13 (by decide +kernel) (by decide +kernel), gw_of 696 (by decide +kernel) (by decide +kernel), ⟨by decide, by decide, by decide +kernel⟩, by decide⟩ : MLs "java/lang/StringLatin1" 88 IJ1_canEncode_9a6ad 1) (by decide) rfl (Nat.le_of_ble_eq_true rfl) ?_
  refine V_if_ne (pc2 := 7) (tgt := 9) dJ1_indexOf_4cfef_4 (fun _ => ?_) (fun c => absurd c (by decide))
  refine V_iload_n (pc2 := 10) dJ1_indexOf_4cfef_9 2 rfl rfl ?_
  refine V_iconst (v := 0) (pc2 := 11) dJ1_indexOf_4cfef_10 (by decide) ?_
  refine V_cSi (v := 0) (pc2 := 14) [.int 0, .int 0] (st := []) (tJ9_max_7cf53 (rR := 0) rfl) dJ1_indexOf_4cfef_11 (⟨gw_of 697 (by decide +kernel) (by decide +kernel), gw_of 310 (by decide +kernel) (by decide +kernel), gw_of 10 (by decide +kernel) (by decide +kernel), gw_of 311 (by decide +kernel) (by decide +kernel), ⟨by decide, by decide, by decide +kernel⟩, by decide⟩ : MLs "java/lang/StringLatin1" 92 IJ9_max_7cf53 2) (by decide) rfl (Nat.le_of_ble_eq_true rfl) ?_
  refine V_istore_n (pc2 := 15) (L2 := [(2, .int 0), (0, .ref (D.2.2.2.2.1 i)), (1, .int x), (3, .int (nI (sLn i)))]) dJ1_indexOf_4cfef_14 ?_ rfl rfl rfl
  refine V_iload_n (pc2 := 16) dJ1_indexOf_4cfef_15 3 rfl rfl ?_
  refine V_aload_n (pc2 := 17) dJ1_indexOf_4cfef_16 1 rfl rfl ?_
  refine V_sblen hi (pc2 := 18) dJ1_indexOf_4cfef_17 ?_
  refine V_cSi (v := nI (sLn i)) (pc2 := 21) [.int (nI (sLn i)), .int (nI (sLn i))] (st := []) (tJ9_min_7cf53 (rR := nI (sLn i)) (by unfold fJ9_min_7cf53; split <;> rfl)) dJ1_indexOf_4cfef_18 (⟨gw_of 698 (by decide +kernel) (by decide +kernel), gw_of 307 (by decide +kernel) (by decide +kernel), gw_of 10 (by decide +kernel) (by decide +kernel), gw_of 308 (by decide +kernel) (by decide +kernel), ⟨by decide, by decide, by decide +kernel⟩, by decide⟩ : MLs "java/lang/StringLatin1" 38 IJ9_min_7cf53 2) (by decide) rfl (Nat.le_of_ble_eq_true rfl) ?_
  refine V_istore_n (pc2 := 22) (L2 := [(3, .int (nI (sLn i))), (2, .int 0), (0, .ref (D.2.2.2.2.1 i)), (1, .int x)]) dJ1_indexOf_4cfef_21 ?_ rfl rfl rfl
  refine V_iload_n (pc2 := 23) dJ1_indexOf_4cfef_22 1 rfl rfl ?_
  refine V_iload_n (pc2 := 24) dJ1_indexOf_4cfef_23 0 rfl rfl ?_
  refine V_icmp_lt (pc2 := 27) (tgt := 29) dJ1_indexOf_4cfef_24 (fun _ => ?_) (fun c => absurd (show (0 : Int32) < nI (sLn i) from nI_lt (a := 0) h5 (by omega)) c)
  refine V_aload_n (pc2 := 30) dJ1_indexOf_4cfef_29 2 rfl rfl ?_
  refine V_iload_n (pc2 := 31) dJ1_indexOf_4cfef_30 3 rfl rfl ?_
  refine V_iload_n (pc2 := 32) dJ1_indexOf_4cfef_31 1 rfl rfl ?_
  refine V_iload_n (pc2 := 33) dJ1_indexOf_4cfef_32 0 rfl rfl ?_
  refine V_cSi (pc2 := 36) [.ref (D.2.2.2.2.1 i), .int x, .int 0, .int (nI (sLn i))] (st := []) (tJ1_indexOfChar hi) dJ1_indexOf_4cfef_33 (⟨gw_of 699 (by decide +kernel) (by decide +kernel), gw_of 700 (by decide +kernel) (by decide +kernel), gw_of 13 (by decide +kernel) (by decide +kernel), gw_of 701 (by decide +kernel) (by decide +kernel), ⟨by decide, by decide, by decide +kernel⟩, by decide⟩ : MLs "java/lang/StringLatin1" 95 IJ1_indexOfChar_4cfef 4) (by decide) rfl (Nat.le_of_ble_eq_true rfl) ?_
  exact V_iret dJ1_indexOf_4cfef_36 rfl ⟨rfl, rfl⟩
theorem tJ0_indexOf2 {x : Int32} (hi : i < 6) (h1 : ¬ x < 0) (h2 : ¬ (Int16.ofInt 255).toInt32 < x) : T D 2 IJ0_indexOf_7cf53 [.ref (D.2.2.2.1 i), .int x, .int 0] m 0 0 (Qi (fidx i x.toInt8.toInt32 (sLn i) 0) m) := by
  refine T_of_V (by decide) (Nat.le_of_ble_eq_true rfl) ?_
  show V D 2 IJ0_indexOf_7cf53 0 [(0, .ref (D.2.2.2.1 i)), (1, .int x), (2, .int 0)] [] m 0 0 (Qi (fidx i x.toInt8.toInt32 (sLn i) 0) m)
  refine V_aload_n (pc2 := 1) dJ0_indexOf_7cf53_0 0 rfl rfl ?_
  refine V_cZ (pc2 := 4) [] (st := []) hi (tJ0_isLatin1 hi) dJ0_indexOf_7cf53_1 (⟨gw_of 615 (by decide +kernel) (by decide +kernel), gw_of 616 (by decide +kernel) (by decide +kernel), gw_of 617 (by decide +kernel) (by decide +kernel), gw_of 12 (by decide +kernel) (by decide +kernel), gw_of 618 (by decide +kernel) (by decide +kernel), ⟨by decide, by decide, by decide +kernel⟩, by decide⟩ : MLz "java/lang/String" 492 IJ0_isLatin1_aae02 0) (by decide) rfl (Nat.le_of_ble_eq_true rfl) ?_
  refine V_if_eq (pc2 := 7) (tgt := 23) dJ0_indexOf_7cf53_4 (fun c => absurd c (by decide)) (fun _ => ?_)
  refine V_aload_n (pc2 := 8) dJ0_indexOf_7cf53_7 0 rfl rfl ?_
  refine V_svalue hi (pc2 := 11) dJ0_indexOf_7cf53_8 (gw_of 1402 (by decide +kernel) (by decide +kernel)) ?_
  refine V_iload_n (pc2 := 12) dJ0_indexOf_7cf53_11 1 rfl rfl ?_
  refine V_iload_n (pc2 := 13) dJ0_indexOf_7cf53_12 2 rfl rfl ?_
  refine V_aload_n (pc2 := 14) dJ0_indexOf_7cf53_13 0 rfl rfl ?_
  refine V_cZ (pc2 := 17) [] (st := [.int 0, .int x, .ref (D.2.2.2.2.1 i)]) hi (tJ0_length hi) dJ0_indexOf_7cf53_14 (⟨gw_of 690 (by decide +kernel) (by decide +kernel), gw_of 602 (by decide +kernel) (by decide +kernel), gw_of 603 (by decide +kernel) (by decide +kernel), gw_of 12 (by decide +kernel) (by decide +kernel), gw_of 604 (by decide +kernel) (by decide +kernel), ⟨by decide, by decide, by decide +kernel⟩, by decide⟩ : MLz "java/lang/String" 505 IJ0_length_8abf5 0) (by decide) rfl (Nat.le_of_ble_eq_true rfl) ?_
  refine V_cSi (pc2 := 20) [.ref (D.2.2.2.2.1 i), .int x, .int 0, .int (nI (sLn i))] (st := []) (tJ1_indexOf hi h1 h2) dJ0_indexOf_7cf53_17 (⟨gw_of 691 (by decide +kernel) (by decide +kernel), gw_of 692 (by decide +kernel) (by decide +kernel), gw_of 13 (by decide +kernel) (by decide +kernel), gw_of 693 (by decide +kernel) (by decide +kernel), ⟨by decide, by decide, by decide +kernel⟩, by decide⟩ : MLs "java/lang/String" 637 IJ1_indexOf_4cfef 4) (by decide) rfl (Nat.le_of_ble_eq_true rfl) ?_
  refine V_goto (tgt := 36) dJ0_indexOf_7cf53_20 ?_
  exact V_iret dJ0_indexOf_7cf53_36 rfl ⟨rfl, rfl⟩
theorem tJ0_indexOf {x : Int32} (hi : i < 6) (h1 : ¬ x < 0) (h2 : ¬ (Int16.ofInt 255).toInt32 < x) : T D 3 IJ0_indexOf_0f7a4 [.ref (D.2.2.2.1 i), .int x] m 0 0 (Qi (fidx i x.toInt8.toInt32 (sLn i) 0) m) := by
  refine T_of_V (by decide) (Nat.le_of_ble_eq_true rfl) ?_
  show V D 3 IJ0_indexOf_0f7a4 0 [(0, .ref (D.2.2.2.1 i)), (1, .int x)] [] m 0 0 (Qi (fidx i x.toInt8.toInt32 (sLn i) 0) m)
  refine V_aload_n (pc2 := 1) dJ0_indexOf_0f7a4_0 0 rfl rfl ?_
  refine V_iload_n (pc2 := 2) dJ0_indexOf_0f7a4_1 1 rfl rfl ?_
  refine V_iconst (v := 0) (pc2 := 3) dJ0_indexOf_0f7a4_2 (by decide) ?_
  refine V_cZ (pc2 := 6) [.int x, .int 0] (st := []) hi (tJ0_indexOf2 hi h1 h2) dJ0_indexOf_0f7a4_3 (⟨gw_of 686 (by decide +kernel) (by decide +kernel), gw_of 687 (by decide +kernel) (by decide +kernel), gw_of 688 (by decide +kernel) (by decide +kernel), gw_of 12 (by decide +kernel) (by decide +kernel), gw_of 689 (by decide +kernel) (by decide +kernel), ⟨by decide, by decide, by decide +kernel⟩, by decide⟩ : MLz "java/lang/String" 633 IJ0_indexOf_7cf53 2) (by decide) rfl (Nat.le_of_ble_eq_true rfl) ?_
  exact V_iret dJ0_indexOf_0f7a4_6 rfl ⟨rfl, rfl⟩
end JT
def sLnF (i : Nat) : Option Int32 := if i < 6 then some (nI (sLn i)) else none
def sChF (i : Nat) (k : Int32) : Option Int32 := if i < 6 ∧ ¬ k < 0 ∧ k.toNatClampNeg < sLn i then some (sCh i k.toNatClampNeg) else none
def sIxF (i : Nat) (x : Int32) : Option Int32 := if i < 6 ∧ ¬ x < 0 ∧ ¬ (Int16.ofInt 255).toInt32 < x then some (fidx i x.toInt8.toInt32 (sLn i) 0) else none
theorem tsLn {D : Dat} {i : Nat} {m : Mem} {v : Int32} (h : sLnF i = some v) : i < 6 ∧ T D 1 IJ0_length_8abf5 [.ref (D.2.2.2.1 i)] m 0 0 (Qi v m) := by
  unfold sLnF at h
  split at h
  · next hi => cases h; exact ⟨hi, tJ0_length hi⟩
  · cases h
theorem tsCh {D : Dat} {i : Nat} {k : Int32} {m : Mem} {v : Int32} (h : sChF i k = some v) : i < 6 ∧ T D 3 IJ0_charAt_5068e [.ref (D.2.2.2.1 i), .int k] m 0 0 (Qi v m) := by
  unfold sChF at h
  split at h
  · next hi =>
    cases h
    obtain ⟨j, hj, rfl⟩ := nI_of hi.2.1
    have h3 := hi.2.2
    rw [nI_clamp hj] at h3 ⊢
    exact ⟨hi.1, tJ0_charAt hi.1 h3⟩
  · cases h
theorem tsIx {D : Dat} {i : Nat} {x : Int32} {m : Mem} {v : Int32} (h : sIxF i x = some v) : i < 6 ∧ T D 3 IJ0_indexOf_0f7a4 [.ref (D.2.2.2.1 i), .int x] m 0 0 (Qi v m) := by
  unfold sIxF at h
  split at h
  · next hi => cases h; exact ⟨hi.1, tJ0_indexOf hi.1 hi.2.1 hi.2.2⟩
  · cases h
