theorem wV_1_40 : MLv "ParcelRing$Reader" 40 1 IX1_parseKey 0 := ⟨_, rfl, gw_of 592 (by decide +kernel) (by decide +kernel), gw_of 594 (by decide +kernel) (by decide +kernel), gw_sel 4 (by decide +kernel) (by decide +kernel), gw_of 5 (by decide +kernel) (by decide +kernel), gw_of 595 (by decide +kernel) (by decide +kernel), ⟨by decide, by decide, by decide +kernel⟩, by decide⟩
theorem wV_1_43 : MLv "ParcelRing$Reader" 43 1 IX1_parseJoined 3 := ⟨_, rfl, gw_of 655 (by decide +kernel) (by decide +kernel), gw_of 657 (by decide +kernel) (by decide +kernel), gw_sel 7 (by decide +kernel) (by decide +kernel), gw_of 5 (by decide +kernel) (by decide +kernel), gw_of 658 (by decide +kernel) (by decide +kernel), ⟨by decide, by decide, by decide +kernel⟩, by decide⟩
theorem wV_1_86 : MLv "ParcelRing$Reader" 86 1 IX1_isWord 1 := ⟨_, rfl, gw_of 597 (by decide +kernel) (by decide +kernel), gw_of 599 (by decide +kernel) (by decide +kernel), gw_sel 5 (by decide +kernel) (by decide +kernel), gw_of 5 (by decide +kernel) (by decide +kernel), gw_of 600 (by decide +kernel) (by decide +kernel), ⟨by decide, by decide, by decide +kernel⟩, by decide⟩
theorem wP_1_52 : FPk "ParcelRing$Reader" 52 1 6 := ⟨_, rfl, by decide, gw_of 166 (by decide +kernel) (by decide +kernel), rfl⟩
theorem wZ_1_75 : MLz "ParcelRing$Reader" 75 IJ0_length_8abf5 0 := ⟨gw_of 601 (by decide +kernel) (by decide +kernel), gw_of 602 (by decide +kernel) (by decide +kernel), gw_of 603 (by decide +kernel) (by decide +kernel), gw_of 12 (by decide +kernel) (by decide +kernel), gw_of 604 (by decide +kernel) (by decide +kernel), ⟨by decide, by decide, by decide +kernel⟩, by decide⟩
theorem wZ_1_80 : MLz "ParcelRing$Reader" 80 IJ0_charAt_5068e 1 := ⟨gw_of 611 (by decide +kernel) (by decide +kernel), gw_of 612 (by decide +kernel) (by decide +kernel), gw_of 613 (by decide +kernel) (by decide +kernel), gw_of 12 (by decide +kernel) (by decide +kernel), gw_of 614 (by decide +kernel) (by decide +kernel), ⟨by decide, by decide, by decide +kernel⟩, by decide⟩
theorem wS_1_98 : MLs "ParcelRing$Reader" 98 IX1_tightness 1 := ⟨gw_of 741 (by decide +kernel) (by decide +kernel), gw_of 742 (by decide +kernel) (by decide +kernel), gw_of 5 (by decide +kernel) (by decide +kernel), gw_of 743 (by decide +kernel) (by decide +kernel), ⟨by decide, by decide, by decide +kernel⟩, by decide⟩
theorem wV_1_94 : MLv "ParcelRing$Reader" 94 1 IX1_parsePiece 2 := ⟨_, rfl, gw_of 659 (by decide +kernel) (by decide +kernel), gw_of 661 (by decide +kernel) (by decide +kernel), gw_sel 8 (by decide +kernel) (by decide +kernel), gw_of 5 (by decide +kernel) (by decide +kernel), gw_of 662 (by decide +kernel) (by decide +kernel), ⟨by decide, by decide, by decide +kernel⟩, by decide⟩
theorem wV_1_115 : MLv "ParcelRing$Reader" 115 1 IX1_parseClosing 0 := ⟨_, rfl, gw_of 737 (by decide +kernel) (by decide +kernel), gw_of 739 (by decide +kernel) (by decide +kernel), gw_sel 13 (by decide +kernel) (by decide +kernel), gw_of 5 (by decide +kernel) (by decide +kernel), gw_of 740 (by decide +kernel) (by decide +kernel), ⟨by decide, by decide, by decide +kernel⟩, by decide⟩
theorem wV_1_112 : MLv "ParcelRing$Reader" 112 1 IX1_nameHere 0 := ⟨_, rfl, gw_of 675 (by decide +kernel) (by decide +kernel), gw_of 677 (by decide +kernel) (by decide +kernel), gw_sel 12 (by decide +kernel) (by decide +kernel), gw_of 5 (by decide +kernel) (by decide +kernel), gw_of 678 (by decide +kernel) (by decide +kernel), ⟨by decide, by decide, by decide +kernel⟩, by decide⟩
theorem wV_1_109 : MLv "ParcelRing$Reader" 109 1 IX1_addLeaf 1 := ⟨_, rfl, gw_of 667 (by decide +kernel) (by decide +kernel), gw_of 669 (by decide +kernel) (by decide +kernel), gw_sel 10 (by decide +kernel) (by decide +kernel), gw_of 5 (by decide +kernel) (by decide +kernel), gw_of 670 (by decide +kernel) (by decide +kernel), ⟨by decide, by decide, by decide +kernel⟩, by decide⟩
theorem wV_1_106 : MLv "ParcelRing$Reader" 106 1 IX1_numberHere 0 := ⟨_, rfl, gw_of 663 (by decide +kernel) (by decide +kernel), gw_of 665 (by decide +kernel) (by decide +kernel), gw_sel 9 (by decide +kernel) (by decide +kernel), gw_of 5 (by decide +kernel) (by decide +kernel), gw_of 666 (by decide +kernel) (by decide +kernel), ⟨by decide, by decide, by decide +kernel⟩, by decide⟩
theorem wF_1_52 : FLk "ParcelRing$Reader" 52 1 6 := ⟨_, rfl, by decide, gw_of 166 (by decide +kernel) (by decide +kernel)⟩
theorem wZ_1_124 : MLz "ParcelRing$Reader" 124 IJ0_indexOf_0f7a4 1 := ⟨gw_of 682 (by decide +kernel) (by decide +kernel), gw_of 683 (by decide +kernel) (by decide +kernel), gw_of 684 (by decide +kernel) (by decide +kernel), gw_of 12 (by decide +kernel) (by decide +kernel), gw_of 685 (by decide +kernel) (by decide +kernel), ⟨by decide, by decide, by decide +kernel⟩, by decide⟩
theorem wV_8_284 : MLv "ParcelRingModel" 284 8 IX8_parse 0 := ⟨_, rfl, gw_of 1249 (by decide +kernel) (by decide +kernel), gw_of 1251 (by decide +kernel) (by decide +kernel), gw_sel 45 (by decide +kernel) (by decide +kernel), gw_of 8 (by decide +kernel) (by decide +kernel), gw_of 1252 (by decide +kernel) (by decide +kernel), ⟨by decide, by decide, by decide +kernel⟩, by decide⟩
theorem wF_8_263 : FLk "ParcelRingModel" 263 8 24 := ⟨_, rfl, by decide, gw_of 917 (by decide +kernel) (by decide +kernel)⟩
theorem wP_8_272 : FPk "ParcelRingModel" 272 8 20 := ⟨_, rfl, by decide, gw_of 913 (by decide +kernel) (by decide +kernel), rfl⟩
theorem wP_8_269 : FPk "ParcelRingModel" 269 8 21 := ⟨_, rfl, by decide, gw_of 914 (by decide +kernel) (by decide +kernel), rfl⟩
theorem wP_8_263 : FPk "ParcelRingModel" 263 8 24 := ⟨_, rfl, by decide, gw_of 917 (by decide +kernel) (by decide +kernel), rfl⟩
theorem wP_8_232 : FPk "ParcelRingModel" 232 8 23 := ⟨_, rfl, by decide, gw_of 916 (by decide +kernel) (by decide +kernel), rfl⟩
theorem wV_8_244 : MLv "ParcelRingModel" 244 8 IX8_nextToken 0 := ⟨_, rfl, gw_of 1253 (by decide +kernel) (by decide +kernel), gw_of 1255 (by decide +kernel) (by decide +kernel), gw_sel 46 (by decide +kernel) (by decide +kernel), gw_of 8 (by decide +kernel) (by decide +kernel), gw_of 1256 (by decide +kernel) (by decide +kernel), ⟨by decide, by decide, by decide +kernel⟩, by decide⟩
theorem wV_8_281 : MLv "ParcelRingModel" 281 8 IX8_key 0 := ⟨_, rfl, gw_of 1269 (by decide +kernel) (by decide +kernel), gw_of 1271 (by decide +kernel) (by decide +kernel), gw_sel 49 (by decide +kernel) (by decide +kernel), gw_of 8 (by decide +kernel) (by decide +kernel), gw_of 1272 (by decide +kernel) (by decide +kernel), ⟨by decide, by decide, by decide +kernel⟩, by decide⟩
theorem wV_8_275 : MLv "ParcelRingModel" 275 8 IX8_either 1 := ⟨_, rfl, gw_of 1277 (by decide +kernel) (by decide +kernel), gw_of 1279 (by decide +kernel) (by decide +kernel), gw_sel 51 (by decide +kernel) (by decide +kernel), gw_of 8 (by decide +kernel) (by decide +kernel), gw_of 1280 (by decide +kernel) (by decide +kernel), ⟨by decide, by decide, by decide +kernel⟩, by decide⟩
theorem wV_8_238 : MLv "ParcelRingModel" 238 8 IX8_both 1 := ⟨_, rfl, gw_of 1281 (by decide +kernel) (by decide +kernel), gw_of 1283 (by decide +kernel) (by decide +kernel), gw_sel 52 (by decide +kernel) (by decide +kernel), gw_of 8 (by decide +kernel) (by decide +kernel), gw_of 1284 (by decide +kernel) (by decide +kernel), ⟨by decide, by decide, by decide +kernel⟩, by decide⟩
theorem wV_8_241 : MLv "ParcelRingModel" 241 8 IX8_isSign 1 := ⟨_, rfl, gw_of 1308 (by decide +kernel) (by decide +kernel), gw_of 1310 (by decide +kernel) (by decide +kernel), gw_sel 58 (by decide +kernel) (by decide +kernel), gw_of 8 (by decide +kernel) (by decide +kernel), gw_of 1311 (by decide +kernel) (by decide +kernel), ⟨by decide, by decide, by decide +kernel⟩, by decide⟩
theorem wV_8_247 : MLv "ParcelRingModel" 247 8 IX8_step 2 := ⟨_, rfl, gw_of 1301 (by decide +kernel) (by decide +kernel), gw_of 1303 (by decide +kernel) (by decide +kernel), gw_sel 57 (by decide +kernel) (by decide +kernel), gw_of 8 (by decide +kernel) (by decide +kernel), gw_of 1304 (by decide +kernel) (by decide +kernel), ⟨by decide, by decide, by decide +kernel⟩, by decide⟩
theorem wV_8_251 : MLv "ParcelRingModel" 251 8 IX8_test 1 := ⟨_, rfl, gw_of 1285 (by decide +kernel) (by decide +kernel), gw_of 1287 (by decide +kernel) (by decide +kernel), gw_sel 53 (by decide +kernel) (by decide +kernel), gw_of 8 (by decide +kernel) (by decide +kernel), gw_of 1288 (by decide +kernel) (by decide +kernel), ⟨by decide, by decide, by decide +kernel⟩, by decide⟩
theorem wV_8_254 : MLv "ParcelRingModel" 254 8 IX8_sum 1 := ⟨_, rfl, gw_of 1289 (by decide +kernel) (by decide +kernel), gw_of 1291 (by decide +kernel) (by decide +kernel), gw_sel 54 (by decide +kernel) (by decide +kernel), gw_of 8 (by decide +kernel) (by decide +kernel), gw_of 1292 (by decide +kernel) (by decide +kernel), ⟨by decide, by decide, by decide +kernel⟩, by decide⟩
theorem wV_8_257 : MLv "ParcelRingModel" 257 8 IX8_term 1 := ⟨_, rfl, gw_of 1293 (by decide +kernel) (by decide +kernel), gw_of 1295 (by decide +kernel) (by decide +kernel), gw_sel 55 (by decide +kernel) (by decide +kernel), gw_of 8 (by decide +kernel) (by decide +kernel), gw_of 1296 (by decide +kernel) (by decide +kernel), ⟨by decide, by decide, by decide +kernel⟩, by decide⟩
theorem wV_8_260 : MLv "ParcelRingModel" 260 8 IX8_part0 1 := ⟨_, rfl, gw_of 1297 (by decide +kernel) (by decide +kernel), gw_of 1299 (by decide +kernel) (by decide +kernel), gw_sel 56 (by decide +kernel) (by decide +kernel), gw_of 8 (by decide +kernel) (by decide +kernel), gw_of 1300 (by decide +kernel) (by decide +kernel), ⟨by decide, by decide, by decide +kernel⟩, by decide⟩
theorem wF_8_272 : FLk "ParcelRingModel" 272 8 20 := ⟨_, rfl, by decide, gw_of 913 (by decide +kernel) (by decide +kernel)⟩
theorem wF_8_269 : FLk "ParcelRingModel" 269 8 21 := ⟨_, rfl, by decide, gw_of 914 (by decide +kernel) (by decide +kernel)⟩
theorem wS_8_266 : MLs "ParcelRingModel" 266 IX8_isName 2 := ⟨gw_of 1305 (by decide +kernel) (by decide +kernel), gw_of 1306 (by decide +kernel) (by decide +kernel), gw_of 8 (by decide +kernel) (by decide +kernel), gw_of 1307 (by decide +kernel) (by decide +kernel), ⟨by decide, by decide, by decide +kernel⟩, by decide⟩
theorem dX1_parse_0 : decode prog_3_method_3_code 0 = .ok (.aload_n 0, 1) := by decide +kernel
theorem dX1_parse_1 : decode prog_3_method_3_code 1 = .ok (.iconst (-1), 1) := by decide +kernel
theorem dX1_parse_2 : decode prog_3_method_3_code 2 = .ok (.putfield 22, 3) := by decide +kernel
theorem dX1_parse_5 : decode prog_3_method_3_code 5 = .ok (.aload_n 0, 1) := by decide +kernel
theorem dX1_parse_6 : decode prog_3_method_3_code 6 = .ok (.iconst 0, 1) := by decide +kernel
theorem dX1_parse_7 : decode prog_3_method_3_code 7 = .ok (.putfield 25, 3) := by decide +kernel
theorem dX1_parse_10 : decode prog_3_method_3_code 10 = .ok (.aload_n 0, 1) := by decide +kernel
theorem dX1_parse_11 : decode prog_3_method_3_code 11 = .ok (.iconst 0, 1) := by decide +kernel
theorem dX1_parse_12 : decode prog_3_method_3_code 12 = .ok (.putfield 28, 3) := by decide +kernel
theorem dX1_parse_15 : decode prog_3_method_3_code 15 = .ok (.aload_n 0, 1) := by decide +kernel
theorem dX1_parse_16 : decode prog_3_method_3_code 16 = .ok (.iconst 0, 1) := by decide +kernel
theorem dX1_parse_17 : decode prog_3_method_3_code 17 = .ok (.putfield 31, 3) := by decide +kernel
theorem dX1_parse_20 : decode prog_3_method_3_code 20 = .ok (.aload_n 0, 1) := by decide +kernel
theorem dX1_parse_21 : decode prog_3_method_3_code 21 = .ok (.iconst (-1), 1) := by decide +kernel
theorem dX1_parse_22 : decode prog_3_method_3_code 22 = .ok (.putfield 34, 3) := by decide +kernel
theorem dX1_parse_25 : decode prog_3_method_3_code 25 = .ok (.aload_n 0, 1) := by decide +kernel
theorem dX1_parse_26 : decode prog_3_method_3_code 26 = .ok (.invokevirtual 37, 3) := by decide +kernel
theorem dX1_parse_29 : decode prog_3_method_3_code 29 = .ok (.aload_n 0, 1) := by decide +kernel
theorem dX1_parse_30 : decode prog_3_method_3_code 30 = .ok (.invokevirtual 40, 3) := by decide +kernel
theorem dX1_parse_33 : decode prog_3_method_3_code 33 = .ok (.aload_n 0, 1) := by decide +kernel
theorem dX1_parse_34 : decode prog_3_method_3_code 34 = .ok (.iconst 0, 1) := by decide +kernel
theorem dX1_parse_35 : decode prog_3_method_3_code 35 = .ok (.iconst 0, 1) := by decide +kernel
theorem dX1_parse_36 : decode prog_3_method_3_code 36 = .ok (.iconst 0, 1) := by decide +kernel
theorem dX1_parse_37 : decode prog_3_method_3_code 37 = .ok (.invokevirtual 43, 3) := by decide +kernel
theorem dX1_parse_40 : decode prog_3_method_3_code 40 = .ok (.aload_n 0, 1) := by decide +kernel
theorem dX1_parse_41 : decode prog_3_method_3_code 41 = .ok (.getfield 34, 3) := by decide +kernel
theorem dX1_parse_44 : decode prog_3_method_3_code 44 = .ok (.iconst (-1), 1) := by decide +kernel
theorem dX1_parse_45 : decode prog_3_method_3_code 45 = .ok (.if_icmp .eq 7, 3) := by decide +kernel
theorem dX1_parse_48 : decode prog_3_method_3_code 48 = .ok (.aload_n 0, 1) := by decide +kernel
theorem dX1_parse_49 : decode prog_3_method_3_code 49 = .ok (.invokevirtual 47, 3) := by decide +kernel
theorem dX1_parse_52 : decode prog_3_method_3_code 52 = .ok (.aload_n 0, 1) := by decide +kernel
theorem dX1_parse_53 : decode prog_3_method_3_code 53 = .ok (.getfield 22, 3) := by decide +kernel
theorem dX1_parse_56 : decode prog_3_method_3_code 56 = .ok (.ireturn, 1) := by decide +kernel
theorem dX1_parseKey_0 : decode prog_3_method_10_code 0 = .ok (.aload_n 0, 1) := by decide +kernel
theorem dX1_parseKey_1 : decode prog_3_method_10_code 1 = .ok (.ldc 84, 2) := by decide +kernel
theorem dX1_parseKey_3 : decode prog_3_method_10_code 3 = .ok (.invokevirtual 86, 3) := by decide +kernel
theorem dX1_parseKey_6 : decode prog_3_method_10_code 6 = .ok (.ifCond .eq 11, 3) := by decide +kernel
theorem dX1_parseKey_9 : decode prog_3_method_10_code 9 = .ok (.aload_n 0, 1) := by decide +kernel
theorem dX1_parseKey_10 : decode prog_3_method_10_code 10 = .ok (.iconst 0, 1) := by decide +kernel
theorem dX1_parseKey_11 : decode prog_3_method_10_code 11 = .ok (.putfield 52, 3) := by decide +kernel
theorem dX1_parseKey_14 : decode prog_3_method_10_code 14 = .ok (.goto 42, 3) := by decide +kernel
theorem dX1_parseKey_17 : decode prog_3_method_10_code 17 = .ok (.aload_n 0, 1) := by decide +kernel
theorem dX1_parseKey_18 : decode prog_3_method_10_code 18 = .ok (.ldc 90, 2) := by decide +kernel
theorem dX1_parseKey_20 : decode prog_3_method_10_code 20 = .ok (.invokevirtual 86, 3) := by decide +kernel
theorem dX1_parseKey_23 : decode prog_3_method_10_code 23 = .ok (.ifCond .eq 11, 3) := by decide +kernel
theorem dX1_parseKey_26 : decode prog_3_method_10_code 26 = .ok (.aload_n 0, 1) := by decide +kernel
theorem dX1_parseKey_27 : decode prog_3_method_10_code 27 = .ok (.iconst 1, 1) := by decide +kernel
theorem dX1_parseKey_28 : decode prog_3_method_10_code 28 = .ok (.putfield 52, 3) := by decide +kernel
theorem dX1_parseKey_31 : decode prog_3_method_10_code 31 = .ok (.goto 25, 3) := by decide +kernel
theorem dX1_parseKey_34 : decode prog_3_method_10_code 34 = .ok (.aload_n 0, 1) := by decide +kernel
theorem dX1_parseKey_35 : decode prog_3_method_10_code 35 = .ok (.ldc 92, 2) := by decide +kernel
theorem dX1_parseKey_37 : decode prog_3_method_10_code 37 = .ok (.invokevirtual 86, 3) := by decide +kernel
theorem dX1_parseKey_40 : decode prog_3_method_10_code 40 = .ok (.ifCond .eq 11, 3) := by decide +kernel
theorem dX1_parseKey_43 : decode prog_3_method_10_code 43 = .ok (.aload_n 0, 1) := by decide +kernel
theorem dX1_parseKey_44 : decode prog_3_method_10_code 44 = .ok (.iconst 2, 1) := by decide +kernel
theorem dX1_parseKey_45 : decode prog_3_method_10_code 45 = .ok (.putfield 52, 3) := by decide +kernel
theorem dX1_parseKey_48 : decode prog_3_method_10_code 48 = .ok (.goto 8, 3) := by decide +kernel
theorem dX1_parseKey_51 : decode prog_3_method_10_code 51 = .ok (.aload_n 0, 1) := by decide +kernel
theorem dX1_parseKey_52 : decode prog_3_method_10_code 52 = .ok (.invokevirtual 47, 3) := by decide +kernel
theorem dX1_parseKey_55 : decode prog_3_method_10_code 55 = .ok (.return_, 1) := by decide +kernel
theorem dX1_parseKey_56 : decode prog_3_method_10_code 56 = .ok (.aload_n 0, 1) := by decide +kernel
theorem dX1_parseKey_57 : decode prog_3_method_10_code 57 = .ok (.invokevirtual 37, 3) := by decide +kernel
theorem dX1_parseKey_60 : decode prog_3_method_10_code 60 = .ok (.return_, 1) := by decide +kernel
theorem dX1_parseJoined_0 : decode prog_3_method_12_code 0 = .ok (.iload_n 1, 1) := by decide +kernel
theorem dX1_parseJoined_1 : decode prog_3_method_12_code 1 = .ok (.iconst 4, 1) := by decide +kernel
theorem dX1_parseJoined_2 : decode prog_3_method_12_code 2 = .ok (.if_icmp .le 10, 3) := by decide +kernel
theorem dX1_parseJoined_5 : decode prog_3_method_12_code 5 = .ok (.aload_n 0, 1) := by decide +kernel
theorem dX1_parseJoined_6 : decode prog_3_method_12_code 6 = .ok (.iload_n 2, 1) := by decide +kernel
theorem dX1_parseJoined_7 : decode prog_3_method_12_code 7 = .ok (.iload_n 3, 1) := by decide +kernel
theorem dX1_parseJoined_8 : decode prog_3_method_12_code 8 = .ok (.invokevirtual 94, 3) := by decide +kernel
theorem dX1_parseJoined_11 : decode prog_3_method_12_code 11 = .ok (.return_, 1) := by decide +kernel
theorem dX1_parseJoined_12 : decode prog_3_method_12_code 12 = .ok (.aload_n 0, 1) := by decide +kernel
theorem dX1_parseJoined_13 : decode prog_3_method_12_code 13 = .ok (.iload_n 1, 1) := by decide +kernel
theorem dX1_parseJoined_14 : decode prog_3_method_12_code 14 = .ok (.iconst 1, 1) := by decide +kernel
theorem dX1_parseJoined_15 : decode prog_3_method_12_code 15 = .ok (.iadd, 1) := by decide +kernel
theorem dX1_parseJoined_16 : decode prog_3_method_12_code 16 = .ok (.iload_n 2, 1) := by decide +kernel
theorem dX1_parseJoined_17 : decode prog_3_method_12_code 17 = .ok (.iload_n 3, 1) := by decide +kernel
theorem dX1_parseJoined_18 : decode prog_3_method_12_code 18 = .ok (.invokevirtual 43, 3) := by decide +kernel
theorem dX1_parseJoined_21 : decode prog_3_method_12_code 21 = .ok (.iload_n 1, 1) := by decide +kernel
theorem dX1_parseJoined_22 : decode prog_3_method_12_code 22 = .ok (.iconst 2, 1) := by decide +kernel
theorem dX1_parseJoined_23 : decode prog_3_method_12_code 23 = .ok (.if_icmp .ne 7, 3) := by decide +kernel
theorem dX1_parseJoined_26 : decode prog_3_method_12_code 26 = .ok (.iconst 1, 1) := by decide +kernel
theorem dX1_parseJoined_27 : decode prog_3_method_12_code 27 = .ok (.goto 5, 3) := by decide +kernel
theorem dX1_parseJoined_30 : decode prog_3_method_12_code 30 = .ok (.bipush 96, 2) := by decide +kernel
theorem dX1_parseJoined_32 : decode prog_3_method_12_code 32 = .ok (.istore 4, 2) := by decide +kernel
theorem dX1_parseJoined_34 : decode prog_3_method_12_code 34 = .ok (.iconst 0, 1) := by decide +kernel
theorem dX1_parseJoined_35 : decode prog_3_method_12_code 35 = .ok (.istore 5, 2) := by decide +kernel
theorem dX1_parseJoined_37 : decode prog_3_method_12_code 37 = .ok (.iload 5, 2) := by decide +kernel
theorem dX1_parseJoined_39 : decode prog_3_method_12_code 39 = .ok (.iload 4, 2) := by decide +kernel
theorem dX1_parseJoined_41 : decode prog_3_method_12_code 41 = .ok (.if_icmp .ge 53, 3) := by decide +kernel
theorem dX1_parseJoined_44 : decode prog_3_method_12_code 44 = .ok (.aload_n 0, 1) := by decide +kernel
theorem dX1_parseJoined_45 : decode prog_3_method_12_code 45 = .ok (.getfield 22, 3) := by decide +kernel
theorem dX1_parseJoined_48 : decode prog_3_method_12_code 48 = .ok (.ifCond .ge 46, 3) := by decide +kernel
theorem dX1_parseJoined_51 : decode prog_3_method_12_code 51 = .ok (.aload_n 0, 1) := by decide +kernel
theorem dX1_parseJoined_52 : decode prog_3_method_12_code 52 = .ok (.getfield 34, 3) := by decide +kernel
theorem dX1_parseJoined_55 : decode prog_3_method_12_code 55 = .ok (.invokestatic 98, 3) := by decide +kernel
theorem dX1_parseJoined_58 : decode prog_3_method_12_code 58 = .ok (.iload_n 1, 1) := by decide +kernel
theorem dX1_parseJoined_59 : decode prog_3_method_12_code 59 = .ok (.if_icmp .ne 35, 3) := by decide +kernel
theorem dX1_parseJoined_62 : decode prog_3_method_12_code 62 = .ok (.aload_n 0, 1) := by decide +kernel
theorem dX1_parseJoined_63 : decode prog_3_method_12_code 63 = .ok (.getfield 34, 3) := by decide +kernel
theorem dX1_parseJoined_66 : decode prog_3_method_12_code 66 = .ok (.istore 6, 2) := by decide +kernel
theorem dX1_parseJoined_68 : decode prog_3_method_12_code 68 = .ok (.aload_n 0, 1) := by decide +kernel
theorem dX1_parseJoined_69 : decode prog_3_method_12_code 69 = .ok (.invokevirtual 37, 3) := by decide +kernel
theorem dX1_parseJoined_72 : decode prog_3_method_12_code 72 = .ok (.aload_n 0, 1) := by decide +kernel
theorem dX1_parseJoined_73 : decode prog_3_method_12_code 73 = .ok (.iload_n 1, 1) := by decide +kernel
theorem dX1_parseJoined_74 : decode prog_3_method_12_code 74 = .ok (.iconst 1, 1) := by decide +kernel
theorem dX1_parseJoined_75 : decode prog_3_method_12_code 75 = .ok (.iadd, 1) := by decide +kernel
theorem dX1_parseJoined_76 : decode prog_3_method_12_code 76 = .ok (.iload_n 2, 1) := by decide +kernel
theorem dX1_parseJoined_77 : decode prog_3_method_12_code 77 = .ok (.iload_n 3, 1) := by decide +kernel
theorem dX1_parseJoined_78 : decode prog_3_method_12_code 78 = .ok (.invokevirtual 43, 3) := by decide +kernel
theorem dX1_parseJoined_81 : decode prog_3_method_12_code 81 = .ok (.aload_n 0, 1) := by decide +kernel
theorem dX1_parseJoined_82 : decode prog_3_method_12_code 82 = .ok (.iload 6, 2) := by decide +kernel
theorem dX1_parseJoined_84 : decode prog_3_method_12_code 84 = .ok (.ineg, 1) := by decide +kernel
theorem dX1_parseJoined_85 : decode prog_3_method_12_code 85 = .ok (.invokevirtual 102, 3) := by decide +kernel
theorem dX1_parseJoined_88 : decode prog_3_method_12_code 88 = .ok (.iinc 5 1, 3) := by decide +kernel
theorem dX1_parseJoined_91 : decode prog_3_method_12_code 91 = .ok (.goto (-54), 3) := by decide +kernel
theorem dX1_parseJoined_94 : decode prog_3_method_12_code 94 = .ok (.return_, 1) := by decide +kernel
theorem dX1_parsePiece_0 : decode prog_3_method_13_code 0 = .ok (.aload_n 0, 1) := by decide +kernel
theorem dX1_parsePiece_1 : decode prog_3_method_13_code 1 = .ok (.getfield 22, 3) := by decide +kernel
theorem dX1_parsePiece_4 : decode prog_3_method_13_code 4 = .ok (.ifCond .lt 4, 3) := by decide +kernel
theorem dX1_parsePiece_7 : decode prog_3_method_13_code 7 = .ok (.return_, 1) := by decide +kernel
theorem dX1_parsePiece_8 : decode prog_3_method_13_code 8 = .ok (.aload_n 0, 1) := by decide +kernel
theorem dX1_parsePiece_9 : decode prog_3_method_13_code 9 = .ok (.getfield 34, 3) := by decide +kernel
theorem dX1_parsePiece_12 : decode prog_3_method_13_code 12 = .ok (.bipush (-3), 2) := by decide +kernel
theorem dX1_parsePiece_14 : decode prog_3_method_13_code 14 = .ok (.if_icmp .ne 18, 3) := by decide +kernel
theorem dX1_parsePiece_17 : decode prog_3_method_13_code 17 = .ok (.aload_n 0, 1) := by decide +kernel
theorem dX1_parsePiece_18 : decode prog_3_method_13_code 18 = .ok (.aload_n 0, 1) := by decide +kernel
theorem dX1_parsePiece_19 : decode prog_3_method_13_code 19 = .ok (.invokevirtual 106, 3) := by decide +kernel
theorem dX1_parsePiece_22 : decode prog_3_method_13_code 22 = .ok (.invokevirtual 109, 3) := by decide +kernel
theorem dX1_parsePiece_25 : decode prog_3_method_13_code 25 = .ok (.aload_n 0, 1) := by decide +kernel
theorem dX1_parsePiece_26 : decode prog_3_method_13_code 26 = .ok (.invokevirtual 37, 3) := by decide +kernel
theorem dX1_parsePiece_29 : decode prog_3_method_13_code 29 = .ok (.goto 113, 3) := by decide +kernel
theorem dX1_parsePiece_32 : decode prog_3_method_13_code 32 = .ok (.aload_n 0, 1) := by decide +kernel
theorem dX1_parsePiece_33 : decode prog_3_method_13_code 33 = .ok (.getfield 34, 3) := by decide +kernel
theorem dX1_parsePiece_36 : decode prog_3_method_13_code 36 = .ok (.bipush (-2), 2) := by decide +kernel
theorem dX1_parsePiece_38 : decode prog_3_method_13_code 38 = .ok (.if_icmp .ne 29, 3) := by decide +kernel
theorem dX1_parsePiece_41 : decode prog_3_method_13_code 41 = .ok (.aload_n 0, 1) := by decide +kernel
theorem dX1_parsePiece_42 : decode prog_3_method_13_code 42 = .ok (.invokevirtual 112, 3) := by decide +kernel
theorem dX1_parsePiece_45 : decode prog_3_method_13_code 45 = .ok (.ifCond .lt 22, 3) := by decide +kernel
theorem dX1_parsePiece_48 : decode prog_3_method_13_code 48 = .ok (.aload_n 0, 1) := by decide +kernel
theorem dX1_parsePiece_49 : decode prog_3_method_13_code 49 = .ok (.sipush 10000, 3) := by decide +kernel
theorem dX1_parsePiece_52 : decode prog_3_method_13_code 52 = .ok (.aload_n 0, 1) := by decide +kernel
theorem dX1_parsePiece_53 : decode prog_3_method_13_code 53 = .ok (.invokevirtual 112, 3) := by decide +kernel
theorem dX1_parsePiece_56 : decode prog_3_method_13_code 56 = .ok (.iadd, 1) := by decide +kernel
theorem dX1_parsePiece_57 : decode prog_3_method_13_code 57 = .ok (.invokevirtual 109, 3) := by decide +kernel
theorem dX1_parsePiece_60 : decode prog_3_method_13_code 60 = .ok (.aload_n 0, 1) := by decide +kernel
theorem dX1_parsePiece_61 : decode prog_3_method_13_code 61 = .ok (.invokevirtual 37, 3) := by decide +kernel
theorem dX1_parsePiece_64 : decode prog_3_method_13_code 64 = .ok (.goto 78, 3) := by decide +kernel
theorem dX1_parsePiece_67 : decode prog_3_method_13_code 67 = .ok (.aload_n 0, 1) := by decide +kernel
theorem dX1_parsePiece_68 : decode prog_3_method_13_code 68 = .ok (.getfield 34, 3) := by decide +kernel
theorem dX1_parsePiece_71 : decode prog_3_method_13_code 71 = .ok (.bipush 33, 2) := by decide +kernel
theorem dX1_parsePiece_73 : decode prog_3_method_13_code 73 = .ok (.if_icmp .ne 30, 3) := by decide +kernel
theorem dX1_parsePiece_76 : decode prog_3_method_13_code 76 = .ok (.iload_n 2, 1) := by decide +kernel
theorem dX1_parsePiece_77 : decode prog_3_method_13_code 77 = .ok (.bipush 8, 2) := by decide +kernel
theorem dX1_parsePiece_79 : decode prog_3_method_13_code 79 = .ok (.if_icmp .ge 24, 3) := by decide +kernel
theorem dX1_parsePiece_82 : decode prog_3_method_13_code 82 = .ok (.aload_n 0, 1) := by decide +kernel
theorem dX1_parsePiece_83 : decode prog_3_method_13_code 83 = .ok (.invokevirtual 37, 3) := by decide +kernel
theorem dX1_parsePiece_86 : decode prog_3_method_13_code 86 = .ok (.aload_n 0, 1) := by decide +kernel
theorem dX1_parsePiece_87 : decode prog_3_method_13_code 87 = .ok (.iload_n 1, 1) := by decide +kernel
theorem dX1_parsePiece_88 : decode prog_3_method_13_code 88 = .ok (.iload_n 2, 1) := by decide +kernel
theorem dX1_parsePiece_89 : decode prog_3_method_13_code 89 = .ok (.iconst 1, 1) := by decide +kernel
theorem dX1_parsePiece_90 : decode prog_3_method_13_code 90 = .ok (.iadd, 1) := by decide +kernel
theorem dX1_parsePiece_91 : decode prog_3_method_13_code 91 = .ok (.invokevirtual 94, 3) := by decide +kernel
theorem dX1_parsePiece_94 : decode prog_3_method_13_code 94 = .ok (.aload_n 0, 1) := by decide +kernel
theorem dX1_parsePiece_95 : decode prog_3_method_13_code 95 = .ok (.bipush (-33), 2) := by decide +kernel
theorem dX1_parsePiece_97 : decode prog_3_method_13_code 97 = .ok (.invokevirtual 102, 3) := by decide +kernel
theorem dX1_parsePiece_100 : decode prog_3_method_13_code 100 = .ok (.goto 42, 3) := by decide +kernel
theorem dX1_parsePiece_103 : decode prog_3_method_13_code 103 = .ok (.aload_n 0, 1) := by decide +kernel
theorem dX1_parsePiece_104 : decode prog_3_method_13_code 104 = .ok (.getfield 34, 3) := by decide +kernel
theorem dX1_parsePiece_107 : decode prog_3_method_13_code 107 = .ok (.bipush 40, 2) := by decide +kernel
theorem dX1_parsePiece_109 : decode prog_3_method_13_code 109 = .ok (.if_icmp .ne 29, 3) := by decide +kernel
theorem dX1_parsePiece_112 : decode prog_3_method_13_code 112 = .ok (.iload_n 1, 1) := by decide +kernel
theorem dX1_parsePiece_113 : decode prog_3_method_13_code 113 = .ok (.bipush 8, 2) := by decide +kernel
theorem dX1_parsePiece_115 : decode prog_3_method_13_code 115 = .ok (.if_icmp .ge 23, 3) := by decide +kernel
theorem dX1_parsePiece_118 : decode prog_3_method_13_code 118 = .ok (.aload_n 0, 1) := by decide +kernel
theorem dX1_parsePiece_119 : decode prog_3_method_13_code 119 = .ok (.invokevirtual 37, 3) := by decide +kernel
theorem dX1_parsePiece_122 : decode prog_3_method_13_code 122 = .ok (.aload_n 0, 1) := by decide +kernel
theorem dX1_parsePiece_123 : decode prog_3_method_13_code 123 = .ok (.iconst 0, 1) := by decide +kernel
theorem dX1_parsePiece_124 : decode prog_3_method_13_code 124 = .ok (.iload_n 1, 1) := by decide +kernel
theorem dX1_parsePiece_125 : decode prog_3_method_13_code 125 = .ok (.iconst 1, 1) := by decide +kernel
theorem dX1_parsePiece_126 : decode prog_3_method_13_code 126 = .ok (.iadd, 1) := by decide +kernel
theorem dX1_parsePiece_127 : decode prog_3_method_13_code 127 = .ok (.iload_n 2, 1) := by decide +kernel
theorem dX1_parsePiece_128 : decode prog_3_method_13_code 128 = .ok (.invokevirtual 43, 3) := by decide +kernel
theorem dX1_parsePiece_131 : decode prog_3_method_13_code 131 = .ok (.aload_n 0, 1) := by decide +kernel
theorem dX1_parsePiece_132 : decode prog_3_method_13_code 132 = .ok (.invokevirtual 115, 3) := by decide +kernel
theorem dX1_parsePiece_135 : decode prog_3_method_13_code 135 = .ok (.goto 7, 3) := by decide +kernel
theorem dX1_parsePiece_138 : decode prog_3_method_13_code 138 = .ok (.aload_n 0, 1) := by decide +kernel
theorem dX1_parsePiece_139 : decode prog_3_method_13_code 139 = .ok (.invokevirtual 47, 3) := by decide +kernel
theorem dX1_parsePiece_142 : decode prog_3_method_13_code 142 = .ok (.return_, 1) := by decide +kernel
theorem dX8_text_0 : decode prog_10_method_77_code 0 = .ok (.aload_n 0, 1) := by decide +kernel
theorem dX8_text_1 : decode prog_10_method_77_code 1 = .ok (.invokevirtual 284, 3) := by decide +kernel
theorem dX8_text_4 : decode prog_10_method_77_code 4 = .ok (.istore_n 1, 1) := by decide +kernel
theorem dX8_text_5 : decode prog_10_method_77_code 5 = .ok (.iload_n 1, 1) := by decide +kernel
theorem dX8_text_6 : decode prog_10_method_77_code 6 = .ok (.ifCond .ge 11, 3) := by decide +kernel
theorem dX8_text_9 : decode prog_10_method_77_code 9 = .ok (.bipush (-100), 2) := by decide +kernel
theorem dX8_text_11 : decode prog_10_method_77_code 11 = .ok (.aload_n 0, 1) := by decide +kernel
theorem dX8_text_12 : decode prog_10_method_77_code 12 = .ok (.getfield 213, 3) := by decide +kernel
theorem dX8_text_15 : decode prog_10_method_77_code 15 = .ok (.isub, 1) := by decide +kernel
theorem dX8_text_16 : decode prog_10_method_77_code 16 = .ok (.ireturn, 1) := by decide +kernel
theorem dX8_text_17 : decode prog_10_method_77_code 17 = .ok (.aload_n 0, 1) := by decide +kernel
theorem dX8_text_18 : decode prog_10_method_77_code 18 = .ok (.getfield 7, 3) := by decide +kernel
theorem dX8_text_21 : decode prog_10_method_77_code 21 = .ok (.iconst 3, 1) := by decide +kernel
theorem dX8_text_22 : decode prog_10_method_77_code 22 = .ok (.iaload, 1) := by decide +kernel
theorem dX8_text_23 : decode prog_10_method_77_code 23 = .ok (.bipush 14, 2) := by decide +kernel
theorem dX8_text_25 : decode prog_10_method_77_code 25 = .ok (.if_icmp .ne 6, 3) := by decide +kernel
theorem dX8_text_28 : decode prog_10_method_77_code 28 = .ok (.ldc 73, 2) := by decide +kernel
theorem dX8_text_30 : decode prog_10_method_77_code 30 = .ok (.ireturn, 1) := by decide +kernel
theorem dX8_text_31 : decode prog_10_method_77_code 31 = .ok (.aload_n 0, 1) := by decide +kernel
theorem dX8_text_32 : decode prog_10_method_77_code 32 = .ok (.aload_n 0, 1) := by decide +kernel
theorem dX8_text_33 : decode prog_10_method_77_code 33 = .ok (.getfield 7, 3) := by decide +kernel
theorem dX8_text_36 : decode prog_10_method_77_code 36 = .ok (.iconst 3, 1) := by decide +kernel
theorem dX8_text_37 : decode prog_10_method_77_code 37 = .ok (.iaload, 1) := by decide +kernel
theorem dX8_text_38 : decode prog_10_method_77_code 38 = .ok (.invokevirtual 278, 3) := by decide +kernel
theorem dX8_text_41 : decode prog_10_method_77_code 41 = .ok (.istore_n 2, 1) := by decide +kernel
theorem dX8_text_42 : decode prog_10_method_77_code 42 = .ok (.aload_n 0, 1) := by decide +kernel
theorem dX8_text_43 : decode prog_10_method_77_code 43 = .ok (.getfield 7, 3) := by decide +kernel
theorem dX8_text_46 : decode prog_10_method_77_code 46 = .ok (.iload_n 2, 1) := by decide +kernel
theorem dX8_text_47 : decode prog_10_method_77_code 47 = .ok (.iconst 0, 1) := by decide +kernel
theorem dX8_text_48 : decode prog_10_method_77_code 48 = .ok (.iadd, 1) := by decide +kernel
theorem dX8_text_49 : decode prog_10_method_77_code 49 = .ok (.iload_n 1, 1) := by decide +kernel
theorem dX8_text_50 : decode prog_10_method_77_code 50 = .ok (.iastore, 1) := by decide +kernel
theorem dX8_text_51 : decode prog_10_method_77_code 51 = .ok (.aload_n 0, 1) := by decide +kernel
theorem dX8_text_52 : decode prog_10_method_77_code 52 = .ok (.getfield 7, 3) := by decide +kernel
theorem dX8_text_55 : decode prog_10_method_77_code 55 = .ok (.iload_n 2, 1) := by decide +kernel
theorem dX8_text_56 : decode prog_10_method_77_code 56 = .ok (.iconst 1, 1) := by decide +kernel
theorem dX8_text_57 : decode prog_10_method_77_code 57 = .ok (.iadd, 1) := by decide +kernel
theorem dX8_text_58 : decode prog_10_method_77_code 58 = .ok (.aload_n 0, 1) := by decide +kernel
theorem dX8_text_59 : decode prog_10_method_77_code 59 = .ok (.getfield 263, 3) := by decide +kernel
theorem dX8_text_62 : decode prog_10_method_77_code 62 = .ok (.iastore, 1) := by decide +kernel
theorem dX8_text_63 : decode prog_10_method_77_code 63 = .ok (.aload_n 0, 1) := by decide +kernel
theorem dX8_text_64 : decode prog_10_method_77_code 64 = .ok (.getfield 7, 3) := by decide +kernel
theorem dX8_text_67 : decode prog_10_method_77_code 67 = .ok (.iload_n 2, 1) := by decide +kernel
theorem dX8_text_68 : decode prog_10_method_77_code 68 = .ok (.iconst 2, 1) := by decide +kernel
theorem dX8_text_69 : decode prog_10_method_77_code 69 = .ok (.iadd, 1) := by decide +kernel
theorem dX8_text_70 : decode prog_10_method_77_code 70 = .ok (.aload_n 0, 1) := by decide +kernel
theorem dX8_text_71 : decode prog_10_method_77_code 71 = .ok (.getfield 235, 3) := by decide +kernel
theorem dX8_text_74 : decode prog_10_method_77_code 74 = .ok (.iastore, 1) := by decide +kernel
theorem dX8_text_75 : decode prog_10_method_77_code 75 = .ok (.aload_n 0, 1) := by decide +kernel
theorem dX8_text_76 : decode prog_10_method_77_code 76 = .ok (.getfield 7, 3) := by decide +kernel
theorem dX8_text_79 : decode prog_10_method_77_code 79 = .ok (.iconst 3, 1) := by decide +kernel
theorem dX8_text_80 : decode prog_10_method_77_code 80 = .ok (.dup2, 1) := by decide +kernel
theorem dX8_text_81 : decode prog_10_method_77_code 81 = .ok (.iaload, 1) := by decide +kernel
theorem dX8_text_82 : decode prog_10_method_77_code 82 = .ok (.iconst 1, 1) := by decide +kernel
theorem dX8_text_83 : decode prog_10_method_77_code 83 = .ok (.iadd, 1) := by decide +kernel
theorem dX8_text_84 : decode prog_10_method_77_code 84 = .ok (.iastore, 1) := by decide +kernel
theorem dX8_text_85 : decode prog_10_method_77_code 85 = .ok (.aload_n 0, 1) := by decide +kernel
theorem dX8_text_86 : decode prog_10_method_77_code 86 = .ok (.getfield 7, 3) := by decide +kernel
theorem dX8_text_89 : decode prog_10_method_77_code 89 = .ok (.iconst 3, 1) := by decide +kernel
theorem dX8_text_90 : decode prog_10_method_77_code 90 = .ok (.iaload, 1) := by decide +kernel
theorem dX8_text_91 : decode prog_10_method_77_code 91 = .ok (.iconst 1, 1) := by decide +kernel
theorem dX8_text_92 : decode prog_10_method_77_code 92 = .ok (.isub, 1) := by decide +kernel
theorem dX8_text_93 : decode prog_10_method_77_code 93 = .ok (.ireturn, 1) := by decide +kernel
theorem dX8_parse_0 : decode prog_10_method_76_code 0 = .ok (.aload_n 0, 1) := by decide +kernel
theorem dX8_parse_1 : decode prog_10_method_76_code 1 = .ok (.iconst 0, 1) := by decide +kernel
theorem dX8_parse_2 : decode prog_10_method_76_code 2 = .ok (.putfield 207, 3) := by decide +kernel
theorem dX8_parse_5 : decode prog_10_method_76_code 5 = .ok (.aload_n 0, 1) := by decide +kernel
theorem dX8_parse_6 : decode prog_10_method_76_code 6 = .ok (.iconst 3, 1) := by decide +kernel
theorem dX8_parse_7 : decode prog_10_method_76_code 7 = .ok (.putfield 210, 3) := by decide +kernel
theorem dX8_parse_10 : decode prog_10_method_76_code 10 = .ok (.aload_n 0, 1) := by decide +kernel
theorem dX8_parse_11 : decode prog_10_method_76_code 11 = .ok (.iconst 0, 1) := by decide +kernel
theorem dX8_parse_12 : decode prog_10_method_76_code 12 = .ok (.putfield 272, 3) := by decide +kernel
theorem dX8_parse_15 : decode prog_10_method_76_code 15 = .ok (.aload_n 0, 1) := by decide +kernel
theorem dX8_parse_16 : decode prog_10_method_76_code 16 = .ok (.iconst 0, 1) := by decide +kernel
theorem dX8_parse_17 : decode prog_10_method_76_code 17 = .ok (.putfield 269, 3) := by decide +kernel
theorem dX8_parse_20 : decode prog_10_method_76_code 20 = .ok (.aload_n 0, 1) := by decide +kernel
theorem dX8_parse_21 : decode prog_10_method_76_code 21 = .ok (.iconst 0, 1) := by decide +kernel
theorem dX8_parse_22 : decode prog_10_method_76_code 22 = .ok (.putfield 235, 3) := by decide +kernel
theorem dX8_parse_25 : decode prog_10_method_76_code 25 = .ok (.aload_n 0, 1) := by decide +kernel
theorem dX8_parse_26 : decode prog_10_method_76_code 26 = .ok (.iconst 0, 1) := by decide +kernel
theorem dX8_parse_27 : decode prog_10_method_76_code 27 = .ok (.putfield 263, 3) := by decide +kernel
theorem dX8_parse_30 : decode prog_10_method_76_code 30 = .ok (.aload_n 0, 1) := by decide +kernel
theorem dX8_parse_31 : decode prog_10_method_76_code 31 = .ok (.aload_n 0, 1) := by decide +kernel
theorem dX8_parse_32 : decode prog_10_method_76_code 32 = .ok (.getfield 7, 3) := by decide +kernel
theorem dX8_parse_35 : decode prog_10_method_76_code 35 = .ok (.iconst 3, 1) := by decide +kernel
theorem dX8_parse_36 : decode prog_10_method_76_code 36 = .ok (.iaload, 1) := by decide +kernel
theorem dX8_parse_37 : decode prog_10_method_76_code 37 = .ok (.bipush 14, 2) := by decide +kernel
theorem dX8_parse_39 : decode prog_10_method_76_code 39 = .ok (.if_icmp .ge 18, 3) := by decide +kernel
theorem dX8_parse_42 : decode prog_10_method_76_code 42 = .ok (.aload_n 0, 1) := by decide +kernel
theorem dX8_parse_43 : decode prog_10_method_76_code 43 = .ok (.aload_n 0, 1) := by decide +kernel
theorem dX8_parse_44 : decode prog_10_method_76_code 44 = .ok (.getfield 7, 3) := by decide +kernel
theorem dX8_parse_47 : decode prog_10_method_76_code 47 = .ok (.iconst 3, 1) := by decide +kernel
theorem dX8_parse_48 : decode prog_10_method_76_code 48 = .ok (.iaload, 1) := by decide +kernel
theorem dX8_parse_49 : decode prog_10_method_76_code 49 = .ok (.invokevirtual 278, 3) := by decide +kernel
theorem dX8_parse_52 : decode prog_10_method_76_code 52 = .ok (.iconst 4, 1) := by decide +kernel
theorem dX8_parse_53 : decode prog_10_method_76_code 53 = .ok (.iadd, 1) := by decide +kernel
theorem dX8_parse_54 : decode prog_10_method_76_code 54 = .ok (.goto 6, 3) := by decide +kernel
theorem dX8_parse_57 : decode prog_10_method_76_code 57 = .ok (.sipush 2892, 3) := by decide +kernel
theorem dX8_parse_60 : decode prog_10_method_76_code 60 = .ok (.putfield 232, 3) := by decide +kernel
theorem dX8_parse_63 : decode prog_10_method_76_code 63 = .ok (.aload_n 0, 1) := by decide +kernel
theorem dX8_parse_64 : decode prog_10_method_76_code 64 = .ok (.invokevirtual 244, 3) := by decide +kernel
theorem dX8_parse_67 : decode prog_10_method_76_code 67 = .ok (.aload_n 0, 1) := by decide +kernel
theorem dX8_parse_68 : decode prog_10_method_76_code 68 = .ok (.invokevirtual 281, 3) := by decide +kernel
theorem dX8_parse_71 : decode prog_10_method_76_code 71 = .ok (.istore_n 1, 1) := by decide +kernel
theorem dX8_parse_72 : decode prog_10_method_76_code 72 = .ok (.iload_n 1, 1) := by decide +kernel
theorem dX8_parse_73 : decode prog_10_method_76_code 73 = .ok (.ifCond .lt 7, 3) := by decide +kernel
theorem dX8_parse_76 : decode prog_10_method_76_code 76 = .ok (.iconst 1, 1) := by decide +kernel
theorem dX8_parse_77 : decode prog_10_method_76_code 77 = .ok (.goto 4, 3) := by decide +kernel
theorem dX8_parse_80 : decode prog_10_method_76_code 80 = .ok (.iconst 0, 1) := by decide +kernel
theorem dX8_parse_81 : decode prog_10_method_76_code 81 = .ok (.istore_n 2, 1) := by decide +kernel
theorem dX8_parse_82 : decode prog_10_method_76_code 82 = .ok (.iload_n 2, 1) := by decide +kernel
theorem dX8_parse_83 : decode prog_10_method_76_code 83 = .ok (.ifCond .eq 28, 3) := by decide +kernel
theorem dX8_parse_86 : decode prog_10_method_76_code 86 = .ok (.aload_n 0, 1) := by decide +kernel
theorem dX8_parse_87 : decode prog_10_method_76_code 87 = .ok (.invokevirtual 244, 3) := by decide +kernel
theorem dX8_parse_90 : decode prog_10_method_76_code 90 = .ok (.aload_n 0, 1) := by decide +kernel
theorem dX8_parse_91 : decode prog_10_method_76_code 91 = .ok (.iload_n 1, 1) := by decide +kernel
theorem dX8_parse_92 : decode prog_10_method_76_code 92 = .ok (.invokevirtual 275, 3) := by decide +kernel
theorem dX8_parse_95 : decode prog_10_method_76_code 95 = .ok (.ifCond .eq 14, 3) := by decide +kernel
theorem dX8_parse_98 : decode prog_10_method_76_code 98 = .ok (.aload_n 0, 1) := by decide +kernel
theorem dX8_parse_99 : decode prog_10_method_76_code 99 = .ok (.getfield 210, 3) := by decide +kernel
theorem dX8_parse_102 : decode prog_10_method_76_code 102 = .ok (.ifCond .ne 7, 3) := by decide +kernel
theorem dX8_parse_105 : decode prog_10_method_76_code 105 = .ok (.iconst 1, 1) := by decide +kernel
theorem dX8_parse_106 : decode prog_10_method_76_code 106 = .ok (.goto 4, 3) := by decide +kernel
theorem dX8_parse_109 : decode prog_10_method_76_code 109 = .ok (.iconst 0, 1) := by decide +kernel
theorem dX8_parse_110 : decode prog_10_method_76_code 110 = .ok (.istore_n 2, 1) := by decide +kernel
theorem dX8_parse_111 : decode prog_10_method_76_code 111 = .ok (.aload_n 0, 1) := by decide +kernel
theorem dX8_parse_112 : decode prog_10_method_76_code 112 = .ok (.iconst 0, 1) := by decide +kernel
theorem dX8_parse_113 : decode prog_10_method_76_code 113 = .ok (.putfield 195, 3) := by decide +kernel
theorem dX8_parse_116 : decode prog_10_method_76_code 116 = .ok (.iload_n 2, 1) := by decide +kernel
theorem dX8_parse_117 : decode prog_10_method_76_code 117 = .ok (.ifCond .eq 7, 3) := by decide +kernel
theorem dX8_parse_120 : decode prog_10_method_76_code 120 = .ok (.iload_n 1, 1) := by decide +kernel
theorem dX8_parse_121 : decode prog_10_method_76_code 121 = .ok (.goto 4, 3) := by decide +kernel
theorem dX8_parse_124 : decode prog_10_method_76_code 124 = .ok (.iconst (-1), 1) := by decide +kernel
theorem dX8_parse_125 : decode prog_10_method_76_code 125 = .ok (.ireturn, 1) := by decide +kernel
theorem dX8_either_0 : decode prog_10_method_70_code 0 = .ok (.aload_n 0, 1) := by decide +kernel
theorem dX8_either_1 : decode prog_10_method_70_code 1 = .ok (.iload_n 1, 1) := by decide +kernel
theorem dX8_either_2 : decode prog_10_method_70_code 2 = .ok (.invokevirtual 238, 3) := by decide +kernel
theorem dX8_either_5 : decode prog_10_method_70_code 5 = .ok (.ifCond .ne 5, 3) := by decide +kernel
theorem dX8_either_8 : decode prog_10_method_70_code 8 = .ok (.iconst 0, 1) := by decide +kernel
theorem dX8_either_9 : decode prog_10_method_70_code 9 = .ok (.ireturn, 1) := by decide +kernel
theorem dX8_either_10 : decode prog_10_method_70_code 10 = .ok (.aload_n 0, 1) := by decide +kernel
theorem dX8_either_11 : decode prog_10_method_70_code 11 = .ok (.bipush 124, 2) := by decide +kernel
theorem dX8_either_13 : decode prog_10_method_70_code 13 = .ok (.invokevirtual 241, 3) := by decide +kernel
theorem dX8_either_16 : decode prog_10_method_70_code 16 = .ok (.ifCond .eq 27, 3) := by decide +kernel
theorem dX8_either_19 : decode prog_10_method_70_code 19 = .ok (.aload_n 0, 1) := by decide +kernel
theorem dX8_either_20 : decode prog_10_method_70_code 20 = .ok (.invokevirtual 244, 3) := by decide +kernel
theorem dX8_either_23 : decode prog_10_method_70_code 23 = .ok (.aload_n 0, 1) := by decide +kernel
theorem dX8_either_24 : decode prog_10_method_70_code 24 = .ok (.iload_n 1, 1) := by decide +kernel
theorem dX8_either_25 : decode prog_10_method_70_code 25 = .ok (.invokevirtual 238, 3) := by decide +kernel
theorem dX8_either_28 : decode prog_10_method_70_code 28 = .ok (.ifCond .ne 5, 3) := by decide +kernel
theorem dX8_either_31 : decode prog_10_method_70_code 31 = .ok (.iconst 0, 1) := by decide +kernel
theorem dX8_either_32 : decode prog_10_method_70_code 32 = .ok (.ireturn, 1) := by decide +kernel
theorem dX8_either_33 : decode prog_10_method_70_code 33 = .ok (.aload_n 0, 1) := by decide +kernel
theorem dX8_either_34 : decode prog_10_method_70_code 34 = .ok (.iconst 2, 1) := by decide +kernel
theorem dX8_either_35 : decode prog_10_method_70_code 35 = .ok (.bipush 124, 2) := by decide +kernel
theorem dX8_either_37 : decode prog_10_method_70_code 37 = .ok (.invokevirtual 247, 3) := by decide +kernel
theorem dX8_either_40 : decode prog_10_method_70_code 40 = .ok (.goto (-30), 3) := by decide +kernel
theorem dX8_either_43 : decode prog_10_method_70_code 43 = .ok (.iconst 1, 1) := by decide +kernel
theorem dX8_either_44 : decode prog_10_method_70_code 44 = .ok (.ireturn, 1) := by decide +kernel
theorem dX8_both_0 : decode prog_10_method_71_code 0 = .ok (.aload_n 0, 1) := by decide +kernel
theorem dX8_both_1 : decode prog_10_method_71_code 1 = .ok (.iload_n 1, 1) := by decide +kernel
theorem dX8_both_2 : decode prog_10_method_71_code 2 = .ok (.invokevirtual 251, 3) := by decide +kernel
theorem dX8_both_5 : decode prog_10_method_71_code 5 = .ok (.ifCond .ne 5, 3) := by decide +kernel
theorem dX8_both_8 : decode prog_10_method_71_code 8 = .ok (.iconst 0, 1) := by decide +kernel
theorem dX8_both_9 : decode prog_10_method_71_code 9 = .ok (.ireturn, 1) := by decide +kernel
theorem dX8_both_10 : decode prog_10_method_71_code 10 = .ok (.aload_n 0, 1) := by decide +kernel
theorem dX8_both_11 : decode prog_10_method_71_code 11 = .ok (.bipush 38, 2) := by decide +kernel
theorem dX8_both_13 : decode prog_10_method_71_code 13 = .ok (.invokevirtual 241, 3) := by decide +kernel
theorem dX8_both_16 : decode prog_10_method_71_code 16 = .ok (.ifCond .eq 27, 3) := by decide +kernel
theorem dX8_both_19 : decode prog_10_method_71_code 19 = .ok (.aload_n 0, 1) := by decide +kernel
theorem dX8_both_20 : decode prog_10_method_71_code 20 = .ok (.invokevirtual 244, 3) := by decide +kernel
theorem dX8_both_23 : decode prog_10_method_71_code 23 = .ok (.aload_n 0, 1) := by decide +kernel
theorem dX8_both_24 : decode prog_10_method_71_code 24 = .ok (.iload_n 1, 1) := by decide +kernel
theorem dX8_both_25 : decode prog_10_method_71_code 25 = .ok (.invokevirtual 251, 3) := by decide +kernel
theorem dX8_both_28 : decode prog_10_method_71_code 28 = .ok (.ifCond .ne 5, 3) := by decide +kernel
theorem dX8_both_31 : decode prog_10_method_71_code 31 = .ok (.iconst 0, 1) := by decide +kernel
theorem dX8_both_32 : decode prog_10_method_71_code 32 = .ok (.ireturn, 1) := by decide +kernel
theorem dX8_both_33 : decode prog_10_method_71_code 33 = .ok (.aload_n 0, 1) := by decide +kernel
theorem dX8_both_34 : decode prog_10_method_71_code 34 = .ok (.iconst 2, 1) := by decide +kernel
theorem dX8_both_35 : decode prog_10_method_71_code 35 = .ok (.bipush 38, 2) := by decide +kernel
theorem dX8_both_37 : decode prog_10_method_71_code 37 = .ok (.invokevirtual 247, 3) := by decide +kernel
theorem dX8_both_40 : decode prog_10_method_71_code 40 = .ok (.goto (-30), 3) := by decide +kernel
theorem dX8_both_43 : decode prog_10_method_71_code 43 = .ok (.iconst 1, 1) := by decide +kernel
theorem dX8_both_44 : decode prog_10_method_71_code 44 = .ok (.ireturn, 1) := by decide +kernel
theorem dX8_test_0 : decode prog_10_method_72_code 0 = .ok (.aload_n 0, 1) := by decide +kernel
theorem dX8_test_1 : decode prog_10_method_72_code 1 = .ok (.iload_n 1, 1) := by decide +kernel
theorem dX8_test_2 : decode prog_10_method_72_code 2 = .ok (.invokevirtual 254, 3) := by decide +kernel
theorem dX8_test_5 : decode prog_10_method_72_code 5 = .ok (.ifCond .ne 5, 3) := by decide +kernel
theorem dX8_test_8 : decode prog_10_method_72_code 8 = .ok (.iconst 0, 1) := by decide +kernel
theorem dX8_test_9 : decode prog_10_method_72_code 9 = .ok (.ireturn, 1) := by decide +kernel
theorem dX8_test_10 : decode prog_10_method_72_code 10 = .ok (.aload_n 0, 1) := by decide +kernel
theorem dX8_test_11 : decode prog_10_method_72_code 11 = .ok (.bipush 60, 2) := by decide +kernel
theorem dX8_test_13 : decode prog_10_method_72_code 13 = .ok (.invokevirtual 241, 3) := by decide +kernel
theorem dX8_test_16 : decode prog_10_method_72_code 16 = .ok (.ifCond .ne 21, 3) := by decide +kernel
theorem dX8_test_19 : decode prog_10_method_72_code 19 = .ok (.aload_n 0, 1) := by decide +kernel
theorem dX8_test_20 : decode prog_10_method_72_code 20 = .ok (.bipush 61, 2) := by decide +kernel
theorem dX8_test_22 : decode prog_10_method_72_code 22 = .ok (.invokevirtual 241, 3) := by decide +kernel
theorem dX8_test_25 : decode prog_10_method_72_code 25 = .ok (.ifCond .ne 12, 3) := by decide +kernel
theorem dX8_test_28 : decode prog_10_method_72_code 28 = .ok (.aload_n 0, 1) := by decide +kernel
theorem dX8_test_29 : decode prog_10_method_72_code 29 = .ok (.bipush 62, 2) := by decide +kernel
theorem dX8_test_31 : decode prog_10_method_72_code 31 = .ok (.invokevirtual 241, 3) := by decide +kernel
theorem dX8_test_34 : decode prog_10_method_72_code 34 = .ok (.ifCond .eq 28, 3) := by decide +kernel
theorem dX8_test_37 : decode prog_10_method_72_code 37 = .ok (.aload_n 0, 1) := by decide +kernel
theorem dX8_test_38 : decode prog_10_method_72_code 38 = .ok (.getfield 219, 3) := by decide +kernel
theorem dX8_test_41 : decode prog_10_method_72_code 41 = .ok (.istore_n 2, 1) := by decide +kernel
theorem dX8_test_42 : decode prog_10_method_72_code 42 = .ok (.aload_n 0, 1) := by decide +kernel
theorem dX8_test_43 : decode prog_10_method_72_code 43 = .ok (.invokevirtual 244, 3) := by decide +kernel
theorem dX8_test_46 : decode prog_10_method_72_code 46 = .ok (.aload_n 0, 1) := by decide +kernel
theorem dX8_test_47 : decode prog_10_method_72_code 47 = .ok (.iload_n 1, 1) := by decide +kernel
theorem dX8_test_48 : decode prog_10_method_72_code 48 = .ok (.invokevirtual 254, 3) := by decide +kernel
theorem dX8_test_51 : decode prog_10_method_72_code 51 = .ok (.ifCond .ne 5, 3) := by decide +kernel
theorem dX8_test_54 : decode prog_10_method_72_code 54 = .ok (.iconst 0, 1) := by decide +kernel
theorem dX8_test_55 : decode prog_10_method_72_code 55 = .ok (.ireturn, 1) := by decide +kernel
theorem dX8_test_56 : decode prog_10_method_72_code 56 = .ok (.aload_n 0, 1) := by decide +kernel
theorem dX8_test_57 : decode prog_10_method_72_code 57 = .ok (.iconst 2, 1) := by decide +kernel
theorem dX8_test_58 : decode prog_10_method_72_code 58 = .ok (.iload_n 2, 1) := by decide +kernel
theorem dX8_test_59 : decode prog_10_method_72_code 59 = .ok (.invokevirtual 247, 3) := by decide +kernel
theorem dX8_test_62 : decode prog_10_method_72_code 62 = .ok (.iconst 1, 1) := by decide +kernel
theorem dX8_test_63 : decode prog_10_method_72_code 63 = .ok (.ireturn, 1) := by decide +kernel
theorem dX8_sum_0 : decode prog_10_method_73_code 0 = .ok (.aload_n 0, 1) := by decide +kernel
theorem dX8_sum_1 : decode prog_10_method_73_code 1 = .ok (.iload_n 1, 1) := by decide +kernel
theorem dX8_sum_2 : decode prog_10_method_73_code 2 = .ok (.invokevirtual 257, 3) := by decide +kernel
theorem dX8_sum_5 : decode prog_10_method_73_code 5 = .ok (.ifCond .ne 5, 3) := by decide +kernel
theorem dX8_sum_8 : decode prog_10_method_73_code 8 = .ok (.iconst 0, 1) := by decide +kernel
theorem dX8_sum_9 : decode prog_10_method_73_code 9 = .ok (.ireturn, 1) := by decide +kernel
theorem dX8_sum_10 : decode prog_10_method_73_code 10 = .ok (.aload_n 0, 1) := by decide +kernel
theorem dX8_sum_11 : decode prog_10_method_73_code 11 = .ok (.bipush 43, 2) := by decide +kernel
theorem dX8_sum_13 : decode prog_10_method_73_code 13 = .ok (.invokevirtual 241, 3) := by decide +kernel
theorem dX8_sum_16 : decode prog_10_method_73_code 16 = .ok (.ifCond .ne 12, 3) := by decide +kernel
theorem dX8_sum_19 : decode prog_10_method_73_code 19 = .ok (.aload_n 0, 1) := by decide +kernel
theorem dX8_sum_20 : decode prog_10_method_73_code 20 = .ok (.bipush 45, 2) := by decide +kernel
theorem dX8_sum_22 : decode prog_10_method_73_code 22 = .ok (.invokevirtual 241, 3) := by decide +kernel
theorem dX8_sum_25 : decode prog_10_method_73_code 25 = .ok (.ifCond .eq 31, 3) := by decide +kernel
theorem dX8_sum_28 : decode prog_10_method_73_code 28 = .ok (.aload_n 0, 1) := by decide +kernel
theorem dX8_sum_29 : decode prog_10_method_73_code 29 = .ok (.getfield 219, 3) := by decide +kernel
theorem dX8_sum_32 : decode prog_10_method_73_code 32 = .ok (.istore_n 2, 1) := by decide +kernel
theorem dX8_sum_33 : decode prog_10_method_73_code 33 = .ok (.aload_n 0, 1) := by decide +kernel
theorem dX8_sum_34 : decode prog_10_method_73_code 34 = .ok (.invokevirtual 244, 3) := by decide +kernel
theorem dX8_sum_37 : decode prog_10_method_73_code 37 = .ok (.aload_n 0, 1) := by decide +kernel
theorem dX8_sum_38 : decode prog_10_method_73_code 38 = .ok (.iload_n 1, 1) := by decide +kernel
theorem dX8_sum_39 : decode prog_10_method_73_code 39 = .ok (.invokevirtual 257, 3) := by decide +kernel
theorem dX8_sum_42 : decode prog_10_method_73_code 42 = .ok (.ifCond .ne 5, 3) := by decide +kernel
theorem dX8_sum_45 : decode prog_10_method_73_code 45 = .ok (.iconst 0, 1) := by decide +kernel
theorem dX8_sum_46 : decode prog_10_method_73_code 46 = .ok (.ireturn, 1) := by decide +kernel
theorem dX8_sum_47 : decode prog_10_method_73_code 47 = .ok (.aload_n 0, 1) := by decide +kernel
theorem dX8_sum_48 : decode prog_10_method_73_code 48 = .ok (.iconst 2, 1) := by decide +kernel
theorem dX8_sum_49 : decode prog_10_method_73_code 49 = .ok (.iload_n 2, 1) := by decide +kernel
theorem dX8_sum_50 : decode prog_10_method_73_code 50 = .ok (.invokevirtual 247, 3) := by decide +kernel
theorem dX8_sum_53 : decode prog_10_method_73_code 53 = .ok (.goto (-43), 3) := by decide +kernel
theorem dX8_sum_56 : decode prog_10_method_73_code 56 = .ok (.iconst 1, 1) := by decide +kernel
theorem dX8_sum_57 : decode prog_10_method_73_code 57 = .ok (.ireturn, 1) := by decide +kernel
theorem dX8_term_0 : decode prog_10_method_74_code 0 = .ok (.aload_n 0, 1) := by decide +kernel
theorem dX8_term_1 : decode prog_10_method_74_code 1 = .ok (.iload_n 1, 1) := by decide +kernel
theorem dX8_term_2 : decode prog_10_method_74_code 2 = .ok (.invokevirtual 260, 3) := by decide +kernel
theorem dX8_term_5 : decode prog_10_method_74_code 5 = .ok (.ifCond .ne 5, 3) := by decide +kernel
theorem dX8_term_8 : decode prog_10_method_74_code 8 = .ok (.iconst 0, 1) := by decide +kernel
theorem dX8_term_9 : decode prog_10_method_74_code 9 = .ok (.ireturn, 1) := by decide +kernel
theorem dX8_term_10 : decode prog_10_method_74_code 10 = .ok (.aload_n 0, 1) := by decide +kernel
theorem dX8_term_11 : decode prog_10_method_74_code 11 = .ok (.bipush 42, 2) := by decide +kernel
theorem dX8_term_13 : decode prog_10_method_74_code 13 = .ok (.invokevirtual 241, 3) := by decide +kernel
theorem dX8_term_16 : decode prog_10_method_74_code 16 = .ok (.ifCond .ne 12, 3) := by decide +kernel
theorem dX8_term_19 : decode prog_10_method_74_code 19 = .ok (.aload_n 0, 1) := by decide +kernel
theorem dX8_term_20 : decode prog_10_method_74_code 20 = .ok (.bipush 47, 2) := by decide +kernel
theorem dX8_term_22 : decode prog_10_method_74_code 22 = .ok (.invokevirtual 241, 3) := by decide +kernel
theorem dX8_term_25 : decode prog_10_method_74_code 25 = .ok (.ifCond .eq 31, 3) := by decide +kernel
theorem dX8_term_28 : decode prog_10_method_74_code 28 = .ok (.aload_n 0, 1) := by decide +kernel
theorem dX8_term_29 : decode prog_10_method_74_code 29 = .ok (.getfield 219, 3) := by decide +kernel
theorem dX8_term_32 : decode prog_10_method_74_code 32 = .ok (.istore_n 2, 1) := by decide +kernel
theorem dX8_term_33 : decode prog_10_method_74_code 33 = .ok (.aload_n 0, 1) := by decide +kernel
theorem dX8_term_34 : decode prog_10_method_74_code 34 = .ok (.invokevirtual 244, 3) := by decide +kernel
theorem dX8_term_37 : decode prog_10_method_74_code 37 = .ok (.aload_n 0, 1) := by decide +kernel
theorem dX8_term_38 : decode prog_10_method_74_code 38 = .ok (.iload_n 1, 1) := by decide +kernel
theorem dX8_term_39 : decode prog_10_method_74_code 39 = .ok (.invokevirtual 260, 3) := by decide +kernel
theorem dX8_term_42 : decode prog_10_method_74_code 42 = .ok (.ifCond .ne 5, 3) := by decide +kernel
theorem dX8_term_45 : decode prog_10_method_74_code 45 = .ok (.iconst 0, 1) := by decide +kernel
theorem dX8_term_46 : decode prog_10_method_74_code 46 = .ok (.ireturn, 1) := by decide +kernel
theorem dX8_term_47 : decode prog_10_method_74_code 47 = .ok (.aload_n 0, 1) := by decide +kernel
theorem dX8_term_48 : decode prog_10_method_74_code 48 = .ok (.iconst 2, 1) := by decide +kernel
theorem dX8_term_49 : decode prog_10_method_74_code 49 = .ok (.iload_n 2, 1) := by decide +kernel
theorem dX8_term_50 : decode prog_10_method_74_code 50 = .ok (.invokevirtual 247, 3) := by decide +kernel
theorem dX8_term_53 : decode prog_10_method_74_code 53 = .ok (.goto (-43), 3) := by decide +kernel
theorem dX8_term_56 : decode prog_10_method_74_code 56 = .ok (.iconst 1, 1) := by decide +kernel
theorem dX8_term_57 : decode prog_10_method_74_code 57 = .ok (.ireturn, 1) := by decide +kernel
theorem dX8_part0_0 : decode prog_10_method_75_code 0 = .ok (.aload_n 0, 1) := by decide +kernel
theorem dX8_part0_1 : decode prog_10_method_75_code 1 = .ok (.getfield 210, 3) := by decide +kernel
theorem dX8_part0_4 : decode prog_10_method_75_code 4 = .ok (.iconst 2, 1) := by decide +kernel
theorem dX8_part0_5 : decode prog_10_method_75_code 5 = .ok (.if_icmp .ne 28, 3) := by decide +kernel
theorem dX8_part0_8 : decode prog_10_method_75_code 8 = .ok (.aload_n 0, 1) := by decide +kernel
theorem dX8_part0_9 : decode prog_10_method_75_code 9 = .ok (.iconst 0, 1) := by decide +kernel
theorem dX8_part0_10 : decode prog_10_method_75_code 10 = .ok (.aload_n 0, 1) := by decide +kernel
theorem dX8_part0_11 : decode prog_10_method_75_code 11 = .ok (.getfield 225, 3) := by decide +kernel
theorem dX8_part0_14 : decode prog_10_method_75_code 14 = .ok (.invokevirtual 247, 3) := by decide +kernel
theorem dX8_part0_17 : decode prog_10_method_75_code 17 = .ok (.aload_n 0, 1) := by decide +kernel
theorem dX8_part0_18 : decode prog_10_method_75_code 18 = .ok (.dup, 1) := by decide +kernel
theorem dX8_part0_19 : decode prog_10_method_75_code 19 = .ok (.getfield 263, 3) := by decide +kernel
theorem dX8_part0_22 : decode prog_10_method_75_code 22 = .ok (.iconst 1, 1) := by decide +kernel
theorem dX8_part0_23 : decode prog_10_method_75_code 23 = .ok (.iadd, 1) := by decide +kernel
theorem dX8_part0_24 : decode prog_10_method_75_code 24 = .ok (.putfield 263, 3) := by decide +kernel
theorem dX8_part0_27 : decode prog_10_method_75_code 27 = .ok (.aload_n 0, 1) := by decide +kernel
theorem dX8_part0_28 : decode prog_10_method_75_code 28 = .ok (.invokevirtual 244, 3) := by decide +kernel
theorem dX8_part0_31 : decode prog_10_method_75_code 31 = .ok (.iconst 1, 1) := by decide +kernel
theorem dX8_part0_32 : decode prog_10_method_75_code 32 = .ok (.ireturn, 1) := by decide +kernel
theorem dX8_part0_33 : decode prog_10_method_75_code 33 = .ok (.aload_n 0, 1) := by decide +kernel
theorem dX8_part0_34 : decode prog_10_method_75_code 34 = .ok (.getfield 210, 3) := by decide +kernel
theorem dX8_part0_37 : decode prog_10_method_75_code 37 = .ok (.iconst 1, 1) := by decide +kernel
theorem dX8_part0_38 : decode prog_10_method_75_code 38 = .ok (.if_icmp .ne 46, 3) := by decide +kernel
theorem dX8_part0_41 : decode prog_10_method_75_code 41 = .ok (.aload_n 0, 1) := by decide +kernel
theorem dX8_part0_42 : decode prog_10_method_75_code 42 = .ok (.getfield 219, 3) := by decide +kernel
theorem dX8_part0_45 : decode prog_10_method_75_code 45 = .ok (.ifCond .eq 39, 3) := by decide +kernel
theorem dX8_part0_48 : decode prog_10_method_75_code 48 = .ok (.iload_n 1, 1) := by decide +kernel
theorem dX8_part0_49 : decode prog_10_method_75_code 49 = .ok (.aload_n 0, 1) := by decide +kernel
theorem dX8_part0_50 : decode prog_10_method_75_code 50 = .ok (.getfield 219, 3) := by decide +kernel
theorem dX8_part0_53 : decode prog_10_method_75_code 53 = .ok (.invokestatic 266, 3) := by decide +kernel
theorem dX8_part0_56 : decode prog_10_method_75_code 56 = .ok (.ifCond .eq 28, 3) := by decide +kernel
theorem dX8_part0_59 : decode prog_10_method_75_code 59 = .ok (.aload_n 0, 1) := by decide +kernel
theorem dX8_part0_60 : decode prog_10_method_75_code 60 = .ok (.iconst 1, 1) := by decide +kernel
theorem dX8_part0_61 : decode prog_10_method_75_code 61 = .ok (.aload_n 0, 1) := by decide +kernel
theorem dX8_part0_62 : decode prog_10_method_75_code 62 = .ok (.getfield 219, 3) := by decide +kernel
theorem dX8_part0_65 : decode prog_10_method_75_code 65 = .ok (.invokevirtual 247, 3) := by decide +kernel
theorem dX8_part0_68 : decode prog_10_method_75_code 68 = .ok (.aload_n 0, 1) := by decide +kernel
theorem dX8_part0_69 : decode prog_10_method_75_code 69 = .ok (.dup, 1) := by decide +kernel
theorem dX8_part0_70 : decode prog_10_method_75_code 70 = .ok (.getfield 263, 3) := by decide +kernel
theorem dX8_part0_73 : decode prog_10_method_75_code 73 = .ok (.iconst 1, 1) := by decide +kernel
theorem dX8_part0_74 : decode prog_10_method_75_code 74 = .ok (.iadd, 1) := by decide +kernel
theorem dX8_part0_75 : decode prog_10_method_75_code 75 = .ok (.putfield 263, 3) := by decide +kernel
theorem dX8_part0_78 : decode prog_10_method_75_code 78 = .ok (.aload_n 0, 1) := by decide +kernel
theorem dX8_part0_79 : decode prog_10_method_75_code 79 = .ok (.invokevirtual 244, 3) := by decide +kernel
theorem dX8_part0_82 : decode prog_10_method_75_code 82 = .ok (.iconst 1, 1) := by decide +kernel
theorem dX8_part0_83 : decode prog_10_method_75_code 83 = .ok (.ireturn, 1) := by decide +kernel
theorem dX8_part0_84 : decode prog_10_method_75_code 84 = .ok (.aload_n 0, 1) := by decide +kernel
theorem dX8_part0_85 : decode prog_10_method_75_code 85 = .ok (.bipush 33, 2) := by decide +kernel
theorem dX8_part0_87 : decode prog_10_method_75_code 87 = .ok (.invokevirtual 241, 3) := by decide +kernel
theorem dX8_part0_90 : decode prog_10_method_75_code 90 = .ok (.ifCond .eq 55, 3) := by decide +kernel
theorem dX8_part0_93 : decode prog_10_method_75_code 93 = .ok (.aload_n 0, 1) := by decide +kernel
theorem dX8_part0_94 : decode prog_10_method_75_code 94 = .ok (.getfield 269, 3) := by decide +kernel
theorem dX8_part0_97 : decode prog_10_method_75_code 97 = .ok (.bipush 8, 2) := by decide +kernel
theorem dX8_part0_99 : decode prog_10_method_75_code 99 = .ok (.if_icmp .ge 46, 3) := by decide +kernel
theorem dX8_part0_102 : decode prog_10_method_75_code 102 = .ok (.aload_n 0, 1) := by decide +kernel
theorem dX8_part0_103 : decode prog_10_method_75_code 103 = .ok (.dup, 1) := by decide +kernel
theorem dX8_part0_104 : decode prog_10_method_75_code 104 = .ok (.getfield 269, 3) := by decide +kernel
theorem dX8_part0_107 : decode prog_10_method_75_code 107 = .ok (.iconst 1, 1) := by decide +kernel
theorem dX8_part0_108 : decode prog_10_method_75_code 108 = .ok (.iadd, 1) := by decide +kernel
theorem dX8_part0_109 : decode prog_10_method_75_code 109 = .ok (.putfield 269, 3) := by decide +kernel
theorem dX8_part0_112 : decode prog_10_method_75_code 112 = .ok (.aload_n 0, 1) := by decide +kernel
theorem dX8_part0_113 : decode prog_10_method_75_code 113 = .ok (.invokevirtual 244, 3) := by decide +kernel
theorem dX8_part0_116 : decode prog_10_method_75_code 116 = .ok (.aload_n 0, 1) := by decide +kernel
theorem dX8_part0_117 : decode prog_10_method_75_code 117 = .ok (.iload_n 1, 1) := by decide +kernel
theorem dX8_part0_118 : decode prog_10_method_75_code 118 = .ok (.invokevirtual 260, 3) := by decide +kernel
theorem dX8_part0_121 : decode prog_10_method_75_code 121 = .ok (.ifCond .ne 5, 3) := by decide +kernel
theorem dX8_part0_124 : decode prog_10_method_75_code 124 = .ok (.iconst 0, 1) := by decide +kernel
theorem dX8_part0_125 : decode prog_10_method_75_code 125 = .ok (.ireturn, 1) := by decide +kernel
theorem dX8_part0_126 : decode prog_10_method_75_code 126 = .ok (.aload_n 0, 1) := by decide +kernel
theorem dX8_part0_127 : decode prog_10_method_75_code 127 = .ok (.dup, 1) := by decide +kernel
theorem dX8_part0_128 : decode prog_10_method_75_code 128 = .ok (.getfield 269, 3) := by decide +kernel
theorem dX8_part0_131 : decode prog_10_method_75_code 131 = .ok (.iconst 1, 1) := by decide +kernel
theorem dX8_part0_132 : decode prog_10_method_75_code 132 = .ok (.isub, 1) := by decide +kernel
theorem dX8_part0_133 : decode prog_10_method_75_code 133 = .ok (.putfield 269, 3) := by decide +kernel
theorem dX8_part0_136 : decode prog_10_method_75_code 136 = .ok (.aload_n 0, 1) := by decide +kernel
theorem dX8_part0_137 : decode prog_10_method_75_code 137 = .ok (.iconst 2, 1) := by decide +kernel
theorem dX8_part0_138 : decode prog_10_method_75_code 138 = .ok (.bipush 33, 2) := by decide +kernel
theorem dX8_part0_140 : decode prog_10_method_75_code 140 = .ok (.invokevirtual 247, 3) := by decide +kernel
theorem dX8_part0_143 : decode prog_10_method_75_code 143 = .ok (.iconst 1, 1) := by decide +kernel
theorem dX8_part0_144 : decode prog_10_method_75_code 144 = .ok (.ireturn, 1) := by decide +kernel
theorem dX8_part0_145 : decode prog_10_method_75_code 145 = .ok (.aload_n 0, 1) := by decide +kernel
theorem dX8_part0_146 : decode prog_10_method_75_code 146 = .ok (.bipush 40, 2) := by decide +kernel
theorem dX8_part0_148 : decode prog_10_method_75_code 148 = .ok (.invokevirtual 241, 3) := by decide +kernel
theorem dX8_part0_151 : decode prog_10_method_75_code 151 = .ok (.ifCond .eq 12, 3) := by decide +kernel
theorem dX8_part0_154 : decode prog_10_method_75_code 154 = .ok (.aload_n 0, 1) := by decide +kernel
theorem dX8_part0_155 : decode prog_10_method_75_code 155 = .ok (.getfield 272, 3) := by decide +kernel
theorem dX8_part0_158 : decode prog_10_method_75_code 158 = .ok (.bipush 8, 2) := by decide +kernel
theorem dX8_part0_160 : decode prog_10_method_75_code 160 = .ok (.if_icmp .ne 5, 3) := by decide +kernel
theorem dX8_part0_163 : decode prog_10_method_75_code 163 = .ok (.iconst 0, 1) := by decide +kernel
theorem dX8_part0_164 : decode prog_10_method_75_code 164 = .ok (.ireturn, 1) := by decide +kernel
theorem dX8_part0_165 : decode prog_10_method_75_code 165 = .ok (.aload_n 0, 1) := by decide +kernel
theorem dX8_part0_166 : decode prog_10_method_75_code 166 = .ok (.dup, 1) := by decide +kernel
theorem dX8_part0_167 : decode prog_10_method_75_code 167 = .ok (.getfield 272, 3) := by decide +kernel
theorem dX8_part0_170 : decode prog_10_method_75_code 170 = .ok (.iconst 1, 1) := by decide +kernel
theorem dX8_part0_171 : decode prog_10_method_75_code 171 = .ok (.iadd, 1) := by decide +kernel
theorem dX8_part0_172 : decode prog_10_method_75_code 172 = .ok (.putfield 272, 3) := by decide +kernel
theorem dX8_part0_175 : decode prog_10_method_75_code 175 = .ok (.aload_n 0, 1) := by decide +kernel
theorem dX8_part0_176 : decode prog_10_method_75_code 176 = .ok (.invokevirtual 244, 3) := by decide +kernel
theorem dX8_part0_179 : decode prog_10_method_75_code 179 = .ok (.aload_n 0, 1) := by decide +kernel
theorem dX8_part0_180 : decode prog_10_method_75_code 180 = .ok (.iload_n 1, 1) := by decide +kernel
theorem dX8_part0_181 : decode prog_10_method_75_code 181 = .ok (.invokevirtual 275, 3) := by decide +kernel
theorem dX8_part0_184 : decode prog_10_method_75_code 184 = .ok (.ifCond .eq 12, 3) := by decide +kernel
theorem dX8_part0_187 : decode prog_10_method_75_code 187 = .ok (.aload_n 0, 1) := by decide +kernel
theorem dX8_part0_188 : decode prog_10_method_75_code 188 = .ok (.bipush 41, 2) := by decide +kernel
theorem dX8_part0_190 : decode prog_10_method_75_code 190 = .ok (.invokevirtual 241, 3) := by decide +kernel
theorem dX8_part0_193 : decode prog_10_method_75_code 193 = .ok (.ifCond .ne 5, 3) := by decide +kernel
theorem dX8_part0_196 : decode prog_10_method_75_code 196 = .ok (.iconst 0, 1) := by decide +kernel
theorem dX8_part0_197 : decode prog_10_method_75_code 197 = .ok (.ireturn, 1) := by decide +kernel
theorem dX8_part0_198 : decode prog_10_method_75_code 198 = .ok (.aload_n 0, 1) := by decide +kernel
theorem dX8_part0_199 : decode prog_10_method_75_code 199 = .ok (.dup, 1) := by decide +kernel
theorem dX8_part0_200 : decode prog_10_method_75_code 200 = .ok (.getfield 272, 3) := by decide +kernel
theorem dX8_part0_203 : decode prog_10_method_75_code 203 = .ok (.iconst 1, 1) := by decide +kernel
theorem dX8_part0_204 : decode prog_10_method_75_code 204 = .ok (.isub, 1) := by decide +kernel
theorem dX8_part0_205 : decode prog_10_method_75_code 205 = .ok (.putfield 272, 3) := by decide +kernel
theorem dX8_part0_208 : decode prog_10_method_75_code 208 = .ok (.aload_n 0, 1) := by decide +kernel
theorem dX8_part0_209 : decode prog_10_method_75_code 209 = .ok (.invokevirtual 244, 3) := by decide +kernel
theorem dX8_part0_212 : decode prog_10_method_75_code 212 = .ok (.iconst 1, 1) := by decide +kernel
theorem dX8_part0_213 : decode prog_10_method_75_code 213 = .ok (.ireturn, 1) := by decide +kernel
