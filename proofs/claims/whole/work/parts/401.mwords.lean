theorem wM_int : Cond.arrayClass .int ∈ GW := gw_of 59 (by decide +kernel) (by decide +kernel)
theorem wM_OB_0_1 : OBk "ParcelRing$Child" 1 := ⟨gw_of 42 (by decide +kernel) (by decide +kernel), gw_of 24 (by decide +kernel) (by decide +kernel), gw_of 25 (by decide +kernel) (by decide +kernel)⟩
theorem wM_OB_5_3 : OBk "ParcelRing$Stop" 3 := ⟨gw_of 64 (by decide +kernel) (by decide +kernel), gw_of 24 (by decide +kernel) (by decide +kernel), gw_of 25 (by decide +kernel) (by decide +kernel)⟩
theorem wM_OB_3_3 : OBk "ParcelRing$Sheet" 3 := ⟨gw_of 199 (by decide +kernel) (by decide +kernel), gw_of 24 (by decide +kernel) (by decide +kernel), gw_of 25 (by decide +kernel) (by decide +kernel)⟩
theorem wM_FP_3_9 : FPk "ParcelRing$Sheet" 9 3 0 := ⟨_, rfl, by decide, gw_of 200 (by decide +kernel) (by decide +kernel), rfl⟩
theorem wM_FQ_3_15 : FQk "ParcelRing$Sheet" 15 3 2 := ⟨_, rfl, by decide, gw_of 204 (by decide +kernel) (by decide +kernel), rfl, rfl⟩
theorem wM_OB_1_3 : OBk "ParcelRing$Reader" 3 := ⟨gw_of 158 (by decide +kernel) (by decide +kernel), gw_of 24 (by decide +kernel) (by decide +kernel), gw_of 25 (by decide +kernel) (by decide +kernel)⟩
theorem wM_FQ_1_9 : FQk "ParcelRing$Reader" 9 1 0 := ⟨_, rfl, by decide, gw_of 159 (by decide +kernel) (by decide +kernel), rfl, rfl⟩
theorem wM_FQ_1_15 : FQk "ParcelRing$Reader" 15 1 8 := ⟨_, rfl, by decide, gw_of 168 (by decide +kernel) (by decide +kernel), rfl, rfl⟩
theorem wM_OB_4_3 : OBk "ParcelRing$Slot" 3 := ⟨gw_of 217 (by decide +kernel) (by decide +kernel), gw_of 24 (by decide +kernel) (by decide +kernel), gw_of 25 (by decide +kernel) (by decide +kernel)⟩
theorem wM_FP_4_9 : FPk "ParcelRing$Slot" 9 4 0 := ⟨_, rfl, by decide, gw_of 222 (by decide +kernel) (by decide +kernel), rfl⟩
theorem wM_CN_4_15 : CNk "ParcelRing$Slot" 15 5 3 := ⟨_, rfl, rfl, gw_of 218 (by decide +kernel) (by decide +kernel), gw_of 60 (by decide +kernel) (by decide +kernel), gw_of 4 (by decide +kernel) (by decide +kernel)⟩
theorem wM_MJ_4_17 : MLj "ParcelRing$Slot" 17 IX5_init 0 := ⟨rfl, rfl, by decide +kernel, gw_of 62 (by decide +kernel) (by decide +kernel), gw_of 4 (by decide +kernel) (by decide +kernel), gw_of 63 (by decide +kernel) (by decide +kernel), ⟨by decide, by decide, by decide +kernel⟩, by decide⟩
theorem wM_FQ_4_18 : FQk "ParcelRing$Slot" 18 4 1 := ⟨_, rfl, by decide, gw_of 224 (by decide +kernel) (by decide +kernel), rfl, rfl⟩
theorem wM_CN_4_22 : CNk "ParcelRing$Slot" 22 3 3 := ⟨_, rfl, rfl, gw_of 220 (by decide +kernel) (by decide +kernel), gw_of 195 (by decide +kernel) (by decide +kernel), gw_of 6 (by decide +kernel) (by decide +kernel)⟩
theorem wM_MJ_4_24 : MLj "ParcelRing$Slot" 24 IX3_init 0 := ⟨rfl, rfl, by decide +kernel, gw_of 197 (by decide +kernel) (by decide +kernel), gw_of 6 (by decide +kernel) (by decide +kernel), gw_of 198 (by decide +kernel) (by decide +kernel), ⟨by decide, by decide, by decide +kernel⟩, by decide⟩
theorem wM_FQ_4_25 : FQk "ParcelRing$Slot" 25 4 2 := ⟨_, rfl, by decide, gw_of 226 (by decide +kernel) (by decide +kernel), rfl, rfl⟩
theorem wM_OB_2_3 : OBk "ParcelRing$Ring" 3 := ⟨gw_of 31 (by decide +kernel) (by decide +kernel), gw_of 24 (by decide +kernel) (by decide +kernel), gw_of 25 (by decide +kernel) (by decide +kernel)⟩
theorem wM_AQ_2_9 : AQk "ParcelRing$Ring" 9 1 := ⟨_, rfl, gw_of 32 (by decide +kernel) (by decide +kernel), by decide +kernel⟩
theorem wM_FQ_2_11 : FQk "ParcelRing$Ring" 11 2 0 := ⟨_, rfl, by decide, gw_of 81 (by decide +kernel) (by decide +kernel), rfl, rfl⟩
theorem wM_FQ_2_17 : FQk "ParcelRing$Ring" 17 2 2 := ⟨_, rfl, by decide, gw_of 85 (by decide +kernel) (by decide +kernel), rfl, rfl⟩
theorem wM_AQ_2_21 : AQk "ParcelRing$Ring" 21 2 := ⟨_, rfl, gw_of 34 (by decide +kernel) (by decide +kernel), by decide +kernel⟩
theorem wM_FQ_2_23 : FQk "ParcelRing$Ring" 23 2 4 := ⟨_, rfl, by decide, gw_of 89 (by decide +kernel) (by decide +kernel), rfl, rfl⟩
theorem wM_AQ_2_27 : AQk "ParcelRing$Ring" 27 3 := ⟨_, rfl, gw_of 36 (by decide +kernel) (by decide +kernel), by decide +kernel⟩
theorem wM_FQ_2_29 : FQk "ParcelRing$Ring" 29 2 6 := ⟨_, rfl, by decide, gw_of 93 (by decide +kernel) (by decide +kernel), rfl, rfl⟩
theorem wM_FQ_2_33 : FQk "ParcelRing$Ring" 33 2 8 := ⟨_, rfl, by decide, gw_of 97 (by decide +kernel) (by decide +kernel), rfl, rfl⟩
theorem wM_FQ_2_36 : FQk "ParcelRing$Ring" 36 2 9 := ⟨_, rfl, by decide, gw_of 99 (by decide +kernel) (by decide +kernel), rfl, rfl⟩
theorem wM_FP_2_39 : FPk "ParcelRing$Ring" 39 2 11 := ⟨_, rfl, by decide, gw_of 102 (by decide +kernel) (by decide +kernel), rfl⟩
theorem wM_FP_2_43 : FPk "ParcelRing$Ring" 43 2 17 := ⟨_, rfl, by decide, gw_of 114 (by decide +kernel) (by decide +kernel), rfl⟩
theorem wM_FL_2_11 : FLk "ParcelRing$Ring" 11 2 0 := ⟨_, rfl, by decide, gw_of 81 (by decide +kernel) (by decide +kernel)⟩
theorem wM_CN_2_9 : CNk "ParcelRing$Ring" 9 0 3 := ⟨_, rfl, rfl, gw_of 32 (by decide +kernel) (by decide +kernel), gw_of 38 (by decide +kernel) (by decide +kernel), gw_of 3 (by decide +kernel) (by decide +kernel)⟩
theorem wM_MJ_2_46 : MLj "ParcelRing$Ring" 46 IX0_init 0 := ⟨rfl, rfl, by decide +kernel, gw_of 40 (by decide +kernel) (by decide +kernel), gw_of 3 (by decide +kernel) (by decide +kernel), gw_of 41 (by decide +kernel) (by decide +kernel), ⟨by decide, by decide, by decide +kernel⟩, by decide⟩
theorem wM_FL_2_23 : FLk "ParcelRing$Ring" 23 2 4 := ⟨_, rfl, by decide, gw_of 89 (by decide +kernel) (by decide +kernel)⟩
theorem wM_CN_2_21 : CNk "ParcelRing$Ring" 21 5 3 := ⟨_, rfl, rfl, gw_of 34 (by decide +kernel) (by decide +kernel), gw_of 60 (by decide +kernel) (by decide +kernel), gw_of 4 (by decide +kernel) (by decide +kernel)⟩
theorem wM_MJ_2_47 : MLj "ParcelRing$Ring" 47 IX5_init 0 := ⟨rfl, rfl, by decide +kernel, gw_of 62 (by decide +kernel) (by decide +kernel), gw_of 4 (by decide +kernel) (by decide +kernel), gw_of 63 (by decide +kernel) (by decide +kernel), ⟨by decide, by decide, by decide +kernel⟩, by decide⟩
theorem wM_OB_7_1 : OBk "ParcelRing" 1 := ⟨gw_of 23 (by decide +kernel) (by decide +kernel), gw_of 24 (by decide +kernel) (by decide +kernel), gw_of 25 (by decide +kernel) (by decide +kernel)⟩
theorem wM_CN_7_7 : CNk "ParcelRing" 7 2 18 := ⟨_, rfl, rfl, gw_of 26 (by decide +kernel) (by decide +kernel), gw_of 27 (by decide +kernel) (by decide +kernel), gw_of 2 (by decide +kernel) (by decide +kernel)⟩
theorem wM_MI_7_9 : MLi "ParcelRing" 9 IX2_init 0 := ⟨rfl, rfl, gw_of 28 (by decide +kernel) (by decide +kernel), gw_of 29 (by decide +kernel) (by decide +kernel), gw_of 2 (by decide +kernel) (by decide +kernel), gw_of 30 (by decide +kernel) (by decide +kernel), ⟨by decide, by decide, by decide +kernel⟩, by decide⟩
theorem wM_FQ_7_10 : FQk "ParcelRing" 10 7 0 := ⟨_, rfl, by decide, gw_of 238 (by decide +kernel) (by decide +kernel), rfl, rfl⟩
theorem wM_FQ_7_16 : FQk "ParcelRing" 16 7 1 := ⟨_, rfl, by decide, gw_of 239 (by decide +kernel) (by decide +kernel), rfl, rfl⟩
theorem wM_FQ_7_19 : FQk "ParcelRing" 19 7 2 := ⟨_, rfl, by decide, gw_of 240 (by decide +kernel) (by decide +kernel), rfl, rfl⟩
theorem wM_CN_7_22 : CNk "ParcelRing" 22 1 10 := ⟨_, rfl, rfl, gw_of 153 (by decide +kernel) (by decide +kernel), gw_of 154 (by decide +kernel) (by decide +kernel), gw_of 5 (by decide +kernel) (by decide +kernel)⟩
theorem wM_MJ_7_24 : MLj "ParcelRing" 24 IX1_init 0 := ⟨rfl, rfl, by decide +kernel, gw_of 156 (by decide +kernel) (by decide +kernel), gw_of 5 (by decide +kernel) (by decide +kernel), gw_of 157 (by decide +kernel) (by decide +kernel), ⟨by decide, by decide, by decide +kernel⟩, by decide⟩
theorem wM_FQ_7_25 : FQk "ParcelRing" 25 7 4 := ⟨_, rfl, by decide, gw_of 242 (by decide +kernel) (by decide +kernel), rfl, rfl⟩
theorem wM_AQ_7_29 : AQk "ParcelRing" 29 4 := ⟨_, rfl, gw_of 191 (by decide +kernel) (by decide +kernel), by decide +kernel⟩
theorem wM_FQ_7_31 : FQk "ParcelRing" 31 7 5 := ⟨_, rfl, by decide, gw_of 243 (by decide +kernel) (by decide +kernel), rfl, rfl⟩
theorem wM_AQ_7_35 : AQk "ParcelRing" 35 5 := ⟨_, rfl, gw_of 193 (by decide +kernel) (by decide +kernel), by decide +kernel⟩
theorem wM_FQ_7_37 : FQk "ParcelRing" 37 7 6 := ⟨_, rfl, by decide, gw_of 244 (by decide +kernel) (by decide +kernel), rfl, rfl⟩
theorem wM_FQ_7_41 : FQk "ParcelRing" 41 7 7 := ⟨_, rfl, by decide, gw_of 245 (by decide +kernel) (by decide +kernel), rfl, rfl⟩
theorem wM_FL_7_31 : FLk "ParcelRing" 31 7 5 := ⟨_, rfl, by decide, gw_of 243 (by decide +kernel) (by decide +kernel)⟩
theorem wM_CN_7_29 : CNk "ParcelRing" 29 3 3 := ⟨_, rfl, rfl, gw_of 191 (by decide +kernel) (by decide +kernel), gw_of 195 (by decide +kernel) (by decide +kernel), gw_of 6 (by decide +kernel) (by decide +kernel)⟩
theorem wM_MJ_7_45 : MLj "ParcelRing" 45 IX3_init 0 := ⟨rfl, rfl, by decide +kernel, gw_of 197 (by decide +kernel) (by decide +kernel), gw_of 6 (by decide +kernel) (by decide +kernel), gw_of 198 (by decide +kernel) (by decide +kernel), ⟨by decide, by decide, by decide +kernel⟩, by decide⟩
theorem wM_FL_7_37 : FLk "ParcelRing" 37 7 6 := ⟨_, rfl, by decide, gw_of 244 (by decide +kernel) (by decide +kernel)⟩
theorem wM_CN_7_35 : CNk "ParcelRing" 35 4 4 := ⟨_, rfl, rfl, gw_of 193 (by decide +kernel) (by decide +kernel), gw_of 213 (by decide +kernel) (by decide +kernel), gw_of 7 (by decide +kernel) (by decide +kernel)⟩
theorem wM_MJ_7_46 : MLj "ParcelRing" 46 IX4_init 0 := ⟨rfl, rfl, by decide +kernel, gw_of 215 (by decide +kernel) (by decide +kernel), gw_of 7 (by decide +kernel) (by decide +kernel), gw_of 216 (by decide +kernel) (by decide +kernel), ⟨by decide, by decide, by decide +kernel⟩, by decide⟩
theorem wM_OB_8_1 : OBk "ParcelRingModel" 1 := ⟨gw_of 892 (by decide +kernel) (by decide +kernel), gw_of 24 (by decide +kernel) (by decide +kernel), gw_of 25 (by decide +kernel) (by decide +kernel)⟩
theorem wM_FQ_8_7 : FQk "ParcelRingModel" 7 8 0 := ⟨_, rfl, by decide, gw_of 893 (by decide +kernel) (by decide +kernel), rfl, rfl⟩
theorem wM_FQ_8_13 : FQk "ParcelRingModel" 13 8 1 := ⟨_, rfl, by decide, gw_of 894 (by decide +kernel) (by decide +kernel), rfl, rfl⟩
theorem wM_FQ_8_16 : FQk "ParcelRingModel" 16 8 2 := ⟨_, rfl, by decide, gw_of 895 (by decide +kernel) (by decide +kernel), rfl, rfl⟩
theorem wM_FQ_8_19 : FQk "ParcelRingModel" 19 8 4 := ⟨_, rfl, by decide, gw_of 897 (by decide +kernel) (by decide +kernel), rfl, rfl⟩
theorem wM_FQ_8_22 : FQk "ParcelRingModel" 22 8 5 := ⟨_, rfl, by decide, gw_of 898 (by decide +kernel) (by decide +kernel), rfl, rfl⟩
theorem wM_FQ_8_25 : FQk "ParcelRingModel" 25 8 6 := ⟨_, rfl, by decide, gw_of 899 (by decide +kernel) (by decide +kernel), rfl, rfl⟩
theorem wM_FQ_8_28 : FQk "ParcelRingModel" 28 8 7 := ⟨_, rfl, by decide, gw_of 900 (by decide +kernel) (by decide +kernel), rfl, rfl⟩
theorem wM_FQ_8_31 : FQk "ParcelRingModel" 31 8 8 := ⟨_, rfl, by decide, gw_of 901 (by decide +kernel) (by decide +kernel), rfl, rfl⟩
theorem wM_FQ_8_34 : FQk "ParcelRingModel" 34 8 9 := ⟨_, rfl, by decide, gw_of 902 (by decide +kernel) (by decide +kernel), rfl, rfl⟩
theorem wM_FQ_8_37 : FQk "ParcelRingModel" 37 8 10 := ⟨_, rfl, by decide, gw_of 903 (by decide +kernel) (by decide +kernel), rfl, rfl⟩
theorem wM_FQ_8_40 : FQk "ParcelRingModel" 40 8 11 := ⟨_, rfl, by decide, gw_of 904 (by decide +kernel) (by decide +kernel), rfl, rfl⟩
theorem wM_FQ_8_43 : FQk "ParcelRingModel" 43 8 12 := ⟨_, rfl, by decide, gw_of 905 (by decide +kernel) (by decide +kernel), rfl, rfl⟩
theorem wM_FQ_8_46 : FQk "ParcelRingModel" 46 8 13 := ⟨_, rfl, by decide, gw_of 906 (by decide +kernel) (by decide +kernel), rfl, rfl⟩
theorem wM_FQ_8_49 : FQk "ParcelRingModel" 49 8 25 := ⟨_, rfl, by decide, gw_of 918 (by decide +kernel) (by decide +kernel), rfl, rfl⟩
theorem wM_FQ_8_52 : FQk "ParcelRingModel" 52 8 26 := ⟨_, rfl, by decide, gw_of 919 (by decide +kernel) (by decide +kernel), rfl, rfl⟩
theorem wM_FQ_8_55 : FQk "ParcelRingModel" 55 8 27 := ⟨_, rfl, by decide, gw_of 920 (by decide +kernel) (by decide +kernel), rfl, rfl⟩
theorem wM_FQ_8_58 : FQk "ParcelRingModel" 58 8 28 := ⟨_, rfl, by decide, gw_of 921 (by decide +kernel) (by decide +kernel), rfl, rfl⟩
theorem wM_FQ_8_61 : FQk "ParcelRingModel" 61 8 30 := ⟨_, rfl, by decide, gw_of 923 (by decide +kernel) (by decide +kernel), rfl, rfl⟩
theorem wM_FL_8_7 : FLk "ParcelRingModel" 7 8 0 := ⟨_, rfl, by decide, gw_of 893 (by decide +kernel) (by decide +kernel)⟩
theorem wM_FL_8_19 : FLk "ParcelRingModel" 19 8 4 := ⟨_, rfl, by decide, gw_of 897 (by decide +kernel) (by decide +kernel)⟩
theorem wM_OB_6_1 : OBk "ParcelRing$Text" 1 := ⟨gw_of 765 (by decide +kernel) (by decide +kernel), gw_of 24 (by decide +kernel) (by decide +kernel), gw_of 25 (by decide +kernel) (by decide +kernel)⟩
theorem wM_FQ_6_7 : FQk "ParcelRing$Text" 7 6 0 := ⟨_, rfl, by decide, gw_of 766 (by decide +kernel) (by decide +kernel), rfl, rfl⟩
theorem wM_FQ_6_13 : FQk "ParcelRing$Text" 13 6 1 := ⟨_, rfl, by decide, gw_of 769 (by decide +kernel) (by decide +kernel), rfl, rfl⟩
theorem wM_FQ_6_16 : FQk "ParcelRing$Text" 16 6 2 := ⟨_, rfl, by decide, gw_of 771 (by decide +kernel) (by decide +kernel), rfl, rfl⟩
theorem wM_FQ_6_20 : FQk "ParcelRing$Text" 20 6 3 := ⟨_, rfl, by decide, gw_of 772 (by decide +kernel) (by decide +kernel), rfl, rfl⟩
theorem dfl_0 : ∀ j, j < 3 → defaultValue (tyF 0 j) = vp_V [.int 0, .int 0, .int 0] j := by
  intro j hj
  rcases (show j = 0 ∨ j = 1 ∨ j = 2 by omega) with rfl | rfl | rfl <;> rfl
theorem dfl_1 : ∀ j, j < 10 → defaultValue (tyF 1 j) = vp_V [.null, .int 0, .int 0, .int 0, .int 0, .int 0, .int 0, .int 0, .null, .int 0] j := by
  intro j hj
  rcases (show j = 0 ∨ j = 1 ∨ j = 2 ∨ j = 3 ∨ j = 4 ∨ j = 5 ∨ j = 6 ∨ j = 7 ∨ j = 8 ∨ j = 9 by omega) with rfl | rfl | rfl | rfl | rfl | rfl | rfl | rfl | rfl | rfl <;> rfl
theorem dfl_2 : ∀ j, j < 18 → defaultValue (tyF 2 j) = vp_V [.null, .int 0, .null, .int 0, .null, .int 0, .null, .int 0, .null, .null, .int 0, .int 0, .int 0, .int 0, .int 0, .int 0, .int 0, .int 0] j := by
  intro j hj
  rcases (show j = 0 ∨ j = 1 ∨ j = 2 ∨ j = 3 ∨ j = 4 ∨ j = 5 ∨ j = 6 ∨ j = 7 ∨ j = 8 ∨ j = 9 ∨ j = 10 ∨ j = 11 ∨ j = 12 ∨ j = 13 ∨ j = 14 ∨ j = 15 ∨ j = 16 ∨ j = 17 by omega) with rfl | rfl | rfl | rfl | rfl | rfl | rfl | rfl | rfl | rfl | rfl | rfl | rfl | rfl | rfl | rfl | rfl | rfl <;> rfl
theorem dfl_3 : ∀ j, j < 3 → defaultValue (tyF 3 j) = vp_V [.int 0, .int 0, .null] j := by
  intro j hj
  rcases (show j = 0 ∨ j = 1 ∨ j = 2 by omega) with rfl | rfl | rfl <;> rfl
theorem dfl_4 : ∀ j, j < 4 → defaultValue (tyF 4 j) = vp_V [.int 0, .null, .null, .int 0] j := by
  intro j hj
  rcases (show j = 0 ∨ j = 1 ∨ j = 2 ∨ j = 3 by omega) with rfl | rfl | rfl | rfl <;> rfl
theorem dfl_5 : ∀ j, j < 3 → defaultValue (tyF 5 j) = vp_V [.int 0, .int 0, .int 0] j := by
  intro j hj
  rcases (show j = 0 ∨ j = 1 ∨ j = 2 by omega) with rfl | rfl | rfl <;> rfl
theorem dfl_6 : ∀ j, j < 4 → defaultValue (tyF 6 j) = vp_V [.int 0, .int 0, .null, .null] j := by
  intro j hj
  rcases (show j = 0 ∨ j = 1 ∨ j = 2 ∨ j = 3 by omega) with rfl | rfl | rfl | rfl <;> rfl
theorem dfl_7 : ∀ j, j < 9 → defaultValue (tyF 7 j) = vp_V [.null, .null, .null, .int 0, .null, .null, .null, .null, .int 0] j := by
  intro j hj
  rcases (show j = 0 ∨ j = 1 ∨ j = 2 ∨ j = 3 ∨ j = 4 ∨ j = 5 ∨ j = 6 ∨ j = 7 ∨ j = 8 by omega) with rfl | rfl | rfl | rfl | rfl | rfl | rfl | rfl | rfl <;> rfl
theorem dfl_8 : ∀ j, j < 31 → defaultValue (tyF 8 j) = vp_V [.null, .null, .null, .int 0, .null, .null, .null, .null, .null, .null, .null, .null, .null, .null, .int 0, .int 0, .int 0, .int 0, .int 0, .int 0, .int 0, .int 0, .int 0, .int 0, .int 0, .null, .null, .null, .null, .int 0, .null] j := by
  intro j hj
  rcases (show j = 0 ∨ j = 1 ∨ j = 2 ∨ j = 3 ∨ j = 4 ∨ j = 5 ∨ j = 6 ∨ j = 7 ∨ j = 8 ∨ j = 9 ∨ j = 10 ∨ j = 11 ∨ j = 12 ∨ j = 13 ∨ j = 14 ∨ j = 15 ∨ j = 16 ∨ j = 17 ∨ j = 18 ∨ j = 19 ∨ j = 20 ∨ j = 21 ∨ j = 22 ∨ j = 23 ∨ j = 24 ∨ j = 25 ∨ j = 26 ∨ j = 27 ∨ j = 28 ∨ j = 29 ∨ j = 30 by omega) with rfl | rfl | rfl | rfl | rfl | rfl | rfl | rfl | rfl | rfl | rfl | rfl | rfl | rfl | rfl | rfl | rfl | rfl | rfl | rfl | rfl | rfl | rfl | rfl | rfl | rfl | rfl | rfl | rfl | rfl | rfl <;> rfl
theorem dX0_init_0 : decode prog_2_method_1_code 0 = .ok (.aload_n 0, 1) := by decide +kernel
theorem dX0_init_1 : decode prog_2_method_1_code 1 = .ok (.invokespecial 1, 3) := by decide +kernel
theorem dX0_init_4 : decode prog_2_method_1_code 4 = .ok (.return_, 1) := by decide +kernel
theorem dX5_init_0 : decode prog_7_method_1_code 0 = .ok (.aload_n 0, 1) := by decide +kernel
theorem dX5_init_1 : decode prog_7_method_1_code 1 = .ok (.invokespecial 3, 3) := by decide +kernel
theorem dX5_init_4 : decode prog_7_method_1_code 4 = .ok (.return_, 1) := by decide +kernel
theorem dX3_init_0 : decode prog_5_method_1_code 0 = .ok (.aload_n 0, 1) := by decide +kernel
theorem dX3_init_1 : decode prog_5_method_1_code 1 = .ok (.invokespecial 3, 3) := by decide +kernel
theorem dX3_init_4 : decode prog_5_method_1_code 4 = .ok (.aload_n 0, 1) := by decide +kernel
theorem dX3_init_5 : decode prog_5_method_1_code 5 = .ok (.iconst (-1), 1) := by decide +kernel
theorem dX3_init_6 : decode prog_5_method_1_code 6 = .ok (.putfield 9, 3) := by decide +kernel
theorem dX3_init_9 : decode prog_5_method_1_code 9 = .ok (.aload_n 0, 1) := by decide +kernel
theorem dX3_init_10 : decode prog_5_method_1_code 10 = .ok (.bipush 24, 2) := by decide +kernel
theorem dX3_init_12 : decode prog_5_method_1_code 12 = .ok (.newarray .int, 2) := by decide +kernel
theorem dX3_init_14 : decode prog_5_method_1_code 14 = .ok (.putfield 15, 3) := by decide +kernel
theorem dX3_init_17 : decode prog_5_method_1_code 17 = .ok (.return_, 1) := by decide +kernel
theorem dX1_init_0 : decode prog_3_method_1_code 0 = .ok (.aload_n 0, 1) := by decide +kernel
theorem dX1_init_1 : decode prog_3_method_1_code 1 = .ok (.invokespecial 3, 3) := by decide +kernel
theorem dX1_init_4 : decode prog_3_method_1_code 4 = .ok (.aload_n 0, 1) := by decide +kernel
theorem dX1_init_5 : decode prog_3_method_1_code 5 = .ok (.bipush 96, 2) := by decide +kernel
theorem dX1_init_7 : decode prog_3_method_1_code 7 = .ok (.newarray .int, 2) := by decide +kernel
theorem dX1_init_9 : decode prog_3_method_1_code 9 = .ok (.putfield 9, 3) := by decide +kernel
theorem dX1_init_12 : decode prog_3_method_1_code 12 = .ok (.aload_n 0, 1) := by decide +kernel
theorem dX1_init_13 : decode prog_3_method_1_code 13 = .ok (.bipush 96, 2) := by decide +kernel
theorem dX1_init_15 : decode prog_3_method_1_code 15 = .ok (.newarray .int, 2) := by decide +kernel
theorem dX1_init_17 : decode prog_3_method_1_code 17 = .ok (.putfield 15, 3) := by decide +kernel
theorem dX1_init_20 : decode prog_3_method_1_code 20 = .ok (.return_, 1) := by decide +kernel
theorem dX4_init_0 : decode prog_6_method_1_code 0 = .ok (.aload_n 0, 1) := by decide +kernel
theorem dX4_init_1 : decode prog_6_method_1_code 1 = .ok (.invokespecial 3, 3) := by decide +kernel
theorem dX4_init_4 : decode prog_6_method_1_code 4 = .ok (.aload_n 0, 1) := by decide +kernel
theorem dX4_init_5 : decode prog_6_method_1_code 5 = .ok (.iconst 0, 1) := by decide +kernel
theorem dX4_init_6 : decode prog_6_method_1_code 6 = .ok (.putfield 9, 3) := by decide +kernel
theorem dX4_init_9 : decode prog_6_method_1_code 9 = .ok (.aload_n 0, 1) := by decide +kernel
theorem dX4_init_10 : decode prog_6_method_1_code 10 = .ok (.new 15, 3) := by decide +kernel
theorem dX4_init_13 : decode prog_6_method_1_code 13 = .ok (.dup, 1) := by decide +kernel
theorem dX4_init_14 : decode prog_6_method_1_code 14 = .ok (.invokespecial 17, 3) := by decide +kernel
theorem dX4_init_17 : decode prog_6_method_1_code 17 = .ok (.putfield 18, 3) := by decide +kernel
theorem dX4_init_20 : decode prog_6_method_1_code 20 = .ok (.aload_n 0, 1) := by decide +kernel
theorem dX4_init_21 : decode prog_6_method_1_code 21 = .ok (.new 22, 3) := by decide +kernel
theorem dX4_init_24 : decode prog_6_method_1_code 24 = .ok (.dup, 1) := by decide +kernel
theorem dX4_init_25 : decode prog_6_method_1_code 25 = .ok (.invokespecial 24, 3) := by decide +kernel
theorem dX4_init_28 : decode prog_6_method_1_code 28 = .ok (.putfield 25, 3) := by decide +kernel
theorem dX4_init_31 : decode prog_6_method_1_code 31 = .ok (.return_, 1) := by decide +kernel
theorem dX2_init_0 : decode prog_4_method_1_code 0 = .ok (.aload_n 0, 1) := by decide +kernel
theorem dX2_init_1 : decode prog_4_method_1_code 1 = .ok (.invokespecial 3, 3) := by decide +kernel
theorem dX2_init_4 : decode prog_4_method_1_code 4 = .ok (.aload_n 0, 1) := by decide +kernel
theorem dX2_init_5 : decode prog_4_method_1_code 5 = .ok (.bipush 10, 2) := by decide +kernel
theorem dX2_init_7 : decode prog_4_method_1_code 7 = .ok (.anewarray 9, 3) := by decide +kernel
theorem dX2_init_10 : decode prog_4_method_1_code 10 = .ok (.putfield 11, 3) := by decide +kernel
theorem dX2_init_13 : decode prog_4_method_1_code 13 = .ok (.aload_n 0, 1) := by decide +kernel
theorem dX2_init_14 : decode prog_4_method_1_code 14 = .ok (.bipush 20, 2) := by decide +kernel
theorem dX2_init_16 : decode prog_4_method_1_code 16 = .ok (.newarray .int, 2) := by decide +kernel
theorem dX2_init_18 : decode prog_4_method_1_code 18 = .ok (.putfield 17, 3) := by decide +kernel
theorem dX2_init_21 : decode prog_4_method_1_code 21 = .ok (.aload_n 0, 1) := by decide +kernel
theorem dX2_init_22 : decode prog_4_method_1_code 22 = .ok (.bipush 10, 2) := by decide +kernel
theorem dX2_init_24 : decode prog_4_method_1_code 24 = .ok (.anewarray 21, 3) := by decide +kernel
theorem dX2_init_27 : decode prog_4_method_1_code 27 = .ok (.putfield 23, 3) := by decide +kernel
theorem dX2_init_30 : decode prog_4_method_1_code 30 = .ok (.aload_n 0, 1) := by decide +kernel
theorem dX2_init_31 : decode prog_4_method_1_code 31 = .ok (.bipush 14, 2) := by decide +kernel
theorem dX2_init_33 : decode prog_4_method_1_code 33 = .ok (.anewarray 27, 3) := by decide +kernel
theorem dX2_init_36 : decode prog_4_method_1_code 36 = .ok (.putfield 29, 3) := by decide +kernel
theorem dX2_init_39 : decode prog_4_method_1_code 39 = .ok (.aload_n 0, 1) := by decide +kernel
theorem dX2_init_40 : decode prog_4_method_1_code 40 = .ok (.iconst 3, 1) := by decide +kernel
theorem dX2_init_41 : decode prog_4_method_1_code 41 = .ok (.newarray .int, 2) := by decide +kernel
theorem dX2_init_43 : decode prog_4_method_1_code 43 = .ok (.dup, 1) := by decide +kernel
theorem dX2_init_44 : decode prog_4_method_1_code 44 = .ok (.iconst 0, 1) := by decide +kernel
theorem dX2_init_45 : decode prog_4_method_1_code 45 = .ok (.iconst (-1), 1) := by decide +kernel
theorem dX2_init_46 : decode prog_4_method_1_code 46 = .ok (.iastore, 1) := by decide +kernel
theorem dX2_init_47 : decode prog_4_method_1_code 47 = .ok (.dup, 1) := by decide +kernel
theorem dX2_init_48 : decode prog_4_method_1_code 48 = .ok (.iconst 1, 1) := by decide +kernel
theorem dX2_init_49 : decode prog_4_method_1_code 49 = .ok (.iconst (-1), 1) := by decide +kernel
theorem dX2_init_50 : decode prog_4_method_1_code 50 = .ok (.iastore, 1) := by decide +kernel
theorem dX2_init_51 : decode prog_4_method_1_code 51 = .ok (.dup, 1) := by decide +kernel
theorem dX2_init_52 : decode prog_4_method_1_code 52 = .ok (.iconst 2, 1) := by decide +kernel
theorem dX2_init_53 : decode prog_4_method_1_code 53 = .ok (.iconst (-1), 1) := by decide +kernel
theorem dX2_init_54 : decode prog_4_method_1_code 54 = .ok (.iastore, 1) := by decide +kernel
theorem dX2_init_55 : decode prog_4_method_1_code 55 = .ok (.putfield 33, 3) := by decide +kernel
theorem dX2_init_58 : decode prog_4_method_1_code 58 = .ok (.aload_n 0, 1) := by decide +kernel
theorem dX2_init_59 : decode prog_4_method_1_code 59 = .ok (.bipush 10, 2) := by decide +kernel
theorem dX2_init_61 : decode prog_4_method_1_code 61 = .ok (.newarray .int, 2) := by decide +kernel
theorem dX2_init_63 : decode prog_4_method_1_code 63 = .ok (.putfield 36, 3) := by decide +kernel
theorem dX2_init_66 : decode prog_4_method_1_code 66 = .ok (.aload_n 0, 1) := by decide +kernel
theorem dX2_init_67 : decode prog_4_method_1_code 67 = .ok (.iconst 1, 1) := by decide +kernel
theorem dX2_init_68 : decode prog_4_method_1_code 68 = .ok (.putfield 39, 3) := by decide +kernel
theorem dX2_init_71 : decode prog_4_method_1_code 71 = .ok (.aload_n 0, 1) := by decide +kernel
theorem dX2_init_72 : decode prog_4_method_1_code 72 = .ok (.iconst 1, 1) := by decide +kernel
theorem dX2_init_73 : decode prog_4_method_1_code 73 = .ok (.putfield 43, 3) := by decide +kernel
theorem dX2_init_76 : decode prog_4_method_1_code 76 = .ok (.iconst 0, 1) := by decide +kernel
theorem dX2_init_77 : decode prog_4_method_1_code 77 = .ok (.istore_n 1, 1) := by decide +kernel
theorem dX2_init_78 : decode prog_4_method_1_code 78 = .ok (.iload_n 1, 1) := by decide +kernel
theorem dX2_init_79 : decode prog_4_method_1_code 79 = .ok (.bipush 10, 2) := by decide +kernel
theorem dX2_init_81 : decode prog_4_method_1_code 81 = .ok (.if_icmp .ge 22, 3) := by decide +kernel
theorem dX2_init_84 : decode prog_4_method_1_code 84 = .ok (.aload_n 0, 1) := by decide +kernel
theorem dX2_init_85 : decode prog_4_method_1_code 85 = .ok (.getfield 11, 3) := by decide +kernel
theorem dX2_init_88 : decode prog_4_method_1_code 88 = .ok (.iload_n 1, 1) := by decide +kernel
theorem dX2_init_89 : decode prog_4_method_1_code 89 = .ok (.new 9, 3) := by decide +kernel
theorem dX2_init_92 : decode prog_4_method_1_code 92 = .ok (.dup, 1) := by decide +kernel
theorem dX2_init_93 : decode prog_4_method_1_code 93 = .ok (.invokespecial 46, 3) := by decide +kernel
theorem dX2_init_96 : decode prog_4_method_1_code 96 = .ok (.aastore, 1) := by decide +kernel
theorem dX2_init_97 : decode prog_4_method_1_code 97 = .ok (.iinc 1 1, 3) := by decide +kernel
theorem dX2_init_100 : decode prog_4_method_1_code 100 = .ok (.goto (-22), 3) := by decide +kernel
theorem dX2_init_103 : decode prog_4_method_1_code 103 = .ok (.iconst 0, 1) := by decide +kernel
theorem dX2_init_104 : decode prog_4_method_1_code 104 = .ok (.istore_n 1, 1) := by decide +kernel
theorem dX2_init_105 : decode prog_4_method_1_code 105 = .ok (.iload_n 1, 1) := by decide +kernel
theorem dX2_init_106 : decode prog_4_method_1_code 106 = .ok (.bipush 10, 2) := by decide +kernel
theorem dX2_init_108 : decode prog_4_method_1_code 108 = .ok (.if_icmp .ge 22, 3) := by decide +kernel
theorem dX2_init_111 : decode prog_4_method_1_code 111 = .ok (.aload_n 0, 1) := by decide +kernel
theorem dX2_init_112 : decode prog_4_method_1_code 112 = .ok (.getfield 23, 3) := by decide +kernel
theorem dX2_init_115 : decode prog_4_method_1_code 115 = .ok (.iload_n 1, 1) := by decide +kernel
theorem dX2_init_116 : decode prog_4_method_1_code 116 = .ok (.new 21, 3) := by decide +kernel
theorem dX2_init_119 : decode prog_4_method_1_code 119 = .ok (.dup, 1) := by decide +kernel
theorem dX2_init_120 : decode prog_4_method_1_code 120 = .ok (.invokespecial 47, 3) := by decide +kernel
theorem dX2_init_123 : decode prog_4_method_1_code 123 = .ok (.aastore, 1) := by decide +kernel
theorem dX2_init_124 : decode prog_4_method_1_code 124 = .ok (.iinc 1 1, 3) := by decide +kernel
theorem dX2_init_127 : decode prog_4_method_1_code 127 = .ok (.goto (-22), 3) := by decide +kernel
theorem dX2_init_130 : decode prog_4_method_1_code 130 = .ok (.return_, 1) := by decide +kernel
theorem dX7_init_0 : decode prog_1_method_1_code 0 = .ok (.aload_n 0, 1) := by decide +kernel
theorem dX7_init_1 : decode prog_1_method_1_code 1 = .ok (.invokespecial 1, 3) := by decide +kernel
theorem dX7_init_4 : decode prog_1_method_1_code 4 = .ok (.aload_n 0, 1) := by decide +kernel
theorem dX7_init_5 : decode prog_1_method_1_code 5 = .ok (.new 7, 3) := by decide +kernel
theorem dX7_init_8 : decode prog_1_method_1_code 8 = .ok (.dup, 1) := by decide +kernel
theorem dX7_init_9 : decode prog_1_method_1_code 9 = .ok (.invokespecial 9, 3) := by decide +kernel
theorem dX7_init_12 : decode prog_1_method_1_code 12 = .ok (.putfield 10, 3) := by decide +kernel
theorem dX7_init_15 : decode prog_1_method_1_code 15 = .ok (.aload_n 0, 1) := by decide +kernel
theorem dX7_init_16 : decode prog_1_method_1_code 16 = .ok (.new 7, 3) := by decide +kernel
theorem dX7_init_19 : decode prog_1_method_1_code 19 = .ok (.dup, 1) := by decide +kernel
theorem dX7_init_20 : decode prog_1_method_1_code 20 = .ok (.invokespecial 9, 3) := by decide +kernel
theorem dX7_init_23 : decode prog_1_method_1_code 23 = .ok (.putfield 16, 3) := by decide +kernel
theorem dX7_init_26 : decode prog_1_method_1_code 26 = .ok (.aload_n 0, 1) := by decide +kernel
theorem dX7_init_27 : decode prog_1_method_1_code 27 = .ok (.new 7, 3) := by decide +kernel
theorem dX7_init_30 : decode prog_1_method_1_code 30 = .ok (.dup, 1) := by decide +kernel
theorem dX7_init_31 : decode prog_1_method_1_code 31 = .ok (.invokespecial 9, 3) := by decide +kernel
theorem dX7_init_34 : decode prog_1_method_1_code 34 = .ok (.putfield 19, 3) := by decide +kernel
theorem dX7_init_37 : decode prog_1_method_1_code 37 = .ok (.aload_n 0, 1) := by decide +kernel
theorem dX7_init_38 : decode prog_1_method_1_code 38 = .ok (.new 22, 3) := by decide +kernel
theorem dX7_init_41 : decode prog_1_method_1_code 41 = .ok (.dup, 1) := by decide +kernel
theorem dX7_init_42 : decode prog_1_method_1_code 42 = .ok (.invokespecial 24, 3) := by decide +kernel
theorem dX7_init_45 : decode prog_1_method_1_code 45 = .ok (.putfield 25, 3) := by decide +kernel
theorem dX7_init_48 : decode prog_1_method_1_code 48 = .ok (.aload_n 0, 1) := by decide +kernel
theorem dX7_init_49 : decode prog_1_method_1_code 49 = .ok (.iconst 4, 1) := by decide +kernel
theorem dX7_init_50 : decode prog_1_method_1_code 50 = .ok (.anewarray 29, 3) := by decide +kernel
theorem dX7_init_53 : decode prog_1_method_1_code 53 = .ok (.putfield 31, 3) := by decide +kernel
theorem dX7_init_56 : decode prog_1_method_1_code 56 = .ok (.aload_n 0, 1) := by decide +kernel
theorem dX7_init_57 : decode prog_1_method_1_code 57 = .ok (.iconst 5, 1) := by decide +kernel
theorem dX7_init_58 : decode prog_1_method_1_code 58 = .ok (.anewarray 35, 3) := by decide +kernel
theorem dX7_init_61 : decode prog_1_method_1_code 61 = .ok (.putfield 37, 3) := by decide +kernel
theorem dX7_init_64 : decode prog_1_method_1_code 64 = .ok (.aload_n 0, 1) := by decide +kernel
theorem dX7_init_65 : decode prog_1_method_1_code 65 = .ok (.bipush 60, 2) := by decide +kernel
theorem dX7_init_67 : decode prog_1_method_1_code 67 = .ok (.newarray .int, 2) := by decide +kernel
theorem dX7_init_69 : decode prog_1_method_1_code 69 = .ok (.putfield 41, 3) := by decide +kernel
theorem dX7_init_72 : decode prog_1_method_1_code 72 = .ok (.iconst 0, 1) := by decide +kernel
theorem dX7_init_73 : decode prog_1_method_1_code 73 = .ok (.istore_n 1, 1) := by decide +kernel
theorem dX7_init_74 : decode prog_1_method_1_code 74 = .ok (.iload_n 1, 1) := by decide +kernel
theorem dX7_init_75 : decode prog_1_method_1_code 75 = .ok (.iconst 4, 1) := by decide +kernel
theorem dX7_init_76 : decode prog_1_method_1_code 76 = .ok (.if_icmp .ge 22, 3) := by decide +kernel
theorem dX7_init_79 : decode prog_1_method_1_code 79 = .ok (.aload_n 0, 1) := by decide +kernel
theorem dX7_init_80 : decode prog_1_method_1_code 80 = .ok (.getfield 31, 3) := by decide +kernel
theorem dX7_init_83 : decode prog_1_method_1_code 83 = .ok (.iload_n 1, 1) := by decide +kernel
theorem dX7_init_84 : decode prog_1_method_1_code 84 = .ok (.new 29, 3) := by decide +kernel
theorem dX7_init_87 : decode prog_1_method_1_code 87 = .ok (.dup, 1) := by decide +kernel
theorem dX7_init_88 : decode prog_1_method_1_code 88 = .ok (.invokespecial 45, 3) := by decide +kernel
theorem dX7_init_91 : decode prog_1_method_1_code 91 = .ok (.aastore, 1) := by decide +kernel
theorem dX7_init_92 : decode prog_1_method_1_code 92 = .ok (.iinc 1 1, 3) := by decide +kernel
theorem dX7_init_95 : decode prog_1_method_1_code 95 = .ok (.goto (-21), 3) := by decide +kernel
theorem dX7_init_98 : decode prog_1_method_1_code 98 = .ok (.iconst 0, 1) := by decide +kernel
theorem dX7_init_99 : decode prog_1_method_1_code 99 = .ok (.istore_n 1, 1) := by decide +kernel
theorem dX7_init_100 : decode prog_1_method_1_code 100 = .ok (.iload_n 1, 1) := by decide +kernel
theorem dX7_init_101 : decode prog_1_method_1_code 101 = .ok (.iconst 5, 1) := by decide +kernel
theorem dX7_init_102 : decode prog_1_method_1_code 102 = .ok (.if_icmp .ge 22, 3) := by decide +kernel
theorem dX7_init_105 : decode prog_1_method_1_code 105 = .ok (.aload_n 0, 1) := by decide +kernel
theorem dX7_init_106 : decode prog_1_method_1_code 106 = .ok (.getfield 37, 3) := by decide +kernel
theorem dX7_init_109 : decode prog_1_method_1_code 109 = .ok (.iload_n 1, 1) := by decide +kernel
theorem dX7_init_110 : decode prog_1_method_1_code 110 = .ok (.new 35, 3) := by decide +kernel
theorem dX7_init_113 : decode prog_1_method_1_code 113 = .ok (.dup, 1) := by decide +kernel
theorem dX7_init_114 : decode prog_1_method_1_code 114 = .ok (.invokespecial 46, 3) := by decide +kernel
theorem dX7_init_117 : decode prog_1_method_1_code 117 = .ok (.aastore, 1) := by decide +kernel
theorem dX7_init_118 : decode prog_1_method_1_code 118 = .ok (.iinc 1 1, 3) := by decide +kernel
theorem dX7_init_121 : decode prog_1_method_1_code 121 = .ok (.goto (-21), 3) := by decide +kernel
theorem dX7_init_124 : decode prog_1_method_1_code 124 = .ok (.return_, 1) := by decide +kernel
theorem dX8_init_0 : decode prog_10_method_1_code 0 = .ok (.aload_n 0, 1) := by decide +kernel
theorem dX8_init_1 : decode prog_10_method_1_code 1 = .ok (.invokespecial 1, 3) := by decide +kernel
theorem dX8_init_4 : decode prog_10_method_1_code 4 = .ok (.aload_n 0, 1) := by decide +kernel
theorem dX8_init_5 : decode prog_10_method_1_code 5 = .ok (.sipush 3092, 3) := by decide +kernel
theorem dX8_init_8 : decode prog_10_method_1_code 8 = .ok (.newarray .int, 2) := by decide +kernel
theorem dX8_init_10 : decode prog_10_method_1_code 10 = .ok (.putfield 7, 3) := by decide +kernel
theorem dX8_init_13 : decode prog_10_method_1_code 13 = .ok (.aload_n 0, 1) := by decide +kernel
theorem dX8_init_14 : decode prog_10_method_1_code 14 = .ok (.sipush 3092, 3) := by decide +kernel
theorem dX8_init_17 : decode prog_10_method_1_code 17 = .ok (.newarray .int, 2) := by decide +kernel
theorem dX8_init_19 : decode prog_10_method_1_code 19 = .ok (.putfield 13, 3) := by decide +kernel
theorem dX8_init_22 : decode prog_10_method_1_code 22 = .ok (.aload_n 0, 1) := by decide +kernel
theorem dX8_init_23 : decode prog_10_method_1_code 23 = .ok (.sipush 3092, 3) := by decide +kernel
theorem dX8_init_26 : decode prog_10_method_1_code 26 = .ok (.newarray .int, 2) := by decide +kernel
theorem dX8_init_28 : decode prog_10_method_1_code 28 = .ok (.putfield 16, 3) := by decide +kernel
theorem dX8_init_31 : decode prog_10_method_1_code 31 = .ok (.aload_n 0, 1) := by decide +kernel
theorem dX8_init_32 : decode prog_10_method_1_code 32 = .ok (.iconst 4, 1) := by decide +kernel
theorem dX8_init_33 : decode prog_10_method_1_code 33 = .ok (.newarray .int, 2) := by decide +kernel
theorem dX8_init_35 : decode prog_10_method_1_code 35 = .ok (.putfield 19, 3) := by decide +kernel
theorem dX8_init_38 : decode prog_10_method_1_code 38 = .ok (.aload_n 0, 1) := by decide +kernel
theorem dX8_init_39 : decode prog_10_method_1_code 39 = .ok (.iconst 4, 1) := by decide +kernel
theorem dX8_init_40 : decode prog_10_method_1_code 40 = .ok (.newarray .int, 2) := by decide +kernel
theorem dX8_init_42 : decode prog_10_method_1_code 42 = .ok (.putfield 22, 3) := by decide +kernel
theorem dX8_init_45 : decode prog_10_method_1_code 45 = .ok (.aload_n 0, 1) := by decide +kernel
theorem dX8_init_46 : decode prog_10_method_1_code 46 = .ok (.bipush 96, 2) := by decide +kernel
theorem dX8_init_48 : decode prog_10_method_1_code 48 = .ok (.newarray .int, 2) := by decide +kernel
theorem dX8_init_50 : decode prog_10_method_1_code 50 = .ok (.putfield 25, 3) := by decide +kernel
theorem dX8_init_53 : decode prog_10_method_1_code 53 = .ok (.aload_n 0, 1) := by decide +kernel
theorem dX8_init_54 : decode prog_10_method_1_code 54 = .ok (.iconst 5, 1) := by decide +kernel
theorem dX8_init_55 : decode prog_10_method_1_code 55 = .ok (.newarray .int, 2) := by decide +kernel
theorem dX8_init_57 : decode prog_10_method_1_code 57 = .ok (.putfield 28, 3) := by decide +kernel
theorem dX8_init_60 : decode prog_10_method_1_code 60 = .ok (.aload_n 0, 1) := by decide +kernel
theorem dX8_init_61 : decode prog_10_method_1_code 61 = .ok (.iconst 5, 1) := by decide +kernel
theorem dX8_init_62 : decode prog_10_method_1_code 62 = .ok (.newarray .int, 2) := by decide +kernel
theorem dX8_init_64 : decode prog_10_method_1_code 64 = .ok (.putfield 31, 3) := by decide +kernel
theorem dX8_init_67 : decode prog_10_method_1_code 67 = .ok (.aload_n 0, 1) := by decide +kernel
theorem dX8_init_68 : decode prog_10_method_1_code 68 = .ok (.iconst 5, 1) := by decide +kernel
theorem dX8_init_69 : decode prog_10_method_1_code 69 = .ok (.newarray .int, 2) := by decide +kernel
theorem dX8_init_71 : decode prog_10_method_1_code 71 = .ok (.putfield 34, 3) := by decide +kernel
theorem dX8_init_74 : decode prog_10_method_1_code 74 = .ok (.aload_n 0, 1) := by decide +kernel
theorem dX8_init_75 : decode prog_10_method_1_code 75 = .ok (.iconst 5, 1) := by decide +kernel
theorem dX8_init_76 : decode prog_10_method_1_code 76 = .ok (.newarray .int, 2) := by decide +kernel
theorem dX8_init_78 : decode prog_10_method_1_code 78 = .ok (.putfield 37, 3) := by decide +kernel
theorem dX8_init_81 : decode prog_10_method_1_code 81 = .ok (.aload_n 0, 1) := by decide +kernel
theorem dX8_init_82 : decode prog_10_method_1_code 82 = .ok (.bipush 120, 2) := by decide +kernel
theorem dX8_init_84 : decode prog_10_method_1_code 84 = .ok (.newarray .int, 2) := by decide +kernel
theorem dX8_init_86 : decode prog_10_method_1_code 86 = .ok (.putfield 40, 3) := by decide +kernel
theorem dX8_init_89 : decode prog_10_method_1_code 89 = .ok (.aload_n 0, 1) := by decide +kernel
theorem dX8_init_90 : decode prog_10_method_1_code 90 = .ok (.bipush 92, 2) := by decide +kernel
theorem dX8_init_92 : decode prog_10_method_1_code 92 = .ok (.newarray .int, 2) := by decide +kernel
theorem dX8_init_94 : decode prog_10_method_1_code 94 = .ok (.putfield 43, 3) := by decide +kernel
theorem dX8_init_97 : decode prog_10_method_1_code 97 = .ok (.aload_n 0, 1) := by decide +kernel
theorem dX8_init_98 : decode prog_10_method_1_code 98 = .ok (.bipush 96, 2) := by decide +kernel
theorem dX8_init_100 : decode prog_10_method_1_code 100 = .ok (.newarray .int, 2) := by decide +kernel
theorem dX8_init_102 : decode prog_10_method_1_code 102 = .ok (.putfield 46, 3) := by decide +kernel
theorem dX8_init_105 : decode prog_10_method_1_code 105 = .ok (.aload_n 0, 1) := by decide +kernel
theorem dX8_init_106 : decode prog_10_method_1_code 106 = .ok (.sipush 128, 3) := by decide +kernel
theorem dX8_init_109 : decode prog_10_method_1_code 109 = .ok (.newarray .int, 2) := by decide +kernel
theorem dX8_init_111 : decode prog_10_method_1_code 111 = .ok (.putfield 49, 3) := by decide +kernel
theorem dX8_init_114 : decode prog_10_method_1_code 114 = .ok (.aload_n 0, 1) := by decide +kernel
theorem dX8_init_115 : decode prog_10_method_1_code 115 = .ok (.bipush 100, 2) := by decide +kernel
theorem dX8_init_117 : decode prog_10_method_1_code 117 = .ok (.newarray .int, 2) := by decide +kernel
theorem dX8_init_119 : decode prog_10_method_1_code 119 = .ok (.putfield 52, 3) := by decide +kernel
theorem dX8_init_122 : decode prog_10_method_1_code 122 = .ok (.aload_n 0, 1) := by decide +kernel
theorem dX8_init_123 : decode prog_10_method_1_code 123 = .ok (.bipush 24, 2) := by decide +kernel
theorem dX8_init_125 : decode prog_10_method_1_code 125 = .ok (.newarray .int, 2) := by decide +kernel
theorem dX8_init_127 : decode prog_10_method_1_code 127 = .ok (.putfield 55, 3) := by decide +kernel
theorem dX8_init_130 : decode prog_10_method_1_code 130 = .ok (.aload_n 0, 1) := by decide +kernel
theorem dX8_init_131 : decode prog_10_method_1_code 131 = .ok (.bipush 60, 2) := by decide +kernel
theorem dX8_init_133 : decode prog_10_method_1_code 133 = .ok (.newarray .int, 2) := by decide +kernel
theorem dX8_init_135 : decode prog_10_method_1_code 135 = .ok (.putfield 58, 3) := by decide +kernel
theorem dX8_init_138 : decode prog_10_method_1_code 138 = .ok (.aload_n 0, 1) := by decide +kernel
theorem dX8_init_139 : decode prog_10_method_1_code 139 = .ok (.bipush 60, 2) := by decide +kernel
theorem dX8_init_141 : decode prog_10_method_1_code 141 = .ok (.newarray .int, 2) := by decide +kernel
theorem dX8_init_143 : decode prog_10_method_1_code 143 = .ok (.putfield 61, 3) := by decide +kernel
theorem dX8_init_146 : decode prog_10_method_1_code 146 = .ok (.aload_n 0, 1) := by decide +kernel
theorem dX8_init_147 : decode prog_10_method_1_code 147 = .ok (.getfield 7, 3) := by decide +kernel
theorem dX8_init_150 : decode prog_10_method_1_code 150 = .ok (.bipush 11, 2) := by decide +kernel
theorem dX8_init_152 : decode prog_10_method_1_code 152 = .ok (.iconst 1, 1) := by decide +kernel
theorem dX8_init_153 : decode prog_10_method_1_code 153 = .ok (.iastore, 1) := by decide +kernel
theorem dX8_init_154 : decode prog_10_method_1_code 154 = .ok (.aload_n 0, 1) := by decide +kernel
theorem dX8_init_155 : decode prog_10_method_1_code 155 = .ok (.getfield 7, 3) := by decide +kernel
theorem dX8_init_158 : decode prog_10_method_1_code 158 = .ok (.iconst 5, 1) := by decide +kernel
theorem dX8_init_159 : decode prog_10_method_1_code 159 = .ok (.iconst 1, 1) := by decide +kernel
theorem dX8_init_160 : decode prog_10_method_1_code 160 = .ok (.iastore, 1) := by decide +kernel
theorem dX8_init_161 : decode prog_10_method_1_code 161 = .ok (.iconst 0, 1) := by decide +kernel
theorem dX8_init_162 : decode prog_10_method_1_code 162 = .ok (.istore_n 1, 1) := by decide +kernel
theorem dX8_init_163 : decode prog_10_method_1_code 163 = .ok (.iload_n 1, 1) := by decide +kernel
theorem dX8_init_164 : decode prog_10_method_1_code 164 = .ok (.iconst 4, 1) := by decide +kernel
theorem dX8_init_165 : decode prog_10_method_1_code 165 = .ok (.if_icmp .ge 16, 3) := by decide +kernel
theorem dX8_init_168 : decode prog_10_method_1_code 168 = .ok (.aload_n 0, 1) := by decide +kernel
theorem dX8_init_169 : decode prog_10_method_1_code 169 = .ok (.getfield 19, 3) := by decide +kernel
theorem dX8_init_172 : decode prog_10_method_1_code 172 = .ok (.iload_n 1, 1) := by decide +kernel
theorem dX8_init_173 : decode prog_10_method_1_code 173 = .ok (.iconst (-1), 1) := by decide +kernel
theorem dX8_init_174 : decode prog_10_method_1_code 174 = .ok (.iastore, 1) := by decide +kernel
theorem dX8_init_175 : decode prog_10_method_1_code 175 = .ok (.iinc 1 1, 3) := by decide +kernel
theorem dX8_init_178 : decode prog_10_method_1_code 178 = .ok (.goto (-15), 3) := by decide +kernel
theorem dX8_init_181 : decode prog_10_method_1_code 181 = .ok (.return_, 1) := by decide +kernel
theorem dX6_init_0 : decode prog_8_method_1_code 0 = .ok (.aload_n 0, 1) := by decide +kernel
theorem dX6_init_1 : decode prog_8_method_1_code 1 = .ok (.invokespecial 1, 3) := by decide +kernel
theorem dX6_init_4 : decode prog_8_method_1_code 4 = .ok (.aload_n 0, 1) := by decide +kernel
theorem dX6_init_5 : decode prog_8_method_1_code 5 = .ok (.iload_n 1, 1) := by decide +kernel
theorem dX6_init_6 : decode prog_8_method_1_code 6 = .ok (.putfield 7, 3) := by decide +kernel
theorem dX6_init_9 : decode prog_8_method_1_code 9 = .ok (.aload_n 0, 1) := by decide +kernel
theorem dX6_init_10 : decode prog_8_method_1_code 10 = .ok (.iload_n 2, 1) := by decide +kernel
theorem dX6_init_11 : decode prog_8_method_1_code 11 = .ok (.putfield 13, 3) := by decide +kernel
theorem dX6_init_14 : decode prog_8_method_1_code 14 = .ok (.aload_n 0, 1) := by decide +kernel
theorem dX6_init_15 : decode prog_8_method_1_code 15 = .ok (.aload_n 3, 1) := by decide +kernel
theorem dX6_init_16 : decode prog_8_method_1_code 16 = .ok (.putfield 16, 3) := by decide +kernel
theorem dX6_init_19 : decode prog_8_method_1_code 19 = .ok (.aload_n 0, 1) := by decide +kernel
theorem dX6_init_20 : decode prog_8_method_1_code 20 = .ok (.aload_n 3, 1) := by decide +kernel
theorem dX6_init_21 : decode prog_8_method_1_code 21 = .ok (.arraylength, 1) := by decide +kernel
theorem dX6_init_22 : decode prog_8_method_1_code 22 = .ok (.newarray .int, 2) := by decide +kernel
theorem dX6_init_24 : decode prog_8_method_1_code 24 = .ok (.putfield 20, 3) := by decide +kernel
theorem dX6_init_27 : decode prog_8_method_1_code 27 = .ok (.return_, 1) := by decide +kernel
theorem dX1_parsed_0 : decode prog_3_method_4_code 0 = .ok (.new 50, 3) := by decide +kernel
theorem dX1_parsed_3 : decode prog_3_method_4_code 3 = .ok (.dup, 1) := by decide +kernel
theorem dX1_parsed_4 : decode prog_3_method_4_code 4 = .ok (.aload_n 0, 1) := by decide +kernel
theorem dX1_parsed_5 : decode prog_3_method_4_code 5 = .ok (.getfield 52, 3) := by decide +kernel
theorem dX1_parsed_8 : decode prog_3_method_4_code 8 = .ok (.aload_n 0, 1) := by decide +kernel
theorem dX1_parsed_9 : decode prog_3_method_4_code 9 = .ok (.getfield 25, 3) := by decide +kernel
theorem dX1_parsed_12 : decode prog_3_method_4_code 12 = .ok (.aload_n 0, 1) := by decide +kernel
theorem dX1_parsed_13 : decode prog_3_method_4_code 13 = .ok (.getfield 15, 3) := by decide +kernel
theorem dX1_parsed_16 : decode prog_3_method_4_code 16 = .ok (.aload_n 0, 1) := by decide +kernel
theorem dX1_parsed_17 : decode prog_3_method_4_code 17 = .ok (.getfield 28, 3) := by decide +kernel
theorem dX1_parsed_20 : decode prog_3_method_4_code 20 = .ok (.invokestatic 55, 3) := by decide +kernel
theorem dX1_parsed_23 : decode prog_3_method_4_code 23 = .ok (.invokespecial 61, 3) := by decide +kernel
theorem dX1_parsed_26 : decode prog_3_method_4_code 26 = .ok (.areturn, 1) := by decide +kernel
theorem dX7_text_0 : decode prog_1_method_31_code 0 = .ok (.aload_n 0, 1) := by decide +kernel
theorem dX7_text_1 : decode prog_1_method_31_code 1 = .ok (.getfield 25, 3) := by decide +kernel
theorem dX7_text_4 : decode prog_1_method_31_code 4 = .ok (.invokevirtual 237, 3) := by decide +kernel
theorem dX7_text_7 : decode prog_1_method_31_code 7 = .ok (.istore_n 1, 1) := by decide +kernel
theorem dX7_text_8 : decode prog_1_method_31_code 8 = .ok (.aload_n 0, 1) := by decide +kernel
theorem dX7_text_9 : decode prog_1_method_31_code 9 = .ok (.getfield 25, 3) := by decide +kernel
theorem dX7_text_12 : decode prog_1_method_31_code 12 = .ok (.iconst 0, 1) := by decide +kernel
theorem dX7_text_13 : decode prog_1_method_31_code 13 = .ok (.putfield 233, 3) := by decide +kernel
theorem dX7_text_16 : decode prog_1_method_31_code 16 = .ok (.iload_n 1, 1) := by decide +kernel
theorem dX7_text_17 : decode prog_1_method_31_code 17 = .ok (.ifCond .lt 8, 3) := by decide +kernel
theorem dX7_text_20 : decode prog_1_method_31_code 20 = .ok (.bipush (-100), 2) := by decide +kernel
theorem dX7_text_22 : decode prog_1_method_31_code 22 = .ok (.iload_n 1, 1) := by decide +kernel
theorem dX7_text_23 : decode prog_1_method_31_code 23 = .ok (.isub, 1) := by decide +kernel
theorem dX7_text_24 : decode prog_1_method_31_code 24 = .ok (.ireturn, 1) := by decide +kernel
theorem dX7_text_25 : decode prog_1_method_31_code 25 = .ok (.aload_n 0, 1) := by decide +kernel
theorem dX7_text_26 : decode prog_1_method_31_code 26 = .ok (.getfield 10, 3) := by decide +kernel
theorem dX7_text_29 : decode prog_1_method_31_code 29 = .ok (.getfield 240, 3) := by decide +kernel
theorem dX7_text_32 : decode prog_1_method_31_code 32 = .ok (.bipush 14, 2) := by decide +kernel
theorem dX7_text_34 : decode prog_1_method_31_code 34 = .ok (.if_icmp .lt 6, 3) := by decide +kernel
theorem dX7_text_37 : decode prog_1_method_31_code 37 = .ok (.ldc 56, 2) := by decide +kernel
theorem dX7_text_39 : decode prog_1_method_31_code 39 = .ok (.ireturn, 1) := by decide +kernel
theorem dX7_text_40 : decode prog_1_method_31_code 40 = .ok (.aload_n 0, 1) := by decide +kernel
theorem dX7_text_41 : decode prog_1_method_31_code 41 = .ok (.getfield 10, 3) := by decide +kernel
theorem dX7_text_44 : decode prog_1_method_31_code 44 = .ok (.aload_n 0, 1) := by decide +kernel
theorem dX7_text_45 : decode prog_1_method_31_code 45 = .ok (.getfield 25, 3) := by decide +kernel
theorem dX7_text_48 : decode prog_1_method_31_code 48 = .ok (.invokevirtual 243, 3) := by decide +kernel
theorem dX7_text_51 : decode prog_1_method_31_code 51 = .ok (.invokevirtual 247, 3) := by decide +kernel
theorem dX7_text_54 : decode prog_1_method_31_code 54 = .ok (.aload_n 0, 1) := by decide +kernel
theorem dX7_text_55 : decode prog_1_method_31_code 55 = .ok (.getfield 10, 3) := by decide +kernel
theorem dX7_text_58 : decode prog_1_method_31_code 58 = .ok (.getfield 240, 3) := by decide +kernel
theorem dX7_text_61 : decode prog_1_method_31_code 61 = .ok (.iconst 1, 1) := by decide +kernel
theorem dX7_text_62 : decode prog_1_method_31_code 62 = .ok (.isub, 1) := by decide +kernel
theorem dX7_text_63 : decode prog_1_method_31_code 63 = .ok (.ireturn, 1) := by decide +kernel
theorem dJ7_copyOf_59c91_0 : decode prog_18_method_123_code 0 = .ok (.iload_n 1, 1) := by decide +kernel
theorem dJ7_copyOf_59c91_1 : decode prog_18_method_123_code 1 = .ok (.aload_n 0, 1) := by decide +kernel
theorem dJ7_copyOf_59c91_2 : decode prog_18_method_123_code 2 = .ok (.arraylength, 1) := by decide +kernel
theorem dJ7_copyOf_59c91_3 : decode prog_18_method_123_code 3 = .ok (.if_icmp .ne 11, 3) := by decide +kernel
theorem dJ7_copyOf_59c91_6 : decode prog_18_method_123_code 6 = .ok (.aload_n 0, 1) := by decide +kernel
theorem dJ7_copyOf_59c91_7 : decode prog_18_method_123_code 7 = .ok (.invokevirtual 316, 3) := by decide +kernel
theorem dJ7_copyOf_59c91_10 : decode prog_18_method_123_code 10 = .ok (.checkcast 317, 3) := by decide +kernel
theorem dJ7_copyOf_59c91_13 : decode prog_18_method_123_code 13 = .ok (.areturn, 1) := by decide +kernel
theorem dJ7_copyOf_59c91_14 : decode prog_18_method_123_code 14 = .ok (.iload_n 1, 1) := by decide +kernel
theorem dJ7_copyOf_59c91_15 : decode prog_18_method_123_code 15 = .ok (.newarray .int, 2) := by decide +kernel
theorem dJ7_copyOf_59c91_17 : decode prog_18_method_123_code 17 = .ok (.astore_n 2, 1) := by decide +kernel
theorem dJ7_copyOf_59c91_18 : decode prog_18_method_123_code 18 = .ok (.aload_n 0, 1) := by decide +kernel
theorem dJ7_copyOf_59c91_19 : decode prog_18_method_123_code 19 = .ok (.iconst 0, 1) := by decide +kernel
theorem dJ7_copyOf_59c91_20 : decode prog_18_method_123_code 20 = .ok (.aload_n 2, 1) := by decide +kernel
theorem dJ7_copyOf_59c91_21 : decode prog_18_method_123_code 21 = .ok (.iconst 0, 1) := by decide +kernel
theorem dJ7_copyOf_59c91_22 : decode prog_18_method_123_code 22 = .ok (.aload_n 0, 1) := by decide +kernel
theorem dJ7_copyOf_59c91_23 : decode prog_18_method_123_code 23 = .ok (.arraylength, 1) := by decide +kernel
theorem dJ7_copyOf_59c91_24 : decode prog_18_method_123_code 24 = .ok (.iload_n 1, 1) := by decide +kernel
theorem dJ7_copyOf_59c91_25 : decode prog_18_method_123_code 25 = .ok (.invokestatic 304, 3) := by decide +kernel
theorem dJ7_copyOf_59c91_28 : decode prog_18_method_123_code 28 = .ok (.invokestatic 150, 3) := by decide +kernel
theorem dJ7_copyOf_59c91_31 : decode prog_18_method_123_code 31 = .ok (.aload_n 2, 1) := by decide +kernel
theorem dJ7_copyOf_59c91_32 : decode prog_18_method_123_code 32 = .ok (.areturn, 1) := by decide +kernel
