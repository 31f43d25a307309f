noncomputable def fX7_keep (a0 : Nat) (m : Mem) : Option (Int32 × Mem) :=
  (gR m a0 7 2).bind fun r1 =>
  (gR m a0 7 0).bind fun r2 =>
  (cV m r1 2 (fX2_become r1 r2 m)).bind fun m3 =>
  (pI m3 a0 7 3 (1 : Int32)).bind fun m4 =>
  (gR m4 a0 7 0).bind fun r5 =>
  (gI m4 r5 2 1).bind fun x6 =>
  some (x6, m4)
set_option maxRecDepth 20000 in
theorem tX7_keep {D : Dat} {a0 : Nat} {m : Mem} {rR : Int32} {mR : Mem} (h : fX7_keep a0 m = some (rR, mR)) : T D 3 IX7_keep [.ref a0] m 0 0 (Qi rR mR) := by
  refine T_of_V (by decide) (Nat.le_of_ble_eq_true rfl) ?_
  show V D 3 IX7_keep 0 [(0, .ref a0)] [] m 0 0 (Qi rR mR)
  unfold fX7_keep at h
  refine V_aload_n (pc2 := 1) dX7_keep_0 0 rfl rfl ?_
  obtain ⟨r1, e_r1, h⟩ := bS h
  refine V_gR (pc2 := 4) e_r1 dX7_keep_1 wF_7_19 ?_
  refine V_aload_n (pc2 := 5) dX7_keep_4 0 rfl rfl ?_
  obtain ⟨r2, e_r2, h⟩ := bS h
  refine V_gR (pc2 := 8) e_r2 dX7_keep_5 wF_7_10 ?_
  obtain ⟨m3, e_m3, h⟩ := bS h
  obtain ⟨⟨fs_m3, o_m3⟩, e_m3⟩ := cV_of e_m3
  refine V_cVv (pc2 := 11) [.ref r2] (st := []) o_m3 (tX2_become e_m3) dX7_keep_8 wV_7_180 (by decide) rfl (Nat.le_of_ble_eq_true rfl) ?_
  refine V_aload_n (pc2 := 12) dX7_keep_11 0 rfl rfl ?_
  refine V_iconst (v := 1) (pc2 := 13) dX7_keep_12 (by decide) ?_
  obtain ⟨m4, e_m4, h⟩ := bS h
  refine V_pI (pc2 := 16) e_m4 dX7_keep_13 wP_7_317 (by decide) (by decide) ?_
  refine V_aload_n (pc2 := 17) dX7_keep_16 0 rfl rfl ?_
  obtain ⟨r5, e_r5, h⟩ := bS h
  refine V_gR (pc2 := 20) e_r5 dX7_keep_17 wF_7_10 ?_
  obtain ⟨x6, e_x6, h⟩ := bS h
  refine V_gI (pc2 := 23) e_x6 dX7_keep_20 wF_7_52 ?_
  obtain ⟨e1, e2⟩ := inj2 h
  subst e1
  subst e2
  exact V_iret dX7_keep_23 rfl ⟨rfl, rfl⟩
noncomputable def fX7_back (a0 : Nat) (m : Mem) : Option (Int32 × Mem) :=
  (gI m a0 7 3).bind fun x1 =>
  if x1 = 0 then
    some ((-1000000002 : Int32), m)
  else
    (gR m a0 7 0).bind fun r2 =>
    (gR m a0 7 2).bind fun r3 =>
    (cV m r2 2 (fX2_become r2 r3 m)).bind fun m4 =>
    (gR m4 a0 7 0).bind fun r5 =>
    (gI m4 r5 2 1).bind fun x6 =>
    some (x6, m4)
set_option maxRecDepth 20000 in
theorem tX7_back {D : Dat} {a0 : Nat} {m : Mem} {rR : Int32} {mR : Mem} (h : fX7_back a0 m = some (rR, mR)) : T D 3 IX7_back [.ref a0] m 0 0 (Qi rR mR) := by
  refine T_of_V (by decide) (Nat.le_of_ble_eq_true rfl) ?_
  show V D 3 IX7_back 0 [(0, .ref a0)] [] m 0 0 (Qi rR mR)
  unfold fX7_back at h
  refine V_aload_n (pc2 := 1) dX7_back_0 0 rfl rfl ?_
  obtain ⟨x1, e_x1, h⟩ := bS h
  refine V_gI (pc2 := 4) e_x1 dX7_back_1 wF_7_317 ?_
  refine V_if_ne (pc2 := 7) (tgt := 10) dX7_back_4 (fun c4 => ?_) (fun c4 => ?_)
  · replace h := iF c4 h
    refine V_aload_n (pc2 := 11) dX7_back_10 0 rfl rfl ?_
    obtain ⟨r2, e_r2, h⟩ := bS h
    refine V_gR (pc2 := 14) e_r2 dX7_back_11 wF_7_10 ?_
    refine V_aload_n (pc2 := 15) dX7_back_14 0 rfl rfl ?_
    obtain ⟨r3, e_r3, h⟩ := bS h
    refine V_gR (pc2 := 18) e_r3 dX7_back_15 wF_7_19 ?_
    obtain ⟨m4, e_m4, h⟩ := bS h
    obtain ⟨⟨fs_m4, o_m4⟩, e_m4⟩ := cV_of e_m4
    refine V_cVv (pc2 := 21) [.ref r3] (st := []) o_m4 (tX2_become e_m4) dX7_back_18 wV_7_180 (by decide) rfl (Nat.le_of_ble_eq_true rfl) ?_
    refine V_aload_n (pc2 := 22) dX7_back_21 0 rfl rfl ?_
    obtain ⟨r5, e_r5, h⟩ := bS h
    refine V_gR (pc2 := 25) e_r5 dX7_back_22 wF_7_10 ?_
    obtain ⟨x6, e_x6, h⟩ := bS h
    refine V_gI (pc2 := 28) e_x6 dX7_back_25 wF_7_52 ?_
    obtain ⟨e1, e2⟩ := inj2 h
    subst e1
    subst e2
    exact V_iret dX7_back_28 rfl ⟨rfl, rfl⟩
  · replace h := iT c4 h
    refine V_ldc (v := -1000000002) (pc2 := 9) dX7_back_7 wconstant_7_176 ?_
    obtain ⟨e1, e2⟩ := inj2 h
    subst e1
    subst e2
    exact V_iret dX7_back_9 rfl ⟨rfl, rfl⟩
noncomputable def fX7_count (a0 : Nat) (p0 : Int32) (m : Mem) : Option (Int32) :=
  if p0 = (0 : Int32) then
    (gR m a0 7 0).bind fun r1 =>
    (gI m r1 2 1).bind fun x2 =>
    some x2
  else if p0 = (1 : Int32) then
    (gR m a0 7 0).bind fun r3 =>
    (cV m r3 2 (fX2_inCount r3 m)).bind fun x4 =>
    some x4
  else if p0 = (2 : Int32) then
    (gR m a0 7 0).bind fun r5 =>
    (gI m r5 2 5).bind fun x6 =>
    some x6
  else if p0 = (3 : Int32) then
    (gR m a0 7 0).bind fun r7 =>
    (gI m r7 2 3).bind fun x8 =>
    some x8
  else if p0 = (4 : Int32) then
    (gR m a0 7 0).bind fun r9 =>
    (gI m r9 2 10).bind fun x10 =>
    some x10
  else if p0 = (5 : Int32) then
    (gR m a0 7 0).bind fun r11 =>
    (gI m r11 2 12).bind fun x12 =>
    some x12
  else if p0 = (6 : Int32) then
    (gR m a0 7 0).bind fun r13 =>
    (gI m r13 2 11).bind fun x14 =>
    some x14
  else if p0 = (7 : Int32) then
    (gR m a0 7 0).bind fun r15 =>
    (gI m r15 2 13).bind fun x16 =>
    some x16
  else if p0 = (8 : Int32) then
    (gR m a0 7 0).bind fun r17 =>
    (gI m r17 2 14).bind fun x18 =>
    some x18
  else if p0 = (9 : Int32) then
    (gR m a0 7 0).bind fun r19 =>
    (gI m r19 2 15).bind fun x20 =>
    some x20
  else if p0 = (10 : Int32) then
    (gR m a0 7 0).bind fun r21 =>
    (gI m r21 2 16).bind fun x22 =>
    some x22
  else if p0 = (11 : Int32) then
    (gR m a0 7 0).bind fun r23 =>
    (cV m r23 2 (fX2_spread r23 m)).bind fun x24 =>
    some x24
  else if p0 = (12 : Int32) then
    (gR m a0 7 0).bind fun r25 =>
    (gI m r25 2 7).bind fun x26 =>
    some x26
  else if p0 = (13 : Int32) then
    (gI m a0 7 8).bind fun x27 =>
    some x27
  else if p0 = (14 : Int32) then
    (gR m a0 7 4).bind fun r28 =>
    (gI m r28 1 1).bind fun x29 =>
    some x29
  else if p0 = (15 : Int32) then
    (gR m a0 7 0).bind fun r30 =>
    (gI m r30 2 17).bind fun x31 =>
    some x31
  else 
    some (-1000000001 : Int32)
set_option maxRecDepth 20000 in
theorem tX7_count {D : Dat} {a0 : Nat} {p0 : Int32} {m : Mem} {rR : Int32} (h : fX7_count a0 p0 m = some rR) : T D 2 IX7_count [.ref a0, .int p0] m 0 0 (Qi rR m) := by
  refine T_of_V (by decide) (Nat.le_of_ble_eq_true rfl) ?_
  show V D 2 IX7_count 0 [(0, .ref a0), (1, .int p0)] [] m 0 0 (Qi rR m)
  unfold fX7_count at h
  refine V_iload_n (pc2 := 1) dX7_count_0 1 rfl rfl ?_
  by_cases c1_0 : p0 = (0 : Int32)
  · replace h := iT c1_0 h
    refine V_table (off := 79) (tgt := 80) dX7_count_1 (by rw [c1_0]; decide) ?_
    refine V_aload_n (pc2 := 81) dX7_count_80 0 rfl rfl ?_
    obtain ⟨r1, e_r1, h⟩ := bS h
    refine V_gR (pc2 := 84) e_r1 dX7_count_81 wF_7_10 ?_
    obtain ⟨x2, e_x2, h⟩ := bS h
    refine V_gI (pc2 := 87) e_x2 dX7_count_84 wF_7_52 ?_
    have e1 := inj1 h
    subst e1
    exact V_iret dX7_count_87 rfl ⟨rfl, rfl⟩
  replace h := iF c1_0 h
  by_cases c1_1 : p0 = (1 : Int32)
  · replace h := iT c1_1 h
    refine V_table (off := 87) (tgt := 88) dX7_count_1 (by rw [c1_1]; decide) ?_
    refine V_aload_n (pc2 := 89) dX7_count_88 0 rfl rfl ?_
    obtain ⟨r3, e_r3, h⟩ := bS h
    refine V_gR (pc2 := 92) e_r3 dX7_count_89 wF_7_10 ?_
    obtain ⟨x4, e_x4, h⟩ := bS h
    obtain ⟨⟨fs_x4, o_x4⟩, e_x4⟩ := cV_of e_x4
    refine V_cVi (pc2 := 95) [] (st := []) o_x4 (tX2_inCount e_x4) dX7_count_92 wV_7_173 (by decide) rfl (Nat.le_of_ble_eq_true rfl) ?_
    have e1 := inj1 h
    subst e1
    exact V_iret dX7_count_95 rfl ⟨rfl, rfl⟩
  replace h := iF c1_1 h
  by_cases c1_2 : p0 = (2 : Int32)
  · replace h := iT c1_2 h
    refine V_table (off := 95) (tgt := 96) dX7_count_1 (by rw [c1_2]; decide) ?_
    refine V_aload_n (pc2 := 97) dX7_count_96 0 rfl rfl ?_
    obtain ⟨r5, e_r5, h⟩ := bS h
    refine V_gR (pc2 := 100) e_r5 dX7_count_97 wF_7_10 ?_
    obtain ⟨x6, e_x6, h⟩ := bS h
    refine V_gI (pc2 := 103) e_x6 dX7_count_100 wF_7_105 ?_
    have e1 := inj1 h
    subst e1
    exact V_iret dX7_count_103 rfl ⟨rfl, rfl⟩
  replace h := iF c1_2 h
  by_cases c1_3 : p0 = (3 : Int32)
  · replace h := iT c1_3 h
    refine V_table (off := 103) (tgt := 104) dX7_count_1 (by rw [c1_3]; decide) ?_
    refine V_aload_n (pc2 := 105) dX7_count_104 0 rfl rfl ?_
    obtain ⟨r7, e_r7, h⟩ := bS h
    refine V_gR (pc2 := 108) e_r7 dX7_count_105 wF_7_10 ?_
    obtain ⟨x8, e_x8, h⟩ := bS h
    refine V_gI (pc2 := 111) e_x8 dX7_count_108 wF_7_87 ?_
    have e1 := inj1 h
    subst e1
    exact V_iret dX7_count_111 rfl ⟨rfl, rfl⟩
  replace h := iF c1_3 h
  by_cases c1_4 : p0 = (4 : Int32)
  · replace h := iT c1_4 h
    refine V_table (off := 111) (tgt := 112) dX7_count_1 (by rw [c1_4]; decide) ?_
    refine V_aload_n (pc2 := 113) dX7_count_112 0 rfl rfl ?_
    obtain ⟨r9, e_r9, h⟩ := bS h
    refine V_gR (pc2 := 116) e_r9 dX7_count_113 wF_7_10 ?_
    obtain ⟨x10, e_x10, h⟩ := bS h
    refine V_gI (pc2 := 119) e_x10 dX7_count_116 wF_7_163 ?_
    have e1 := inj1 h
    subst e1
    exact V_iret dX7_count_119 rfl ⟨rfl, rfl⟩
  replace h := iF c1_4 h
  by_cases c1_5 : p0 = (5 : Int32)
  · replace h := iT c1_5 h
    refine V_table (off := 119) (tgt := 120) dX7_count_1 (by rw [c1_5]; decide) ?_
    refine V_aload_n (pc2 := 121) dX7_count_120 0 rfl rfl ?_
    obtain ⟨r11, e_r11, h⟩ := bS h
    refine V_gR (pc2 := 124) e_r11 dX7_count_121 wF_7_10 ?_
    obtain ⟨x12, e_x12, h⟩ := bS h
    refine V_gI (pc2 := 127) e_x12 dX7_count_124 wF_7_99 ?_
    have e1 := inj1 h
    subst e1
    exact V_iret dX7_count_127 rfl ⟨rfl, rfl⟩
  replace h := iF c1_5 h
  by_cases c1_6 : p0 = (6 : Int32)
  · replace h := iT c1_6 h
    refine V_table (off := 127) (tgt := 128) dX7_count_1 (by rw [c1_6]; decide) ?_
    refine V_aload_n (pc2 := 129) dX7_count_128 0 rfl rfl ?_
    obtain ⟨r13, e_r13, h⟩ := bS h
    refine V_gR (pc2 := 132) e_r13 dX7_count_129 wF_7_10 ?_
    obtain ⟨x14, e_x14, h⟩ := bS h
    refine V_gI (pc2 := 135) e_x14 dX7_count_132 wF_7_96 ?_
    have e1 := inj1 h
    subst e1
    exact V_iret dX7_count_135 rfl ⟨rfl, rfl⟩
  replace h := iF c1_6 h
  by_cases c1_7 : p0 = (7 : Int32)
  · replace h := iT c1_7 h
    refine V_table (off := 135) (tgt := 136) dX7_count_1 (by rw [c1_7]; decide) ?_
    refine V_aload_n (pc2 := 137) dX7_count_136 0 rfl rfl ?_
    obtain ⟨r15, e_r15, h⟩ := bS h
    refine V_gR (pc2 := 140) e_r15 dX7_count_137 wF_7_10 ?_
    obtain ⟨x16, e_x16, h⟩ := bS h
    refine V_gI (pc2 := 143) e_x16 dX7_count_140 wF_7_93 ?_
    have e1 := inj1 h
    subst e1
    exact V_iret dX7_count_143 rfl ⟨rfl, rfl⟩
  replace h := iF c1_7 h
  by_cases c1_8 : p0 = (8 : Int32)
  · replace h := iT c1_8 h
    refine V_table (off := 143) (tgt := 144) dX7_count_1 (by rw [c1_8]; decide) ?_
    refine V_aload_n (pc2 := 145) dX7_count_144 0 rfl rfl ?_
    obtain ⟨r17, e_r17, h⟩ := bS h
    refine V_gR (pc2 := 148) e_r17 dX7_count_145 wF_7_10 ?_
    obtain ⟨x18, e_x18, h⟩ := bS h
    refine V_gI (pc2 := 151) e_x18 dX7_count_148 wF_7_193 ?_
    have e1 := inj1 h
    subst e1
    exact V_iret dX7_count_151 rfl ⟨rfl, rfl⟩
  replace h := iF c1_8 h
  by_cases c1_9 : p0 = (9 : Int32)
  · replace h := iT c1_9 h
    refine V_table (off := 151) (tgt := 152) dX7_count_1 (by rw [c1_9]; decide) ?_
    refine V_aload_n (pc2 := 153) dX7_count_152 0 rfl rfl ?_
    obtain ⟨r19, e_r19, h⟩ := bS h
    refine V_gR (pc2 := 156) e_r19 dX7_count_153 wF_7_10 ?_
    obtain ⟨x20, e_x20, h⟩ := bS h
    refine V_gI (pc2 := 159) e_x20 dX7_count_156 wF_7_196 ?_
    have e1 := inj1 h
    subst e1
    exact V_iret dX7_count_159 rfl ⟨rfl, rfl⟩
  replace h := iF c1_9 h
  by_cases c1_10 : p0 = (10 : Int32)
  · replace h := iT c1_10 h
    refine V_table (off := 159) (tgt := 160) dX7_count_1 (by rw [c1_10]; decide) ?_
    refine V_aload_n (pc2 := 161) dX7_count_160 0 rfl rfl ?_
    obtain ⟨r21, e_r21, h⟩ := bS h
    refine V_gR (pc2 := 164) e_r21 dX7_count_161 wF_7_10 ?_
    obtain ⟨x22, e_x22, h⟩ := bS h
    refine V_gI (pc2 := 167) e_x22 dX7_count_164 wF_7_199 ?_
    have e1 := inj1 h
    subst e1
    exact V_iret dX7_count_167 rfl ⟨rfl, rfl⟩
  replace h := iF c1_10 h
  by_cases c1_11 : p0 = (11 : Int32)
  · replace h := iT c1_11 h
    refine V_table (off := 167) (tgt := 168) dX7_count_1 (by rw [c1_11]; decide) ?_
    refine V_aload_n (pc2 := 169) dX7_count_168 0 rfl rfl ?_
    obtain ⟨r23, e_r23, h⟩ := bS h
    refine V_gR (pc2 := 172) e_r23 dX7_count_169 wF_7_10 ?_
    obtain ⟨x24, e_x24, h⟩ := bS h
    obtain ⟨⟨fs_x24, o_x24⟩, e_x24⟩ := cV_of e_x24
    refine V_cVi (pc2 := 175) [] (st := []) o_x24 (tX2_spread e_x24) dX7_count_172 wV_7_187 (by decide) rfl (Nat.le_of_ble_eq_true rfl) ?_
    have e1 := inj1 h
    subst e1
    exact V_iret dX7_count_175 rfl ⟨rfl, rfl⟩
  replace h := iF c1_11 h
  by_cases c1_12 : p0 = (12 : Int32)
  · replace h := iT c1_12 h
    refine V_table (off := 175) (tgt := 176) dX7_count_1 (by rw [c1_12]; decide) ?_
    refine V_aload_n (pc2 := 177) dX7_count_176 0 rfl rfl ?_
    obtain ⟨r25, e_r25, h⟩ := bS h
    refine V_gR (pc2 := 180) e_r25 dX7_count_177 wF_7_10 ?_
    obtain ⟨x26, e_x26, h⟩ := bS h
    refine V_gI (pc2 := 183) e_x26 dX7_count_180 wF_7_240 ?_
    have e1 := inj1 h
    subst e1
    exact V_iret dX7_count_183 rfl ⟨rfl, rfl⟩
  replace h := iF c1_12 h
  by_cases c1_13 : p0 = (13 : Int32)
  · replace h := iT c1_13 h
    refine V_table (off := 183) (tgt := 184) dX7_count_1 (by rw [c1_13]; decide) ?_
    refine V_aload_n (pc2 := 185) dX7_count_184 0 rfl rfl ?_
    obtain ⟨x27, e_x27, h⟩ := bS h
    refine V_gI (pc2 := 188) e_x27 dX7_count_185 wF_7_314 ?_
    have e1 := inj1 h
    subst e1
    exact V_iret dX7_count_188 rfl ⟨rfl, rfl⟩
  replace h := iF c1_13 h
  by_cases c1_14 : p0 = (14 : Int32)
  · replace h := iT c1_14 h
    refine V_table (off := 188) (tgt := 189) dX7_count_1 (by rw [c1_14]; decide) ?_
    refine V_aload_n (pc2 := 190) dX7_count_189 0 rfl rfl ?_
    obtain ⟨r28, e_r28, h⟩ := bS h
    refine V_gR (pc2 := 193) e_r28 dX7_count_190 wF_7_25 ?_
    obtain ⟨x29, e_x29, h⟩ := bS h
    refine V_gI (pc2 := 196) e_x29 dX7_count_193 wF_7_233 ?_
    have e1 := inj1 h
    subst e1
    exact V_iret dX7_count_196 rfl ⟨rfl, rfl⟩
  replace h := iF c1_14 h
  by_cases c1_15 : p0 = (15 : Int32)
  · replace h := iT c1_15 h
    refine V_table (off := 196) (tgt := 197) dX7_count_1 (by rw [c1_15]; decide) ?_
    refine V_aload_n (pc2 := 198) dX7_count_197 0 rfl rfl ?_
    obtain ⟨r30, e_r30, h⟩ := bS h
    refine V_gR (pc2 := 201) e_r30 dX7_count_198 wF_7_10 ?_
    obtain ⟨x31, e_x31, h⟩ := bS h
    refine V_gI (pc2 := 204) e_x31 dX7_count_201 wF_7_154 ?_
    have e1 := inj1 h
    subst e1
    exact V_iret dX7_count_204 rfl ⟨rfl, rfl⟩
  replace h := iF c1_15 h
  refine V_tableD (tgt := 205) dX7_count_1 (by have g0 := lv_neT c1_0 (show (0 : Int32).toInt = 0 by decide); have g1 := lv_neT c1_1 (show (1 : Int32).toInt = 1 by decide); have g2 := lv_neT c1_2 (show (2 : Int32).toInt = 2 by decide); have g3 := lv_neT c1_3 (show (3 : Int32).toInt = 3 by decide); have g4 := lv_neT c1_4 (show (4 : Int32).toInt = 4 by decide); have g5 := lv_neT c1_5 (show (5 : Int32).toInt = 5 by decide); have g6 := lv_neT c1_6 (show (6 : Int32).toInt = 6 by decide); have g7 := lv_neT c1_7 (show (7 : Int32).toInt = 7 by decide); have g8 := lv_neT c1_8 (show (8 : Int32).toInt = 8 by decide); have g9 := lv_neT c1_9 (show (9 : Int32).toInt = 9 by decide); have g10 := lv_neT c1_10 (show (10 : Int32).toInt = 10 by decide); have g11 := lv_neT c1_11 (show (11 : Int32).toInt = 11 by decide); have g12 := lv_neT c1_12 (show (12 : Int32).toInt = 12 by decide); have g13 := lv_neT c1_13 (show (13 : Int32).toInt = 13 by decide); have g14 := lv_neT c1_14 (show (14 : Int32).toInt = 14 by decide); have g15 := lv_neT c1_15 (show (15 : Int32).toInt = 15 by decide); omega) ?_
  refine V_ldc (v := -1000000001) (pc2 := 207) dX7_count_205 wconstant_7_51 ?_
  have e1 := inj1 h
  subst e1
  exact V_iret dX7_count_207 rfl ⟨rfl, rfl⟩
noncomputable def fX8_isIn (p0 : Int64) (p1 : Int64) (p2 : Int64) (m : Mem) : Option (Bool) :=
  if (lg_cmp p0 p1) < 0 then
    some false
  else
    if 0 < (lg_cmp p0 p2) then
      some false
    else
      some true
set_option maxRecDepth 20000 in
theorem tX8_isIn {D : Dat} {p0 : Int64} {p1 : Int64} {p2 : Int64} {m : Mem} {rR : Bool} (h : fX8_isIn p0 p1 p2 m = some rR) : T D 0 IX8_isIn [.long p0, .long p1, .long p2] m 0 0 (Qi (zb rR) m) := by
  refine T_of_V (by decide) (Nat.le_of_ble_eq_true rfl) ?_
  show V D 0 IX8_isIn 0 [(0, .long p0), (2, .long p1), (4, .long p2)] [] m 0 0 (Qi (zb rR) m)
  unfold fX8_isIn at h
  refine V_lload_n (pc2 := 1) dX8_isIn_0 0 rfl rfl ?_
  refine V_lload_n (pc2 := 2) dX8_isIn_1 1 rfl rfl ?_
  refine V_lcmp (pc2 := 3) dX8_isIn_2 ?_
  refine V_if_lt (pc2 := 6) (tgt := 17) dX8_isIn_3 (fun c3 => ?_) (fun c3 => ?_)
  · replace h := iT c3 h
    refine V_iconst (v := 0) (pc2 := 18) dX8_isIn_17 (by decide) ?_
    have e1 := inj1 h
    subst e1
    exact V_bret (b := false) dX8_isIn_18 rfl ⟨rfl, rfl⟩
  · replace h := iF c3 h
    refine V_lload_n (pc2 := 7) dX8_isIn_6 0 rfl rfl ?_
    refine V_lload (pc2 := 9) dX8_isIn_7 2 rfl ?_
    refine V_lcmp (pc2 := 10) dX8_isIn_9 ?_
    refine V_if_gt (pc2 := 13) (tgt := 17) dX8_isIn_10 (fun c10 => ?_) (fun c10 => ?_)
    · replace h := iT c10 h
      refine V_iconst (v := 0) (pc2 := 18) dX8_isIn_17 (by decide) ?_
      have e1 := inj1 h
      subst e1
      exact V_bret (b := false) dX8_isIn_18 rfl ⟨rfl, rfl⟩
    · replace h := iF c10 h
      refine V_iconst (v := 1) (pc2 := 14) dX8_isIn_13 (by decide) ?_
      refine V_goto (tgt := 18) dX8_isIn_14 ?_
      have e1 := inj1 h
      subst e1
      exact V_bret (b := true) dX8_isIn_18 rfl ⟨rfl, rfl⟩
noncomputable def fX8_child (a0 : Nat) (p0 : Int32) (m : Mem) : Option (Int32 × Mem) :=
  (fX8_isIn p0.toInt64 (1 : Int64) (9 : Int64) m).bind fun b1 =>
  if b1 = true then
    (gR m a0 8 0).bind fun r2 =>
    (ldI m r2 (0 : Int32)).bind fun x3 =>
    if x3 = (10 : Int32) then
      some ((-1000000003 : Int32), m)
    else
      (gR m a0 8 0).bind fun r4 =>
      (ldI m r4 (0 : Int32)).bind fun x5 =>
      (gR m a0 8 0).bind fun r6 =>
      (stI m r6 ((12 : Int32) + ((3 : Int32) * x5)) p0).bind fun m7 =>
      (gR m7 a0 8 0).bind fun r8 =>
      (stI m7 r8 (((12 : Int32) + ((3 : Int32) * x5)) + (1 : Int32)) (0 : Int32)).bind fun m9 =>
      (gR m9 a0 8 0).bind fun r10 =>
      (stI m9 r10 (((12 : Int32) + ((3 : Int32) * x5)) + (2 : Int32)) (0 : Int32)).bind fun m11 =>
      (gR m11 a0 8 0).bind fun r12 =>
      (ldI m11 r12 (0 : Int32)).bind fun x13 =>
      (stI m11 r12 (0 : Int32) (x13 + (1 : Int32))).bind fun m14 =>
      (gR m14 a0 8 0).bind fun r15 =>
      (ldI m14 r15 (0 : Int32)).bind fun x16 =>
      some (x16 - (1 : Int32), m14)
  else
    some ((-1000000001 : Int32), m)
set_option maxRecDepth 20000 in
theorem tX8_child {D : Dat} {a0 : Nat} {p0 : Int32} {m : Mem} {rR : Int32} {mR : Mem} (h : fX8_child a0 p0 m = some (rR, mR)) : T D 1 IX8_child [.ref a0, .int p0] m 0 0 (Qi rR mR) := by
  refine T_of_V (by decide) (Nat.le_of_ble_eq_true rfl) ?_
  show V D 1 IX8_child 0 [(0, .ref a0), (1, .int p0)] [] m 0 0 (Qi rR mR)
  unfold fX8_child at h
  refine V_iload_n (pc2 := 1) dX8_child_0 1 rfl rfl ?_
  refine V_i2l (pc2 := 2) dX8_child_1 rfl ?_
  refine V_lconst (v := 1) (pc2 := 3) dX8_child_2 (by decide) ?_
  refine V_ldc2 (v := 9) (pc2 := 6) dX8_child_3 wconstantLong_8_70 ?_
  obtain ⟨b1, e_b1, h⟩ := bS h
  refine V_cSi (pc2 := 9) [.long p0.toInt64, .long (1 : Int64), .long (9 : Int64)] (st := []) (tX8_isIn e_b1) dX8_child_6 wS_8_65 (by decide) rfl (Nat.le_of_ble_eq_true rfl) ?_
  refine V_ifb_ne (pc2 := 12) (tgt := 15) dX8_child_9 (fun c9 => ?_) (fun c9 => ?_)
  · replace h := iT c9 h
    refine V_aload_n (pc2 := 16) dX8_child_15 0 rfl rfl ?_
    obtain ⟨r2, e_r2, h⟩ := bS h
    refine V_gR (pc2 := 19) e_r2 dX8_child_16 wF_8_7 ?_
    refine V_iconst (v := 0) (pc2 := 20) dX8_child_19 (by decide) ?_
    obtain ⟨x3, e_x3, h⟩ := bS h
    refine V_ldI (pc2 := 21) e_x3 dX8_child_20 ?_
    refine V_bipush (v := 10) (pc2 := 23) dX8_child_21 (by decide) ?_
    refine V_icmp_ne (pc2 := 26) (tgt := 29) dX8_child_23 (fun c23 => ?_) (fun c23 => ?_)
    · replace h := iF c23 h
      refine V_bipush (v := 12) (pc2 := 31) dX8_child_29 (by decide) ?_
      refine V_iconst (v := 3) (pc2 := 32) dX8_child_31 (by decide) ?_
      refine V_aload_n (pc2 := 33) dX8_child_32 0 rfl rfl ?_
      obtain ⟨r4, e_r4, h⟩ := bS h
      refine V_gR (pc2 := 36) e_r4 dX8_child_33 wF_8_7 ?_
      refine V_iconst (v := 0) (pc2 := 37) dX8_child_36 (by decide) ?_
      obtain ⟨x5, e_x5, h⟩ := bS h
      refine V_ldI (pc2 := 38) e_x5 dX8_child_37 ?_
      refine V_imul (pc2 := 39) dX8_child_38 ?_
      refine V_iadd (pc2 := 40) dX8_child_39 ?_
      refine V_istore_n (pc2 := 41) (L2 := [(2, .int ((12 : Int32) + ((3 : Int32) * x5))), (0, .ref a0), (1, .int p0)]) dX8_child_40 ?_ rfl rfl rfl
      refine V_aload_n (pc2 := 42) dX8_child_41 1 rfl rfl ?_
      obtain ⟨r6, e_r6, h⟩ := bS h
      refine V_gR (pc2 := 45) e_r6 dX8_child_42 wF_8_7 ?_
      refine V_iload_n (pc2 := 46) dX8_child_45 0 rfl rfl ?_
      refine V_iload_n (pc2 := 47) dX8_child_46 2 rfl rfl ?_
      obtain ⟨m7, e_m7, h⟩ := bS h
      refine V_stI (pc2 := 48) e_m7 dX8_child_47 ?_
      refine V_aload_n (pc2 := 49) dX8_child_48 1 rfl rfl ?_
      obtain ⟨r8, e_r8, h⟩ := bS h
      refine V_gR (pc2 := 52) e_r8 dX8_child_49 wF_8_7 ?_
      refine V_iload_n (pc2 := 53) dX8_child_52 0 rfl rfl ?_
      refine V_iconst (v := 1) (pc2 := 54) dX8_child_53 (by decide) ?_
      refine V_iadd (pc2 := 55) dX8_child_54 ?_
      refine V_iconst (v := 0) (pc2 := 56) dX8_child_55 (by decide) ?_
      obtain ⟨m9, e_m9, h⟩ := bS h
      refine V_stI (pc2 := 57) e_m9 dX8_child_56 ?_
      refine V_aload_n (pc2 := 58) dX8_child_57 1 rfl rfl ?_
      obtain ⟨r10, e_r10, h⟩ := bS h
      refine V_gR (pc2 := 61) e_r10 dX8_child_58 wF_8_7 ?_
      refine V_iload_n (pc2 := 62) dX8_child_61 0 rfl rfl ?_
      refine V_iconst (v := 2) (pc2 := 63) dX8_child_62 (by decide) ?_
      refine V_iadd (pc2 := 64) dX8_child_63 ?_
      refine V_iconst (v := 0) (pc2 := 65) dX8_child_64 (by decide) ?_
      obtain ⟨m11, e_m11, h⟩ := bS h
      refine V_stI (pc2 := 66) e_m11 dX8_child_65 ?_
      refine V_aload_n (pc2 := 67) dX8_child_66 1 rfl rfl ?_
      obtain ⟨r12, e_r12, h⟩ := bS h
      refine V_gR (pc2 := 70) e_r12 dX8_child_67 wF_8_7 ?_
      refine V_iconst (v := 0) (pc2 := 71) dX8_child_70 (by decide) ?_
      refine V_dup2 (pc2 := 72) dX8_child_71 rfl rfl ?_
      obtain ⟨x13, e_x13, h⟩ := bS h
      refine V_ldI (pc2 := 73) e_x13 dX8_child_72 ?_
      refine V_iconst (v := 1) (pc2 := 74) dX8_child_73 (by decide) ?_
      refine V_iadd (pc2 := 75) dX8_child_74 ?_
      obtain ⟨m14, e_m14, h⟩ := bS h
      refine V_stI (pc2 := 76) e_m14 dX8_child_75 ?_
      refine V_aload_n (pc2 := 77) dX8_child_76 1 rfl rfl ?_
      obtain ⟨r15, e_r15, h⟩ := bS h
      refine V_gR (pc2 := 80) e_r15 dX8_child_77 wF_8_7 ?_
      refine V_iconst (v := 0) (pc2 := 81) dX8_child_80 (by decide) ?_
      obtain ⟨x16, e_x16, h⟩ := bS h
      refine V_ldI (pc2 := 82) e_x16 dX8_child_81 ?_
      refine V_iconst (v := 1) (pc2 := 83) dX8_child_82 (by decide) ?_
      refine V_isub (pc2 := 84) dX8_child_83 ?_
      obtain ⟨e1, e2⟩ := inj2 h
      subst e1
      subst e2
      exact V_iret dX8_child_84 rfl ⟨rfl, rfl⟩
    · replace h := iT c23 h
      refine V_ldc (v := -1000000003) (pc2 := 28) dX8_child_26 wconstant_8_73 ?_
      obtain ⟨e1, e2⟩ := inj2 h
      subst e1
      subst e2
      exact V_iret dX8_child_28 rfl ⟨rfl, rfl⟩
  · replace h := iF c9 h
    refine V_ldc (v := -1000000001) (pc2 := 14) dX8_child_12 wconstant_8_72 ?_
    obtain ⟨e1, e2⟩ := inj2 h
    subst e1
    subst e2
    exact V_iret dX8_child_14 rfl ⟨rfl, rfl⟩
noncomputable def fX8_textAt (a0 : Nat) (p0 : Int32) (m : Mem) : Option (Int32) :=
  some ((92 : Int32) + ((200 : Int32) * p0))
set_option maxRecDepth 20000 in
theorem tX8_textAt {D : Dat} {a0 : Nat} {p0 : Int32} {m : Mem} {rR : Int32} (h : fX8_textAt a0 p0 m = some rR) : T D 0 IX8_textAt [.ref a0, .int p0] m 0 0 (Qi rR m) := by
  refine T_of_V (by decide) (Nat.le_of_ble_eq_true rfl) ?_
  show V D 0 IX8_textAt 0 [(0, .ref a0), (1, .int p0)] [] m 0 0 (Qi rR m)
  unfold fX8_textAt at h
  refine V_bipush (v := 92) (pc2 := 2) dX8_textAt_0 (by decide) ?_
  refine V_sipush (v := 200) (pc2 := 5) dX8_textAt_2 (by decide) ?_
  refine V_iload_n (pc2 := 6) dX8_textAt_5 1 rfl rfl ?_
  refine V_imul (pc2 := 7) dX8_textAt_6 ?_
  refine V_iadd (pc2 := 8) dX8_textAt_7 ?_
  have e1 := inj1 h
  subst e1
  exact V_iret dX8_textAt_8 rfl ⟨rfl, rfl⟩
noncomputable def fX8_counts_b0 (a0 : Nat) (p0 : Int32) (m : Mem) : Int32 × Int32 → Option ((Int32 × Int32) ⊕ Int32) := fun (y1, y2) =>
  (gR m a0 8 0).bind fun r3 =>
  (ldI m r3 (3 : Int32)).bind fun x4 =>
  if x4 ≤ y2 then
    some (.inr y1)
  else
    (gR m a0 8 0).bind fun r5 =>
    (cV m a0 8 (fX8_textAt a0 y2 m)).bind fun x6 =>
    (ldI m r5 x6).bind fun x7 =>
    (
      if x7 = p0 then
        some y2
      else
        some y1).bind fun y8 =>
    some (.inl (y8, y2 + (1 : Int32)))
noncomputable def fX8_counts (a0 : Nat) (p0 : Int32) (m : Mem) : Option (Int32) :=
  (loopF (fX8_counts_b0 a0 p0 m) bigN ((-1 : Int32), (0 : Int32))).bind fun y9 =>
  some y9
set_option maxRecDepth 20000 in
theorem tX8_counts {D : Dat} {a0 : Nat} {p0 : Int32} {m : Mem} {rR : Int32} (h : fX8_counts a0 p0 m = some rR) : T D 1 IX8_counts [.ref a0, .int p0] m 0 0 (Qi rR m) := by
  refine T_of_V (by decide) (Nat.le_of_ble_eq_true rfl) ?_
  show V D 1 IX8_counts 0 [(0, .ref a0), (1, .int p0)] [] m 0 0 (Qi rR m)
  unfold fX8_counts at h
  refine V_iconst (v := -1) (pc2 := 1) dX8_counts_0 (by decide) ?_
  refine V_istore_n (pc2 := 2) (L2 := [(2, .int (-1 : Int32)), (0, .ref a0), (1, .int p0)]) dX8_counts_1 ?_ rfl rfl rfl
  refine V_iconst (v := 0) (pc2 := 3) dX8_counts_2 (by decide) ?_
  refine V_istore_n (pc2 := 4) (L2 := [(3, .int (0 : Int32)), (2, .int (-1 : Int32)), (0, .ref a0), (1, .int p0)]) dX8_counts_3 ?_ rfl rfl rfl
  obtain ⟨y9, hl, h⟩ := bS h
  have hJ40 : V D 1 IX8_counts 40 [(2, .int y9)] [] m 0 0 (Qi rR m) := by
    refine V_iload_n (pc2 := 41) dX8_counts_40 0 rfl rfl ?_
    have e1 := inj1 h
    subst e1
    exact V_iret dX8_counts_41 rfl ⟨rfl, rfl⟩
  clear h
  have key4 : ∀ (n : Nat) (y1 : Int32) (y2 : Int32), loopF (fX8_counts_b0 a0 p0 m) n (y1, y2) = some y9 → V D 1 IX8_counts 4 [(0, .ref a0), (1, .int p0), (2, .int y1), (3, .int y2)] [] m 0 0 (Qi rR m) := by
    intro n
    induction n with
    | zero => intro y1 y2 h; cases h
    | succ n ih =>
      intro y1 y2 h
      obtain ⟨o, h, ho⟩ := loopF_inv h
      dsimp only [fX8_counts_b0] at h
      refine V_iload_n (pc2 := 5) dX8_counts_4 3 rfl rfl ?_
      refine V_aload_n (pc2 := 6) dX8_counts_5 0 rfl rfl ?_
      obtain ⟨r3, e_r3, h⟩ := bS h
      refine V_gR (pc2 := 9) e_r3 dX8_counts_6 wF_8_7 ?_
      refine V_iconst (v := 3) (pc2 := 10) dX8_counts_9 (by decide) ?_
      obtain ⟨x4, e_x4, h⟩ := bS h
      refine V_ldI (pc2 := 11) e_x4 dX8_counts_10 ?_
      refine V_icmp_ge (pc2 := 14) (tgt := 40) dX8_counts_11 (fun c11 => ?_) (fun c11 => ?_)
      · replace h := iT c11 h
        have ee := inj1 h
        subst ee
        have e1 := pinj1 (loopF_e ho)
        subst e1
        exact V_lv hJ40 [2] rfl
      · replace h := iF c11 h
        refine V_aload_n (pc2 := 15) dX8_counts_14 0 rfl rfl ?_
        obtain ⟨r5, e_r5, h⟩ := bS h
        refine V_gR (pc2 := 18) e_r5 dX8_counts_15 wF_8_7 ?_
        refine V_aload_n (pc2 := 19) dX8_counts_18 0 rfl rfl ?_
        refine V_iload_n (pc2 := 20) dX8_counts_19 3 rfl rfl ?_
        obtain ⟨x6, e_x6, h⟩ := bS h
        obtain ⟨⟨fs_x6, o_x6⟩, e_x6⟩ := cV_of e_x6
        refine V_cVi (pc2 := 23) [.int y2] (st := [.ref r5]) o_x6 (tX8_textAt e_x6) dX8_counts_20 wV_8_278 (by decide) rfl (Nat.le_of_ble_eq_true rfl) ?_
        obtain ⟨x7, e_x7, h⟩ := bS h
        refine V_ldI (pc2 := 24) e_x7 dX8_counts_23 ?_
        refine V_iload_n (pc2 := 25) dX8_counts_24 1 rfl rfl ?_
        obtain ⟨y8, hb, h⟩ := bS h
        have hJ33 : V D 1 IX8_counts 33 [(0, .ref a0), (1, .int p0), (3, .int y2)] [.int y8] m 0 0 (Qi rR m) := by
          refine V_istore_n (pc2 := 34) (L2 := [(2, .int y8), (0, .ref a0), (1, .int p0), (3, .int y2)]) dX8_counts_33 ?_ rfl rfl rfl
          refine V_iinc (pc2 := 37) (v := y2 + (1 : Int32)) (L2 := [(3, .int (y2 + (1 : Int32))), (2, .int y8), (0, .ref a0), (1, .int p0)]) dX8_counts_34 3 rfl (by rfl) ?_ rfl rfl
          refine V_goto (tgt := 4) dX8_counts_37 ?_
          have ee := inj1 h
          subst ee
          exact V_lv (ih _ _ (loopF_c ho)) [2, 3, 1, 0] rfl
        clear h
        have h := hb
        clear hb
        refine V_icmp_ne (pc2 := 28) (tgt := 32) dX8_counts_25 (fun c25 => ?_) (fun c25 => ?_)
        · replace h := iF c25 h
          refine V_iload_n (pc2 := 33) dX8_counts_32 2 rfl rfl ?_
          have e1 := inj1 h
          subst e1
          exact V_lv hJ33 [0, 1, 3] rfl
        · replace h := iT c25 h
          refine V_iload_n (pc2 := 29) dX8_counts_28 3 rfl rfl ?_
          refine V_goto (tgt := 33) dX8_counts_29 ?_
          have e1 := inj1 h
          subst e1
          exact V_lv hJ33 [0, 1, 3] rfl
  exact V_lv (key4 _ _ _ hl) [2, 3, 1, 0] rfl
noncomputable def fX8_held (p0 : Int32) (p1 : Int32) (p2 : Int32) (m : Mem) : Option (Int32) :=
  if p1 ≤ p0 then
    if p0 ≤ p2 then
      some p0
    else
      some p2
  else
    some p1
set_option maxRecDepth 20000 in
theorem tX8_held {D : Dat} {p0 : Int32} {p1 : Int32} {p2 : Int32} {m : Mem} {rR : Int32} (h : fX8_held p0 p1 p2 m = some rR) : T D 0 IX8_held [.int p0, .int p1, .int p2] m 0 0 (Qi rR m) := by
  refine T_of_V (by decide) (Nat.le_of_ble_eq_true rfl) ?_
  show V D 0 IX8_held 0 [(0, .int p0), (1, .int p1), (2, .int p2)] [] m 0 0 (Qi rR m)
  unfold fX8_held at h
  refine V_iload_n (pc2 := 1) dX8_held_0 0 rfl rfl ?_
  refine V_iload_n (pc2 := 2) dX8_held_1 1 rfl rfl ?_
  refine V_icmp_ge (pc2 := 5) (tgt := 9) dX8_held_2 (fun c2 => ?_) (fun c2 => ?_)
  · replace h := iT c2 h
    refine V_iload_n (pc2 := 10) dX8_held_9 0 rfl rfl ?_
    refine V_iload_n (pc2 := 11) dX8_held_10 2 rfl rfl ?_
    refine V_icmp_le (pc2 := 14) (tgt := 18) dX8_held_11 (fun c11 => ?_) (fun c11 => ?_)
    · replace h := iT c11 h
      refine V_iload_n (pc2 := 19) dX8_held_18 0 rfl rfl ?_
      have e1 := inj1 h
      subst e1
      exact V_iret dX8_held_19 rfl ⟨rfl, rfl⟩
    · replace h := iF c11 h
      refine V_iload_n (pc2 := 15) dX8_held_14 2 rfl rfl ?_
      refine V_goto (tgt := 19) dX8_held_15 ?_
      have e1 := inj1 h
      subst e1
      exact V_iret dX8_held_19 rfl ⟨rfl, rfl⟩
  · replace h := iF c2 h
    refine V_iload_n (pc2 := 6) dX8_held_5 1 rfl rfl ?_
    refine V_goto (tgt := 19) dX8_held_6 ?_
    have e1 := inj1 h
    subst e1
    exact V_iret dX8_held_19 rfl ⟨rfl, rfl⟩
noncomputable def fX8_own (a0 : Nat) (p0 : Int32) (p1 : Int32) (m : Mem) : Option (Int32) :=
  (gR m a0 8 0).bind fun r1 =>
  (ldI m r1 (((12 : Int32) + ((3 : Int32) * p0)) + p1)).bind fun x2 =>
  some x2
set_option maxRecDepth 20000 in
theorem tX8_own {D : Dat} {a0 : Nat} {p0 : Int32} {p1 : Int32} {m : Mem} {rR : Int32} (h : fX8_own a0 p0 p1 m = some rR) : T D 0 IX8_own [.ref a0, .int p0, .int p1] m 0 0 (Qi rR m) := by
  refine T_of_V (by decide) (Nat.le_of_ble_eq_true rfl) ?_
  show V D 0 IX8_own 0 [(0, .ref a0), (1, .int p0), (2, .int p1)] [] m 0 0 (Qi rR m)
  unfold fX8_own at h
  refine V_aload_n (pc2 := 1) dX8_own_0 0 rfl rfl ?_
  obtain ⟨r1, e_r1, h⟩ := bS h
  refine V_gR (pc2 := 4) e_r1 dX8_own_1 wF_8_7 ?_
  refine V_bipush (v := 12) (pc2 := 6) dX8_own_4 (by decide) ?_
  refine V_iconst (v := 3) (pc2 := 7) dX8_own_6 (by decide) ?_
  refine V_iload_n (pc2 := 8) dX8_own_7 1 rfl rfl ?_
  refine V_imul (pc2 := 9) dX8_own_8 ?_
  refine V_iadd (pc2 := 10) dX8_own_9 ?_
  refine V_iload_n (pc2 := 11) dX8_own_10 2 rfl rfl ?_
  refine V_iadd (pc2 := 12) dX8_own_11 ?_
  obtain ⟨x2, e_x2, h⟩ := bS h
  refine V_ldI (pc2 := 13) e_x2 dX8_own_12 ?_
  have e1 := inj1 h
  subst e1
  exact V_iret dX8_own_13 rfl ⟨rfl, rfl⟩
noncomputable def fX8_sortNow (a0 : Nat) (m : Mem) : Option (Int32) :=
  (gR m a0 8 0).bind fun r1 =>
  (ldI m r1 (4 : Int32)).bind fun x2 =>
  (gR m a0 8 0).bind fun r3 =>
  (ldI m r3 (2 : Int32)).bind fun x4 =>
  if x4 ≤ x2 then
    some (0 : Int32)
  else
    (gR m a0 8 0).bind fun r5 =>
    (gR m a0 8 0).bind fun r6 =>
    (ldI m r6 (4 : Int32)).bind fun x7 =>
    (ldI m r5 ((72 : Int32) + x7)).bind fun x8 =>
    some x8
set_option maxRecDepth 20000 in
theorem tX8_sortNow {D : Dat} {a0 : Nat} {m : Mem} {rR : Int32} (h : fX8_sortNow a0 m = some rR) : T D 0 IX8_sortNow [.ref a0] m 0 0 (Qi rR m) := by
  refine T_of_V (by decide) (Nat.le_of_ble_eq_true rfl) ?_
  show V D 0 IX8_sortNow 0 [(0, .ref a0)] [] m 0 0 (Qi rR m)
  unfold fX8_sortNow at h
  refine V_aload_n (pc2 := 1) dX8_sortNow_0 0 rfl rfl ?_
  obtain ⟨r1, e_r1, h⟩ := bS h
  refine V_gR (pc2 := 4) e_r1 dX8_sortNow_1 wF_8_7 ?_
  refine V_iconst (v := 4) (pc2 := 5) dX8_sortNow_4 (by decide) ?_
  obtain ⟨x2, e_x2, h⟩ := bS h
  refine V_ldI (pc2 := 6) e_x2 dX8_sortNow_5 ?_
  refine V_aload_n (pc2 := 7) dX8_sortNow_6 0 rfl rfl ?_
  obtain ⟨r3, e_r3, h⟩ := bS h
  refine V_gR (pc2 := 10) e_r3 dX8_sortNow_7 wF_8_7 ?_
  refine V_iconst (v := 2) (pc2 := 11) dX8_sortNow_10 (by decide) ?_
  obtain ⟨x4, e_x4, h⟩ := bS h
  refine V_ldI (pc2 := 12) e_x4 dX8_sortNow_11 ?_
  refine V_icmp_ge (pc2 := 15) (tgt := 32) dX8_sortNow_12 (fun c12 => ?_) (fun c12 => ?_)
  · replace h := iT c12 h
    refine V_iconst (v := 0) (pc2 := 33) dX8_sortNow_32 (by decide) ?_
    have e1 := inj1 h
    subst e1
    exact V_iret dX8_sortNow_33 rfl ⟨rfl, rfl⟩
  · replace h := iF c12 h
    refine V_aload_n (pc2 := 16) dX8_sortNow_15 0 rfl rfl ?_
    obtain ⟨r5, e_r5, h⟩ := bS h
    refine V_gR (pc2 := 19) e_r5 dX8_sortNow_16 wF_8_7 ?_
    refine V_bipush (v := 72) (pc2 := 21) dX8_sortNow_19 (by decide) ?_
    refine V_aload_n (pc2 := 22) dX8_sortNow_21 0 rfl rfl ?_
    obtain ⟨r6, e_r6, h⟩ := bS h
    refine V_gR (pc2 := 25) e_r6 dX8_sortNow_22 wF_8_7 ?_
    refine V_iconst (v := 4) (pc2 := 26) dX8_sortNow_25 (by decide) ?_
    obtain ⟨x7, e_x7, h⟩ := bS h
    refine V_ldI (pc2 := 27) e_x7 dX8_sortNow_26 ?_
    refine V_iadd (pc2 := 28) dX8_sortNow_27 ?_
    obtain ⟨x8, e_x8, h⟩ := bS h
    refine V_ldI (pc2 := 29) e_x8 dX8_sortNow_28 ?_
    refine V_goto (tgt := 33) dX8_sortNow_29 ?_
    have e1 := inj1 h
    subst e1
    exact V_iret dX8_sortNow_33 rfl ⟨rfl, rfl⟩
noncomputable def fX8_joined (p0 : Int32) (p1 : Int32) (p2 : Int32) (m : Mem) : Option (Int32) :=
  if p0 = (38 : Int32) then
    if p1 = 0 then
      some (0 : Int32)
    else
      if p2 = 0 then
        some (0 : Int32)
      else
        some (1 : Int32)
  else if p0 = (42 : Int32) then
    some (p1 * p2)
  else if p0 = (43 : Int32) then
    some (p1 + p2)
  else if p0 = (45 : Int32) then
    some (p1 - p2)
  else if p0 = (47 : Int32) then
    if p2 = 0 then
      some (0 : Int32)
    else
      if p2 = (-1 : Int32) then
        some (-p1)
      else
        (dvI p1 p2).bind fun x1 =>
        some x1
  else if p0 = (60 : Int32) then
    if p2 ≤ p1 then
      some (0 : Int32)
    else
      some (1 : Int32)
  else if p0 = (61 : Int32) then
    if p1 = p2 then
      some (1 : Int32)
    else
      some (0 : Int32)
  else if p0 = (62 : Int32) then
    if p1 ≤ p2 then
      some (0 : Int32)
    else
      some (1 : Int32)
  else 
    if p1 = 0 then
      if p2 = 0 then
        some (0 : Int32)
      else
        some (1 : Int32)
    else
      some (1 : Int32)
set_option maxRecDepth 20000 in
theorem tX8_joined {D : Dat} {p0 : Int32} {p1 : Int32} {p2 : Int32} {m : Mem} {rR : Int32} (h : fX8_joined p0 p1 p2 m = some rR) : T D 0 IX8_joined [.int p0, .int p1, .int p2] m 0 0 (Qi rR m) := by
  refine T_of_V (by decide) (Nat.le_of_ble_eq_true rfl) ?_
  show V D 0 IX8_joined 0 [(0, .int p0), (1, .int p1), (2, .int p2)] [] m 0 0 (Qi rR m)
  unfold fX8_joined at h
  refine V_iload_n (pc2 := 1) dX8_joined_0 0 rfl rfl ?_
  by_cases c1_0 : p0 = (38 : Int32)
  · replace h := iT c1_0 h
    refine V_table (off := 182) (tgt := 183) dX8_joined_1 (by rw [c1_0]; decide) ?_
    refine V_iload_n (pc2 := 184) dX8_joined_183 1 rfl rfl ?_
    refine V_if_eq (pc2 := 187) (tgt := 195) dX8_joined_184 (fun c184 => ?_) (fun c184 => ?_)
    · replace h := iT c184 h
      refine V_iconst (v := 0) (pc2 := 196) dX8_joined_195 (by decide) ?_
      have e1 := inj1 h
      subst e1
      exact V_iret dX8_joined_196 rfl ⟨rfl, rfl⟩
    · replace h := iF c184 h
      refine V_iload_n (pc2 := 188) dX8_joined_187 2 rfl rfl ?_
      refine V_if_eq (pc2 := 191) (tgt := 195) dX8_joined_188 (fun c188 => ?_) (fun c188 => ?_)
      · replace h := iT c188 h
        refine V_iconst (v := 0) (pc2 := 196) dX8_joined_195 (by decide) ?_
        have e1 := inj1 h
        subst e1
        exact V_iret dX8_joined_196 rfl ⟨rfl, rfl⟩
      · replace h := iF c188 h
        refine V_iconst (v := 1) (pc2 := 192) dX8_joined_191 (by decide) ?_
        refine V_goto (tgt := 196) dX8_joined_192 ?_
        have e1 := inj1 h
        subst e1
        exact V_iret dX8_joined_196 rfl ⟨rfl, rfl⟩
  replace h := iF c1_0 h
  by_cases c1_1 : p0 = (42 : Int32)
  · replace h := iT c1_1 h
    refine V_table (off := 123) (tgt := 124) dX8_joined_1 (by rw [c1_1]; decide) ?_
    refine V_iload_n (pc2 := 125) dX8_joined_124 1 rfl rfl ?_
    refine V_iload_n (pc2 := 126) dX8_joined_125 2 rfl rfl ?_
    refine V_imul (pc2 := 127) dX8_joined_126 ?_
    have e1 := inj1 h
    subst e1
    exact V_iret dX8_joined_127 rfl ⟨rfl, rfl⟩
  replace h := iF c1_1 h
  by_cases c1_2 : p0 = (43 : Int32)
  · replace h := iT c1_2 h
    refine V_table (off := 115) (tgt := 116) dX8_joined_1 (by rw [c1_2]; decide) ?_
    refine V_iload_n (pc2 := 117) dX8_joined_116 1 rfl rfl ?_
    refine V_iload_n (pc2 := 118) dX8_joined_117 2 rfl rfl ?_
    refine V_iadd (pc2 := 119) dX8_joined_118 ?_
    have e1 := inj1 h
    subst e1
    exact V_iret dX8_joined_119 rfl ⟨rfl, rfl⟩
  replace h := iF c1_2 h
  by_cases c1_3 : p0 = (45 : Int32)
  · replace h := iT c1_3 h
    refine V_table (off := 119) (tgt := 120) dX8_joined_1 (by rw [c1_3]; decide) ?_
    refine V_iload_n (pc2 := 121) dX8_joined_120 1 rfl rfl ?_
    refine V_iload_n (pc2 := 122) dX8_joined_121 2 rfl rfl ?_
    refine V_isub (pc2 := 123) dX8_joined_122 ?_
    have e1 := inj1 h
    subst e1
    exact V_iret dX8_joined_123 rfl ⟨rfl, rfl⟩
  replace h := iF c1_3 h
  by_cases c1_4 : p0 = (47 : Int32)
  · replace h := iT c1_4 h
    refine V_table (off := 127) (tgt := 128) dX8_joined_1 (by rw [c1_4]; decide) ?_
    refine V_iload_n (pc2 := 129) dX8_joined_128 2 rfl rfl ?_
    refine V_if_ne (pc2 := 132) (tgt := 136) dX8_joined_129 (fun c129 => ?_) (fun c129 => ?_)
    · replace h := iF c129 h
      refine V_iload_n (pc2 := 137) dX8_joined_136 2 rfl rfl ?_
      refine V_iconst (v := -1) (pc2 := 138) dX8_joined_137 (by decide) ?_
      refine V_icmp_ne (pc2 := 141) (tgt := 146) dX8_joined_138 (fun c138 => ?_) (fun c138 => ?_)
      · replace h := iF c138 h
        refine V_iload_n (pc2 := 147) dX8_joined_146 1 rfl rfl ?_
        refine V_iload_n (pc2 := 148) dX8_joined_147 2 rfl rfl ?_
        obtain ⟨x1, e_x1, h⟩ := bS h
        refine V_dvI (pc2 := 149) e_x1 dX8_joined_148 ?_
        have e1 := inj1 h
        subst e1
        exact V_iret dX8_joined_149 rfl ⟨rfl, rfl⟩
      · replace h := iT c138 h
        refine V_iload_n (pc2 := 142) dX8_joined_141 1 rfl rfl ?_
        refine V_ineg (pc2 := 143) dX8_joined_142 ?_
        refine V_goto (tgt := 149) dX8_joined_143 ?_
        have e1 := inj1 h
        subst e1
        exact V_iret dX8_joined_149 rfl ⟨rfl, rfl⟩
    · replace h := iT c129 h
      refine V_iconst (v := 0) (pc2 := 133) dX8_joined_132 (by decide) ?_
      refine V_goto (tgt := 149) dX8_joined_133 ?_
      have e1 := inj1 h
      subst e1
      exact V_iret dX8_joined_149 rfl ⟨rfl, rfl⟩
  replace h := iF c1_4 h
  by_cases c1_5 : p0 = (60 : Int32)
  · replace h := iT c1_5 h
    refine V_table (off := 149) (tgt := 150) dX8_joined_1 (by rw [c1_5]; decide) ?_
    refine V_iload_n (pc2 := 151) dX8_joined_150 1 rfl rfl ?_
    refine V_iload_n (pc2 := 152) dX8_joined_151 2 rfl rfl ?_
    refine V_icmp_ge (pc2 := 155) (tgt := 159) dX8_joined_152 (fun c152 => ?_) (fun c152 => ?_)
    · replace h := iT c152 h
      refine V_iconst (v := 0) (pc2 := 160) dX8_joined_159 (by decide) ?_
      have e1 := inj1 h
      subst e1
      exact V_iret dX8_joined_160 rfl ⟨rfl, rfl⟩
    · replace h := iF c152 h
      refine V_iconst (v := 1) (pc2 := 156) dX8_joined_155 (by decide) ?_
      refine V_goto (tgt := 160) dX8_joined_156 ?_
      have e1 := inj1 h
      subst e1
      exact V_iret dX8_joined_160 rfl ⟨rfl, rfl⟩
  replace h := iF c1_5 h
  by_cases c1_6 : p0 = (61 : Int32)
  · replace h := iT c1_6 h
    refine V_table (off := 171) (tgt := 172) dX8_joined_1 (by rw [c1_6]; decide) ?_
    refine V_iload_n (pc2 := 173) dX8_joined_172 1 rfl rfl ?_
    refine V_iload_n (pc2 := 174) dX8_joined_173 2 rfl rfl ?_
    refine V_icmp_ne (pc2 := 177) (tgt := 181) dX8_joined_174 (fun c174 => ?_) (fun c174 => ?_)
    · replace h := iF c174 h
      refine V_iconst (v := 0) (pc2 := 182) dX8_joined_181 (by decide) ?_
      have e1 := inj1 h
      subst e1
      exact V_iret dX8_joined_182 rfl ⟨rfl, rfl⟩
    · replace h := iT c174 h
      refine V_iconst (v := 1) (pc2 := 178) dX8_joined_177 (by decide) ?_
      refine V_goto (tgt := 182) dX8_joined_178 ?_
      have e1 := inj1 h
      subst e1
      exact V_iret dX8_joined_182 rfl ⟨rfl, rfl⟩
  replace h := iF c1_6 h
  by_cases c1_7 : p0 = (62 : Int32)
  · replace h := iT c1_7 h
    refine V_table (off := 160) (tgt := 161) dX8_joined_1 (by rw [c1_7]; decide) ?_
    refine V_iload_n (pc2 := 162) dX8_joined_161 1 rfl rfl ?_
    refine V_iload_n (pc2 := 163) dX8_joined_162 2 rfl rfl ?_
    refine V_icmp_le (pc2 := 166) (tgt := 170) dX8_joined_163 (fun c163 => ?_) (fun c163 => ?_)
    · replace h := iT c163 h
      refine V_iconst (v := 0) (pc2 := 171) dX8_joined_170 (by decide) ?_
      have e1 := inj1 h
      subst e1
      exact V_iret dX8_joined_171 rfl ⟨rfl, rfl⟩
    · replace h := iF c163 h
      refine V_iconst (v := 1) (pc2 := 167) dX8_joined_166 (by decide) ?_
      refine V_goto (tgt := 171) dX8_joined_167 ?_
      have e1 := inj1 h
      subst e1
      exact V_iret dX8_joined_171 rfl ⟨rfl, rfl⟩
  replace h := iF c1_7 h
  refine V_tableG (S := [0, 4, 5, 7, 9, 22, 23, 24]) (tgt := 197) dX8_joined_1 (by decide) (by have g0 := lv_neT c1_0 (show (38 : Int32).toInt = 38 by decide); have g1 := lv_neT c1_1 (show (42 : Int32).toInt = 42 by decide); have g2 := lv_neT c1_2 (show (43 : Int32).toInt = 43 by decide); have g3 := lv_neT c1_3 (show (45 : Int32).toInt = 45 by decide); have g4 := lv_neT c1_4 (show (47 : Int32).toInt = 47 by decide); have g5 := lv_neT c1_5 (show (60 : Int32).toInt = 60 by decide); have g6 := lv_neT c1_6 (show (61 : Int32).toInt = 61 by decide); have g7 := lv_neT c1_7 (show (62 : Int32).toInt = 62 by decide); intro z1 z2; simp only [List.mem_cons, List.mem_nil_iff, or_false]; omega) ?_
  refine V_iload_n (pc2 := 198) dX8_joined_197 1 rfl rfl ?_
  refine V_if_ne (pc2 := 201) (tgt := 205) dX8_joined_198 (fun c198 => ?_) (fun c198 => ?_)
  · replace h := iF c198 h
    refine V_iconst (v := 1) (pc2 := 206) dX8_joined_205 (by decide) ?_
    refine V_goto (tgt := 210) dX8_joined_206 ?_
    have e1 := inj1 h
    subst e1
    exact V_iret dX8_joined_210 rfl ⟨rfl, rfl⟩
  · replace h := iT c198 h
    refine V_iload_n (pc2 := 202) dX8_joined_201 2 rfl rfl ?_
    refine V_if_eq (pc2 := 205) (tgt := 209) dX8_joined_202 (fun c202 => ?_) (fun c202 => ?_)
    · replace h := iT c202 h
      refine V_iconst (v := 0) (pc2 := 210) dX8_joined_209 (by decide) ?_
      have e1 := inj1 h
      subst e1
      exact V_iret dX8_joined_210 rfl ⟨rfl, rfl⟩
    · replace h := iF c202 h
      refine V_iconst (v := 1) (pc2 := 206) dX8_joined_205 (by decide) ?_
      refine V_goto (tgt := 210) dX8_joined_206 ?_
      have e1 := inj1 h
      subst e1
      exact V_iret dX8_joined_210 rfl ⟨rfl, rfl⟩
noncomputable def fX8_worked_b0 (a0 : Nat) (p0 : Int32) : Int32 × Int32 × Mem → Option ((Int32 × Int32 × Mem) ⊕ Mem) := fun (y1, y2, m3) =>
  (gR m3 a0 8 0).bind fun r4 =>
  (cV m3 a0 8 (fX8_textAt a0 p0 m3)).bind fun x5 =>
  (ldI m3 r4 (x5 + (2 : Int32))).bind fun x6 =>
  if x6 ≤ y2 then
    some (.inr m3)
  else
    (gR m3 a0 8 0).bind fun r7 =>
    (cV m3 a0 8 (fX8_textAt a0 p0 m3)).bind fun x8 =>
    (ldI m3 r7 ((x8 + (4 : Int32)) + ((2 : Int32) * y2))).bind fun x9 =>
    (gR m3 a0 8 0).bind fun r10 =>
    (cV m3 a0 8 (fX8_textAt a0 p0 m3)).bind fun x11 =>
    (ldI m3 r10 (((x11 + (4 : Int32)) + ((2 : Int32) * y2)) + (1 : Int32))).bind fun x12 =>
    (
      if x9 = (2 : Int32) then
        if x12 = (33 : Int32) then
          (gR m3 a0 8 26).bind fun r20 =>
          (gR m3 a0 8 26).bind fun r21 =>
          (ldI m3 r21 (y1 - (1 : Int32))).bind fun x22 =>
          (
            if x22 = 0 then
              some (1 : Int32)
            else
              some (0 : Int32)).bind fun y23 =>
          (stI m3 r20 (y1 - (1 : Int32)) y23).bind fun m24 =>
          some (y1, m24)
        else
          (gR m3 a0 8 26).bind fun r13 =>
          (gR m3 a0 8 26).bind fun r14 =>
          (ldI m3 r14 ((y1 + (-1 : Int32)) - (1 : Int32))).bind fun x15 =>
          (gR m3 a0 8 26).bind fun r16 =>
          (ldI m3 r16 (y1 + (-1 : Int32))).bind fun x17 =>
          (fX8_joined x12 x15 x17 m3).bind fun x18 =>
          (stI m3 r13 ((y1 + (-1 : Int32)) - (1 : Int32)) x18).bind fun m19 =>
          some (y1 + (-1 : Int32), m19)
      else
        (gR m3 a0 8 26).bind fun r25 =>
        (
          if x9 = 0 then
            some x12
          else
            (gR m3 a0 8 25).bind fun r26 =>
            (ldI m3 r26 x12).bind fun x27 =>
            some x27).bind fun y28 =>
        (stI m3 r25 y1 y28).bind fun m29 =>
        some (y1 + (1 : Int32), m29)).bind fun (y30, m31) =>
    some (.inl (y30, y2 + (1 : Int32), m31))
noncomputable def fX8_worked (a0 : Nat) (p0 : Int32) (m : Mem) : Option (Int32 × Mem) :=
  (loopF (fX8_worked_b0 a0 p0) bigN ((0 : Int32), (0 : Int32), m)).bind fun m32 =>
  (gR m32 a0 8 26).bind fun r33 =>
  (ldI m32 r33 (0 : Int32)).bind fun x34 =>
  some (x34, m32)
set_option maxRecDepth 20000 in
theorem tX8_worked {D : Dat} {a0 : Nat} {p0 : Int32} {m : Mem} {rR : Int32} {mR : Mem} (h : fX8_worked a0 p0 m = some (rR, mR)) : T D 1 IX8_worked [.ref a0, .int p0] m 0 0 (Qi rR mR) := by
  refine T_of_V (by decide) (Nat.le_of_ble_eq_true rfl) ?_
  show V D 1 IX8_worked 0 [(0, .ref a0), (1, .int p0)] [] m 0 0 (Qi rR mR)
  unfold fX8_worked at h
  refine V_iconst (v := 0) (pc2 := 1) dX8_worked_0 (by decide) ?_
  refine V_istore_n (pc2 := 2) (L2 := [(2, .int (0 : Int32)), (0, .ref a0), (1, .int p0)]) dX8_worked_1 ?_ rfl rfl rfl
  refine V_iconst (v := 0) (pc2 := 3) dX8_worked_2 (by decide) ?_
  refine V_istore_n (pc2 := 4) (L2 := [(3, .int (0 : Int32)), (2, .int (0 : Int32)), (0, .ref a0), (1, .int p0)]) dX8_worked_3 ?_ rfl rfl rfl
  obtain ⟨m32, hl, h⟩ := bS h
  have hJ163 : V D 1 IX8_worked 163 [(0, .ref a0)] [] m32 0 0 (Qi rR mR) := by
    refine V_aload_n (pc2 := 164) dX8_worked_163 0 rfl rfl ?_
    obtain ⟨r33, e_r33, h⟩ := bS h
    refine V_gR (pc2 := 167) e_r33 dX8_worked_164 wF_8_52 ?_
    refine V_iconst (v := 0) (pc2 := 168) dX8_worked_167 (by decide) ?_
    obtain ⟨x34, e_x34, h⟩ := bS h
    refine V_ldI (pc2 := 169) e_x34 dX8_worked_168 ?_
    obtain ⟨e1, e2⟩ := inj2 h
    subst e1
    subst e2
    exact V_iret dX8_worked_169 rfl ⟨rfl, rfl⟩
  clear h
  have key4 : ∀ (n : Nat) (y1 : Int32) (y2 : Int32) (m3 : Mem), loopF (fX8_worked_b0 a0 p0) n (y1, y2, m3) = some m32 → V D 1 IX8_worked 4 [(0, .ref a0), (1, .int p0), (2, .int y1), (3, .int y2)] [] m3 0 0 (Qi rR mR) := by
    intro n
    induction n with
    | zero => intro y1 y2 m3 h; cases h
    | succ n ih =>
      intro y1 y2 m3 h
      obtain ⟨o, h, ho⟩ := loopF_inv h
      dsimp only [fX8_worked_b0] at h
      refine V_iload_n (pc2 := 5) dX8_worked_4 3 rfl rfl ?_
      refine V_aload_n (pc2 := 6) dX8_worked_5 0 rfl rfl ?_
      obtain ⟨r4, e_r4, h⟩ := bS h
      refine V_gR (pc2 := 9) e_r4 dX8_worked_6 wF_8_7 ?_
      refine V_aload_n (pc2 := 10) dX8_worked_9 0 rfl rfl ?_
      refine V_iload_n (pc2 := 11) dX8_worked_10 1 rfl rfl ?_
      obtain ⟨x5, e_x5, h⟩ := bS h
      obtain ⟨⟨fs_x5, o_x5⟩, e_x5⟩ := cV_of e_x5
      refine V_cVi (pc2 := 14) [.int p0] (st := [.ref r4, .int y2]) o_x5 (tX8_textAt e_x5) dX8_worked_11 wV_8_278 (by decide) rfl (Nat.le_of_ble_eq_true rfl) ?_
      refine V_iconst (v := 2) (pc2 := 15) dX8_worked_14 (by decide) ?_
      refine V_iadd (pc2 := 16) dX8_worked_15 ?_
      obtain ⟨x6, e_x6, h⟩ := bS h
      refine V_ldI (pc2 := 17) e_x6 dX8_worked_16 ?_
      refine V_icmp_ge (pc2 := 20) (tgt := 163) dX8_worked_17 (fun c17 => ?_) (fun c17 => ?_)
      · replace h := iT c17 h
        have ee := inj1 h
        subst ee
        have e1 := pinj1 (loopF_e ho)
        subst e1
        exact V_lv hJ163 [0] rfl
      · replace h := iF c17 h
        refine V_aload_n (pc2 := 21) dX8_worked_20 0 rfl rfl ?_
        obtain ⟨r7, e_r7, h⟩ := bS h
        refine V_gR (pc2 := 24) e_r7 dX8_worked_21 wF_8_7 ?_
        refine V_aload_n (pc2 := 25) dX8_worked_24 0 rfl rfl ?_
        refine V_iload_n (pc2 := 26) dX8_worked_25 1 rfl rfl ?_
        obtain ⟨x8, e_x8, h⟩ := bS h
        obtain ⟨⟨fs_x8, o_x8⟩, e_x8⟩ := cV_of e_x8
        refine V_cVi (pc2 := 29) [.int p0] (st := [.ref r7]) o_x8 (tX8_textAt e_x8) dX8_worked_26 wV_8_278 (by decide) rfl (Nat.le_of_ble_eq_true rfl) ?_
        refine V_iconst (v := 4) (pc2 := 30) dX8_worked_29 (by decide) ?_
        refine V_iadd (pc2 := 31) dX8_worked_30 ?_
        refine V_iconst (v := 2) (pc2 := 32) dX8_worked_31 (by decide) ?_
        refine V_iload_n (pc2 := 33) dX8_worked_32 3 rfl rfl ?_
        refine V_imul (pc2 := 34) dX8_worked_33 ?_
        refine V_iadd (pc2 := 35) dX8_worked_34 ?_
        obtain ⟨x9, e_x9, h⟩ := bS h
        refine V_ldI (pc2 := 36) e_x9 dX8_worked_35 ?_
        refine V_istore (pc2 := 38) (L2 := [(4, .int x9), (0, .ref a0), (1, .int p0), (2, .int y1), (3, .int y2)]) dX8_worked_36 ?_ rfl rfl
        refine V_aload_n (pc2 := 39) dX8_worked_38 1 rfl rfl ?_
        obtain ⟨r10, e_r10, h⟩ := bS h
        refine V_gR (pc2 := 42) e_r10 dX8_worked_39 wF_8_7 ?_
        refine V_aload_n (pc2 := 43) dX8_worked_42 1 rfl rfl ?_
        refine V_iload_n (pc2 := 44) dX8_worked_43 2 rfl rfl ?_
        obtain ⟨x11, e_x11, h⟩ := bS h
        obtain ⟨⟨fs_x11, o_x11⟩, e_x11⟩ := cV_of e_x11
        refine V_cVi (pc2 := 47) [.int p0] (st := [.ref r10]) o_x11 (tX8_textAt e_x11) dX8_worked_44 wV_8_278 (by decide) rfl (Nat.le_of_ble_eq_true rfl) ?_
        refine V_iconst (v := 4) (pc2 := 48) dX8_worked_47 (by decide) ?_
        refine V_iadd (pc2 := 49) dX8_worked_48 ?_
        refine V_iconst (v := 2) (pc2 := 50) dX8_worked_49 (by decide) ?_
        refine V_iload_n (pc2 := 51) dX8_worked_50 4 rfl rfl ?_
        refine V_imul (pc2 := 52) dX8_worked_51 ?_
        refine V_iadd (pc2 := 53) dX8_worked_52 ?_
        refine V_iconst (v := 1) (pc2 := 54) dX8_worked_53 (by decide) ?_
        refine V_iadd (pc2 := 55) dX8_worked_54 ?_
        obtain ⟨x12, e_x12, h⟩ := bS h
        refine V_ldI (pc2 := 56) e_x12 dX8_worked_55 ?_
        refine V_istore (pc2 := 58) (L2 := [(5, .int x12), (4, .int x9), (0, .ref a0), (1, .int p0), (2, .int y1), (3, .int y2)]) dX8_worked_56 ?_ rfl rfl
        refine V_iload (pc2 := 60) dX8_worked_58 1 rfl ?_
        refine V_iconst (v := 2) (pc2 := 61) dX8_worked_60 (by decide) ?_
        obtain ⟨⟨y30, m31⟩, hb, h⟩ := bS h
        try dsimp only at h
        have hJ157 : V D 1 IX8_worked 157 [(0, .ref a0), (1, .int p0), (2, .int y30), (3, .int y2)] [] m31 0 0 (Qi rR mR) := by
          refine V_iinc (pc2 := 160) (v := y2 + (1 : Int32)) (L2 := [(3, .int (y2 + (1 : Int32))), (0, .ref a0), (1, .int p0), (2, .int y30)]) dX8_worked_157 3 rfl (by rfl) ?_ rfl rfl
          refine V_goto (tgt := 4) dX8_worked_160 ?_
          have ee := inj1 h
          subst ee
          exact V_lv (ih _ _ _ (loopF_c ho)) [1, 2, 3, 0] rfl
        clear h
        have h := hb
        clear hb
        refine V_icmp_eq (pc2 := 64) (tgt := 93) dX8_worked_61 (fun c61 => ?_) (fun c61 => ?_)
        · replace h := iT c61 h
          refine V_iload (pc2 := 95) dX8_worked_93 0 rfl ?_
          refine V_bipush (v := 33) (pc2 := 97) dX8_worked_95 (by decide) ?_
          refine V_icmp_ne (pc2 := 100) (tgt := 127) dX8_worked_97 (fun c97 => ?_) (fun c97 => ?_)
          · replace h := iF c97 h
            refine V_iinc (pc2 := 130) (v := y1 + (-1 : Int32)) (L2 := [(2, .int (y1 + (-1 : Int32))), (5, .int x12), (4, .int x9), (0, .ref a0), (1, .int p0), (3, .int y2)]) dX8_worked_127 4 rfl (by rfl) ?_ rfl rfl
            refine V_aload_n (pc2 := 131) dX8_worked_130 3 rfl rfl ?_
            obtain ⟨r13, e_r13, h⟩ := bS h
            refine V_gR (pc2 := 134) e_r13 dX8_worked_131 wF_8_52 ?_
            refine V_iload_n (pc2 := 135) dX8_worked_134 0 rfl rfl ?_
            refine V_iconst (v := 1) (pc2 := 136) dX8_worked_135 (by decide) ?_
            refine V_isub (pc2 := 137) dX8_worked_136 ?_
            refine V_iload (pc2 := 139) dX8_worked_137 1 rfl ?_
            refine V_aload_n (pc2 := 140) dX8_worked_139 3 rfl rfl ?_
            obtain ⟨r14, e_r14, h⟩ := bS h
            refine V_gR (pc2 := 143) e_r14 dX8_worked_140 wF_8_52 ?_
            refine V_iload_n (pc2 := 144) dX8_worked_143 0 rfl rfl ?_
            refine V_iconst (v := 1) (pc2 := 145) dX8_worked_144 (by decide) ?_
            refine V_isub (pc2 := 146) dX8_worked_145 ?_
            obtain ⟨x15, e_x15, h⟩ := bS h
            refine V_ldI (pc2 := 147) e_x15 dX8_worked_146 ?_
            refine V_aload_n (pc2 := 148) dX8_worked_147 3 rfl rfl ?_
            obtain ⟨r16, e_r16, h⟩ := bS h
            refine V_gR (pc2 := 151) e_r16 dX8_worked_148 wF_8_52 ?_
            refine V_iload_n (pc2 := 152) dX8_worked_151 0 rfl rfl ?_
            obtain ⟨x17, e_x17, h⟩ := bS h
            refine V_ldI (pc2 := 153) e_x17 dX8_worked_152 ?_
            obtain ⟨x18, e_x18, h⟩ := bS h
            refine V_cSi (pc2 := 156) [.int x12, .int x15, .int x17] (st := [.int ((y1 + (-1 : Int32)) - (1 : Int32)), .ref r13]) (tX8_joined e_x18) dX8_worked_153 wS_8_290 (by decide) rfl (Nat.le_of_ble_eq_true rfl) ?_
            obtain ⟨m19, e_m19, h⟩ := bS h
            refine V_stI (pc2 := 157) e_m19 dX8_worked_156 ?_
            obtain ⟨e1, e2⟩ := inj2 h
            subst e1
            subst e2
            exact V_lv hJ157 [3, 4, 0, 5] rfl
          · replace h := iT c97 h
            refine V_aload_n (pc2 := 101) dX8_worked_100 2 rfl rfl ?_
            obtain ⟨r20, e_r20, h⟩ := bS h
            refine V_gR (pc2 := 104) e_r20 dX8_worked_101 wF_8_52 ?_
            refine V_iload_n (pc2 := 105) dX8_worked_104 4 rfl rfl ?_
            refine V_iconst (v := 1) (pc2 := 106) dX8_worked_105 (by decide) ?_
            refine V_isub (pc2 := 107) dX8_worked_106 ?_
            refine V_aload_n (pc2 := 108) dX8_worked_107 2 rfl rfl ?_
            obtain ⟨r21, e_r21, h⟩ := bS h
            refine V_gR (pc2 := 111) e_r21 dX8_worked_108 wF_8_52 ?_
            refine V_iload_n (pc2 := 112) dX8_worked_111 4 rfl rfl ?_
            refine V_iconst (v := 1) (pc2 := 113) dX8_worked_112 (by decide) ?_
            refine V_isub (pc2 := 114) dX8_worked_113 ?_
            obtain ⟨x22, e_x22, h⟩ := bS h
            refine V_ldI (pc2 := 115) e_x22 dX8_worked_114 ?_
            obtain ⟨y23, hb, h⟩ := bS h
            have hJ123 : V D 1 IX8_worked 123 [(0, .ref a0), (1, .int p0), (2, .int y1), (3, .int y2)] [.int y23, .int (y1 - (1 : Int32)), .ref r20] m3 0 0 (Qi rR mR) := by
              obtain ⟨m24, e_m24, h⟩ := bS h
              refine V_stI (pc2 := 124) e_m24 dX8_worked_123 ?_
              refine V_goto (tgt := 157) dX8_worked_124 ?_
              obtain ⟨e1, e2⟩ := inj2 h
              subst e1
              subst e2
              exact hJ157
            clear h
            have h := hb
            clear hb
            refine V_if_ne (pc2 := 118) (tgt := 122) dX8_worked_115 (fun c115 => ?_) (fun c115 => ?_)
            · replace h := iF c115 h
              refine V_iconst (v := 0) (pc2 := 123) dX8_worked_122 (by decide) ?_
              have e1 := inj1 h
              subst e1
              exact V_lv hJ123 [2, 3, 4, 5] rfl
            · replace h := iT c115 h
              refine V_iconst (v := 1) (pc2 := 119) dX8_worked_118 (by decide) ?_
              refine V_goto (tgt := 123) dX8_worked_119 ?_
              have e1 := inj1 h
              subst e1
              exact V_lv hJ123 [2, 3, 4, 5] rfl
        · replace h := iF c61 h
          refine V_aload_n (pc2 := 65) dX8_worked_64 2 rfl rfl ?_
          obtain ⟨r25, e_r25, h⟩ := bS h
          refine V_gR (pc2 := 68) e_r25 dX8_worked_65 wF_8_52 ?_
          refine V_iload_n (pc2 := 69) dX8_worked_68 4 rfl rfl ?_
          refine V_iload (pc2 := 71) dX8_worked_69 1 rfl ?_
          obtain ⟨y28, hb, h⟩ := bS h
          have hJ86 : V D 1 IX8_worked 86 [(0, .ref a0), (1, .int p0), (2, .int y1), (3, .int y2)] [.int y28, .int y1, .ref r25] m3 0 0 (Qi rR mR) := by
            obtain ⟨m29, e_m29, h⟩ := bS h
            refine V_stI (pc2 := 87) e_m29 dX8_worked_86 ?_
            refine V_iinc (pc2 := 90) (v := y1 + (1 : Int32)) (L2 := [(2, .int (y1 + (1 : Int32))), (0, .ref a0), (1, .int p0), (3, .int y2)]) dX8_worked_87 2 rfl (by rfl) ?_ rfl rfl
            refine V_goto (tgt := 157) dX8_worked_90 ?_
            obtain ⟨e1, e2⟩ := inj2 h
            subst e1
            subst e2
            exact V_lv hJ157 [1, 2, 0, 3] rfl
          clear h
          have h := hb
          clear hb
          refine V_if_ne (pc2 := 74) (tgt := 79) dX8_worked_71 (fun c71 => ?_) (fun c71 => ?_)
          · replace h := iF c71 h
            refine V_aload_n (pc2 := 80) dX8_worked_79 2 rfl rfl ?_
            obtain ⟨r26, e_r26, h⟩ := bS h
            refine V_gR (pc2 := 83) e_r26 dX8_worked_80 wF_8_49 ?_
            refine V_iload (pc2 := 85) dX8_worked_83 0 rfl ?_
            obtain ⟨x27, e_x27, h⟩ := bS h
            refine V_ldI (pc2 := 86) e_x27 dX8_worked_85 ?_
            have e1 := inj1 h
            subst e1
            exact V_lv hJ86 [2, 3, 4, 5] rfl
          · replace h := iT c71 h
            refine V_iload (pc2 := 76) dX8_worked_74 0 rfl ?_
            refine V_goto (tgt := 86) dX8_worked_76 ?_
            have e1 := inj1 h
            subst e1
            exact V_lv hJ86 [2, 3, 4, 5] rfl
  exact V_lv (key4 _ _ _ _ hl) [2, 3, 1, 0] rfl
noncomputable def fX8_holds (a0 : Nat) (p0 : Int32) (m : Mem) : Option (Int32 × Mem) :=
  (cV m a0 8 (fX8_counts a0 (0 : Int32) m)).bind fun x1 =>
  if 0 ≤ x1 then
    (gR m a0 8 25).bind fun r2 =>
    (cV m a0 8 (fX8_own a0 p0 (0 : Int32) m)).bind fun x3 =>
    (stI m r2 (104 : Int32) x3).bind fun m4 =>
    (gR m4 a0 8 25).bind fun r5 =>
    (cV m4 a0 8 (fX8_own a0 p0 (1 : Int32) m4)).bind fun x6 =>
    (stI m4 r5 (97 : Int32) x6).bind fun m7 =>
    (gR m7 a0 8 25).bind fun r8 =>
    (cV m7 a0 8 (fX8_sortNow a0 m7)).bind fun x9 =>
    (stI m7 r8 (102 : Int32) x9).bind fun m10 =>
    (cV m10 a0 8 (fX8_worked a0 x1 m10)).bind fun (x11, m12) =>
    (fX8_held x11 (1 : Int32) (99 : Int32) m12).bind fun x13 =>
    some (x13, m12)
  else
    (cV m a0 8 (fX8_sortNow a0 m)).bind fun x14 =>
    if x14 = (2 : Int32) then
      some ((1 : Int32), m)
    else
      (cV m a0 8 (fX8_own a0 p0 (0 : Int32) m)).bind fun x15 =>
      some (x15, m)
set_option maxRecDepth 20000 in
theorem tX8_holds {D : Dat} {a0 : Nat} {p0 : Int32} {m : Mem} {rR : Int32} {mR : Mem} (h : fX8_holds a0 p0 m = some (rR, mR)) : T D 2 IX8_holds [.ref a0, .int p0] m 0 0 (Qi rR mR) := by
  refine T_of_V (by decide) (Nat.le_of_ble_eq_true rfl) ?_
  show V D 2 IX8_holds 0 [(0, .ref a0), (1, .int p0)] [] m 0 0 (Qi rR mR)
  unfold fX8_holds at h
  refine V_aload_n (pc2 := 1) dX8_holds_0 0 rfl rfl ?_
  refine V_iconst (v := 0) (pc2 := 2) dX8_holds_1 (by decide) ?_
  obtain ⟨x1, e_x1, h⟩ := bS h
  obtain ⟨⟨fs_x1, o_x1⟩, e_x1⟩ := cV_of e_x1
  refine V_cVi (pc2 := 5) [.int (0 : Int32)] (st := []) o_x1 (tX8_counts e_x1) dX8_holds_2 wV_8_81 (by decide) rfl (Nat.le_of_ble_eq_true rfl) ?_
  refine V_istore_n (pc2 := 6) (L2 := [(2, .int x1), (0, .ref a0), (1, .int p0)]) dX8_holds_5 ?_ rfl rfl rfl
  refine V_iload_n (pc2 := 7) dX8_holds_6 0 rfl rfl ?_
  refine V_if_ge (pc2 := 10) (tgt := 29) dX8_holds_7 (fun c7 => ?_) (fun c7 => ?_)
  · replace h := iT c7 h
    refine V_aload_n (pc2 := 30) dX8_holds_29 1 rfl rfl ?_
    obtain ⟨r2, e_r2, h⟩ := bS h
    refine V_gR (pc2 := 33) e_r2 dX8_holds_30 wF_8_49 ?_
    refine V_bipush (v := 104) (pc2 := 35) dX8_holds_33 (by decide) ?_
    refine V_aload_n (pc2 := 36) dX8_holds_35 1 rfl rfl ?_
    refine V_iload_n (pc2 := 37) dX8_holds_36 2 rfl rfl ?_
    refine V_iconst (v := 0) (pc2 := 38) dX8_holds_37 (by decide) ?_
    obtain ⟨x3, e_x3, h⟩ := bS h
    obtain ⟨⟨fs_x3, o_x3⟩, e_x3⟩ := cV_of e_x3
    refine V_cVi (pc2 := 41) [.int p0, .int (0 : Int32)] (st := [.int (104 : Int32), .ref r2]) o_x3 (tX8_own e_x3) dX8_holds_38 wV_8_74 (by decide) rfl (Nat.le_of_ble_eq_true rfl) ?_
    obtain ⟨m4, e_m4, h⟩ := bS h
    refine V_stI (pc2 := 42) e_m4 dX8_holds_41 ?_
    refine V_aload_n (pc2 := 43) dX8_holds_42 1 rfl rfl ?_
    obtain ⟨r5, e_r5, h⟩ := bS h
    refine V_gR (pc2 := 46) e_r5 dX8_holds_43 wF_8_49 ?_
    refine V_bipush (v := 97) (pc2 := 48) dX8_holds_46 (by decide) ?_
    refine V_aload_n (pc2 := 49) dX8_holds_48 1 rfl rfl ?_
    refine V_iload_n (pc2 := 50) dX8_holds_49 2 rfl rfl ?_
    refine V_iconst (v := 1) (pc2 := 51) dX8_holds_50 (by decide) ?_
    obtain ⟨x6, e_x6, h⟩ := bS h
    obtain ⟨⟨fs_x6, o_x6⟩, e_x6⟩ := cV_of e_x6
    refine V_cVi (pc2 := 54) [.int p0, .int (1 : Int32)] (st := [.int (97 : Int32), .ref r5]) o_x6 (tX8_own e_x6) dX8_holds_51 wV_8_74 (by decide) rfl (Nat.le_of_ble_eq_true rfl) ?_
    obtain ⟨m7, e_m7, h⟩ := bS h
    refine V_stI (pc2 := 55) e_m7 dX8_holds_54 ?_
    refine V_aload_n (pc2 := 56) dX8_holds_55 1 rfl rfl ?_
    obtain ⟨r8, e_r8, h⟩ := bS h
    refine V_gR (pc2 := 59) e_r8 dX8_holds_56 wF_8_49 ?_
    refine V_bipush (v := 102) (pc2 := 61) dX8_holds_59 (by decide) ?_
    refine V_aload_n (pc2 := 62) dX8_holds_61 1 rfl rfl ?_
    obtain ⟨x9, e_x9, h⟩ := bS h
    obtain ⟨⟨fs_x9, o_x9⟩, e_x9⟩ := cV_of e_x9
    refine V_cVi (pc2 := 65) [] (st := [.int (102 : Int32), .ref r8]) o_x9 (tX8_sortNow e_x9) dX8_holds_62 wV_8_85 (by decide) rfl (Nat.le_of_ble_eq_true rfl) ?_
    obtain ⟨m10, e_m10, h⟩ := bS h
    refine V_stI (pc2 := 66) e_m10 dX8_holds_65 ?_
    refine V_aload_n (pc2 := 67) dX8_holds_66 1 rfl rfl ?_
    refine V_iload_n (pc2 := 68) dX8_holds_67 0 rfl rfl ?_
    obtain ⟨⟨x11, m12⟩, e_x11, h⟩ := bS h
    try dsimp only at h
    obtain ⟨⟨fs_x11, o_x11⟩, e_x11⟩ := cV_of e_x11
    refine V_cVi (pc2 := 71) [.int x1] (st := []) o_x11 (tX8_worked e_x11) dX8_holds_68 wV_8_89 (by decide) rfl (Nat.le_of_ble_eq_true rfl) ?_
    refine V_iconst (v := 1) (pc2 := 72) dX8_holds_71 (by decide) ?_
    refine V_bipush (v := 99) (pc2 := 74) dX8_holds_72 (by decide) ?_
    obtain ⟨x13, e_x13, h⟩ := bS h
    refine V_cSi (pc2 := 77) [.int x11, .int (1 : Int32), .int (99 : Int32)] (st := []) (tX8_held e_x13) dX8_holds_74 wS_8_92 (by decide) rfl (Nat.le_of_ble_eq_true rfl) ?_
    obtain ⟨e1, e2⟩ := inj2 h
    subst e1
    subst e2
    exact V_iret dX8_holds_77 rfl ⟨rfl, rfl⟩
  · replace h := iF c7 h
    refine V_aload_n (pc2 := 11) dX8_holds_10 1 rfl rfl ?_
    obtain ⟨x14, e_x14, h⟩ := bS h
    obtain ⟨⟨fs_x14, o_x14⟩, e_x14⟩ := cV_of e_x14
    refine V_cVi (pc2 := 14) [] (st := []) o_x14 (tX8_sortNow e_x14) dX8_holds_11 wV_8_85 (by decide) rfl (Nat.le_of_ble_eq_true rfl) ?_
    refine V_iconst (v := 2) (pc2 := 15) dX8_holds_14 (by decide) ?_
    refine V_icmp_ne (pc2 := 18) (tgt := 22) dX8_holds_15 (fun c15 => ?_) (fun c15 => ?_)
    · replace h := iF c15 h
      refine V_aload_n (pc2 := 23) dX8_holds_22 1 rfl rfl ?_
      refine V_iload_n (pc2 := 24) dX8_holds_23 2 rfl rfl ?_
      refine V_iconst (v := 0) (pc2 := 25) dX8_holds_24 (by decide) ?_
      obtain ⟨x15, e_x15, h⟩ := bS h
      obtain ⟨⟨fs_x15, o_x15⟩, e_x15⟩ := cV_of e_x15
      refine V_cVi (pc2 := 28) [.int p0, .int (0 : Int32)] (st := []) o_x15 (tX8_own e_x15) dX8_holds_25 wV_8_74 (by decide) rfl (Nat.le_of_ble_eq_true rfl) ?_
      obtain ⟨e1, e2⟩ := inj2 h
      subst e1
      subst e2
      exact V_iret dX8_holds_28 rfl ⟨rfl, rfl⟩
    · replace h := iT c15 h
      refine V_iconst (v := 1) (pc2 := 19) dX8_holds_18 (by decide) ?_
      refine V_goto (tgt := 28) dX8_holds_19 ?_
      obtain ⟨e1, e2⟩ := inj2 h
      subst e1
      subst e2
      exact V_iret dX8_holds_28 rfl ⟨rfl, rfl⟩
noncomputable def fX8_isChild (a0 : Nat) (p0 : Int32) (m : Mem) : Option (Bool) :=
  (gR m a0 8 0).bind fun r1 =>
  (ldI m r1 (0 : Int32)).bind fun x2 =>
  (fX8_isIn p0.toInt64 (0 : Int64) ((x2 - (1 : Int32)).toInt64) m).bind fun b3 =>
  some b3
set_option maxRecDepth 20000 in
theorem tX8_isChild {D : Dat} {a0 : Nat} {p0 : Int32} {m : Mem} {rR : Bool} (h : fX8_isChild a0 p0 m = some rR) : T D 1 IX8_isChild [.ref a0, .int p0] m 0 0 (Qi (zb rR) m) := by
  refine T_of_V (by decide) (Nat.le_of_ble_eq_true rfl) ?_
  show V D 1 IX8_isChild 0 [(0, .ref a0), (1, .int p0)] [] m 0 0 (Qi (zb rR) m)
  unfold fX8_isChild at h
  refine V_iload_n (pc2 := 1) dX8_isChild_0 1 rfl rfl ?_
  refine V_i2l (pc2 := 2) dX8_isChild_1 rfl ?_
  refine V_lconst (v := 0) (pc2 := 3) dX8_isChild_2 (by decide) ?_
  refine V_aload_n (pc2 := 4) dX8_isChild_3 0 rfl rfl ?_
  obtain ⟨r1, e_r1, h⟩ := bS h
  refine V_gR (pc2 := 7) e_r1 dX8_isChild_4 wF_8_7 ?_
  refine V_iconst (v := 0) (pc2 := 8) dX8_isChild_7 (by decide) ?_
  obtain ⟨x2, e_x2, h⟩ := bS h
  refine V_ldI (pc2 := 9) e_x2 dX8_isChild_8 ?_
  refine V_iconst (v := 1) (pc2 := 10) dX8_isChild_9 (by decide) ?_
  refine V_isub (pc2 := 11) dX8_isChild_10 ?_
  refine V_i2l (pc2 := 12) dX8_isChild_11 rfl ?_
  obtain ⟨b3, e_b3, h⟩ := bS h
  refine V_cSi (pc2 := 15) [.long p0.toInt64, .long (0 : Int64), .long ((x2 - (1 : Int32)).toInt64)] (st := []) (tX8_isIn e_b3) dX8_isChild_12 wS_8_65 (by decide) rfl (Nat.le_of_ble_eq_true rfl) ?_
  have e1 := inj1 h
  subst e1
  exact V_bret (b := b3) dX8_isChild_15 rfl ⟨rfl, rfl⟩
noncomputable def fX8_on (a0 : Nat) (p0 : Int32) (p1 : Int32) (m : Mem) : Option (Int32) :=
  (gR m a0 8 0).bind fun r1 =>
  (ldI m r1 (0 : Int32)).bind fun x2 =>
  (gR m a0 8 0).bind fun r3 =>
  (ldI m r3 (5 : Int32)).bind fun x4 =>
  if x4 = (1 : Int32) then
    (rmI (p0 + p1) x2).bind fun x7 =>
    some x7
  else
    (rmI p1 x2).bind fun x5 =>
    (rmI ((p0 + x2) - x5) x2).bind fun x6 =>
    some x6
set_option maxRecDepth 20000 in
theorem tX8_on {D : Dat} {a0 : Nat} {p0 : Int32} {p1 : Int32} {m : Mem} {rR : Int32} (h : fX8_on a0 p0 p1 m = some rR) : T D 0 IX8_on [.ref a0, .int p0, .int p1] m 0 0 (Qi rR m) := by
  refine T_of_V (by decide) (Nat.le_of_ble_eq_true rfl) ?_
  show V D 0 IX8_on 0 [(0, .ref a0), (1, .int p0), (2, .int p1)] [] m 0 0 (Qi rR m)
  unfold fX8_on at h
  refine V_aload_n (pc2 := 1) dX8_on_0 0 rfl rfl ?_
  obtain ⟨r1, e_r1, h⟩ := bS h
  refine V_gR (pc2 := 4) e_r1 dX8_on_1 wF_8_7 ?_
  refine V_iconst (v := 0) (pc2 := 5) dX8_on_4 (by decide) ?_
  obtain ⟨x2, e_x2, h⟩ := bS h
  refine V_ldI (pc2 := 6) e_x2 dX8_on_5 ?_
  refine V_istore_n (pc2 := 7) (L2 := [(3, .int x2), (0, .ref a0), (1, .int p0), (2, .int p1)]) dX8_on_6 ?_ rfl rfl rfl
  refine V_aload_n (pc2 := 8) dX8_on_7 1 rfl rfl ?_
  obtain ⟨r3, e_r3, h⟩ := bS h
  refine V_gR (pc2 := 11) e_r3 dX8_on_8 wF_8_7 ?_
  refine V_iconst (v := 5) (pc2 := 12) dX8_on_11 (by decide) ?_
  obtain ⟨x4, e_x4, h⟩ := bS h
  refine V_ldI (pc2 := 13) e_x4 dX8_on_12 ?_
  refine V_iconst (v := 1) (pc2 := 14) dX8_on_13 (by decide) ?_
  refine V_icmp_ne (pc2 := 17) (tgt := 25) dX8_on_14 (fun c14 => ?_) (fun c14 => ?_)
  · replace h := iF c14 h
    refine V_iload_n (pc2 := 26) dX8_on_25 2 rfl rfl ?_
    refine V_iload_n (pc2 := 27) dX8_on_26 0 rfl rfl ?_
    refine V_iadd (pc2 := 28) dX8_on_27 ?_
    refine V_iload_n (pc2 := 29) dX8_on_28 3 rfl rfl ?_
    refine V_iload_n (pc2 := 30) dX8_on_29 0 rfl rfl ?_
    obtain ⟨x5, e_x5, h⟩ := bS h
    refine V_rmI (pc2 := 31) e_x5 dX8_on_30 ?_
    refine V_isub (pc2 := 32) dX8_on_31 ?_
    refine V_iload_n (pc2 := 33) dX8_on_32 0 rfl rfl ?_
    obtain ⟨x6, e_x6, h⟩ := bS h
    refine V_rmI (pc2 := 34) e_x6 dX8_on_33 ?_
    have e1 := inj1 h
    subst e1
    exact V_iret dX8_on_34 rfl ⟨rfl, rfl⟩
  · replace h := iT c14 h
    refine V_iload_n (pc2 := 18) dX8_on_17 2 rfl rfl ?_
    refine V_iload_n (pc2 := 19) dX8_on_18 3 rfl rfl ?_
    refine V_iadd (pc2 := 20) dX8_on_19 ?_
    refine V_iload_n (pc2 := 21) dX8_on_20 0 rfl rfl ?_
    obtain ⟨x7, e_x7, h⟩ := bS h
    refine V_rmI (pc2 := 22) e_x7 dX8_on_21 ?_
    refine V_goto (tgt := 34) dX8_on_22 ?_
    have e1 := inj1 h
    subst e1
    exact V_iret dX8_on_34 rfl ⟨rfl, rfl⟩
noncomputable def fX8_nextOf_b0 (a0 : Nat) (p0 : Int32) (m : Mem) : Int32 → Option (Int32 ⊕ Int32) := fun y1 =>
  (gR m a0 8 0).bind fun r2 =>
  (ldI m r2 (0 : Int32)).bind fun x3 =>
  if x3 < y1 then
    some (.inr (-1 : Int32))
  else
    (cV m a0 8 (fX8_on a0 p0 y1 m)).bind fun x4 =>
    (cV m a0 8 (fX8_own a0 x4 (2 : Int32) m)).bind fun x5 =>
    if x5 = 0 then
      (cV m a0 8 (fX8_on a0 p0 y1 m)).bind fun x6 =>
      some (.inr x6)
    else
      some (.inl (y1 + (1 : Int32)))
noncomputable def fX8_nextOf (a0 : Nat) (p0 : Int32) (m : Mem) : Option (Int32) :=
  loopF (fX8_nextOf_b0 a0 p0 m) bigN (1 : Int32)
set_option maxRecDepth 20000 in
theorem tX8_nextOf {D : Dat} {a0 : Nat} {p0 : Int32} {m : Mem} {rR : Int32} (h : fX8_nextOf a0 p0 m = some rR) : T D 1 IX8_nextOf [.ref a0, .int p0] m 0 0 (Qi rR m) := by
  refine T_of_V (by decide) (Nat.le_of_ble_eq_true rfl) ?_
  show V D 1 IX8_nextOf 0 [(0, .ref a0), (1, .int p0)] [] m 0 0 (Qi rR m)
  unfold fX8_nextOf at h
  refine V_iconst (v := 1) (pc2 := 1) dX8_nextOf_0 (by decide) ?_
  refine V_istore_n (pc2 := 2) (L2 := [(2, .int (1 : Int32)), (0, .ref a0), (1, .int p0)]) dX8_nextOf_1 ?_ rfl rfl rfl
  have hl := h
  clear h
  have key2 : ∀ (n : Nat) (y1 : Int32), loopF (fX8_nextOf_b0 a0 p0 m) n y1 = some rR → V D 1 IX8_nextOf 2 [(0, .ref a0), (1, .int p0), (2, .int y1)] [] m 0 0 (Qi rR m) := by
    intro n
    induction n with
    | zero => intro y1 h; cases h
    | succ n ih =>
      intro y1 h
      obtain ⟨o, h, ho⟩ := loopF_inv h
      dsimp only [fX8_nextOf_b0] at h
      refine V_iload_n (pc2 := 3) dX8_nextOf_2 2 rfl rfl ?_
      refine V_aload_n (pc2 := 4) dX8_nextOf_3 0 rfl rfl ?_
      obtain ⟨r2, e_r2, h⟩ := bS h
      refine V_gR (pc2 := 7) e_r2 dX8_nextOf_4 wF_8_7 ?_
      refine V_iconst (v := 0) (pc2 := 8) dX8_nextOf_7 (by decide) ?_
      obtain ⟨x3, e_x3, h⟩ := bS h
      refine V_ldI (pc2 := 9) e_x3 dX8_nextOf_8 ?_
      refine V_icmp_gt (pc2 := 12) (tgt := 39) dX8_nextOf_9 (fun c9 => ?_) (fun c9 => ?_)
      · replace h := iT c9 h
        refine V_iconst (v := -1) (pc2 := 40) dX8_nextOf_39 (by decide) ?_
        have ee := inj1 h
        subst ee
        have e1 := pinj1 (loopF_e ho)
        subst e1
        exact V_iret dX8_nextOf_40 rfl ⟨rfl, rfl⟩
      · replace h := iF c9 h
        refine V_aload_n (pc2 := 13) dX8_nextOf_12 0 rfl rfl ?_
        refine V_aload_n (pc2 := 14) dX8_nextOf_13 0 rfl rfl ?_
        refine V_iload_n (pc2 := 15) dX8_nextOf_14 1 rfl rfl ?_
        refine V_iload_n (pc2 := 16) dX8_nextOf_15 2 rfl rfl ?_
        obtain ⟨x4, e_x4, h⟩ := bS h
        obtain ⟨⟨fs_x4, o_x4⟩, e_x4⟩ := cV_of e_x4
        refine V_cVi (pc2 := 19) [.int p0, .int y1] (st := [.ref a0]) o_x4 (tX8_on e_x4) dX8_nextOf_16 wV_8_78 (by decide) rfl (Nat.le_of_ble_eq_true rfl) ?_
        refine V_iconst (v := 2) (pc2 := 20) dX8_nextOf_19 (by decide) ?_
        obtain ⟨x5, e_x5, h⟩ := bS h
        obtain ⟨⟨fs_x5, o_x5⟩, e_x5⟩ := cV_of e_x5
        refine V_cVi (pc2 := 23) [.int x4, .int (2 : Int32)] (st := []) o_x5 (tX8_own e_x5) dX8_nextOf_20 wV_8_74 (by decide) rfl (Nat.le_of_ble_eq_true rfl) ?_
        refine V_if_ne (pc2 := 26) (tgt := 33) dX8_nextOf_23 (fun c23 => ?_) (fun c23 => ?_)
        · replace h := iF c23 h
          refine V_iinc (pc2 := 36) (v := y1 + (1 : Int32)) (L2 := [(2, .int (y1 + (1 : Int32))), (0, .ref a0), (1, .int p0)]) dX8_nextOf_33 2 rfl (by rfl) ?_ rfl rfl
          refine V_goto (tgt := 2) dX8_nextOf_36 ?_
          have ee := inj1 h
          subst ee
          exact V_lv (ih _ (loopF_c ho)) [1, 2, 0] rfl
        · replace h := iT c23 h
          refine V_aload_n (pc2 := 27) dX8_nextOf_26 0 rfl rfl ?_
          refine V_iload_n (pc2 := 28) dX8_nextOf_27 1 rfl rfl ?_
          refine V_iload_n (pc2 := 29) dX8_nextOf_28 2 rfl rfl ?_
          obtain ⟨x6, e_x6, h⟩ := bS h
          obtain ⟨⟨fs_x6, o_x6⟩, e_x6⟩ := cV_of e_x6
          refine V_cVi (pc2 := 32) [.int p0, .int y1] (st := []) o_x6 (tX8_on e_x6) dX8_nextOf_29 wV_8_78 (by decide) rfl (Nat.le_of_ble_eq_true rfl) ?_
          have ee := inj1 h
          subst ee
          have e1 := pinj1 (loopF_e ho)
          subst e1
          exact V_iret dX8_nextOf_32 rfl ⟨rfl, rfl⟩
  exact V_lv (key2 _ _ hl) [1, 2, 0] rfl
noncomputable def fX8_orNone (p0 : Int32) (m : Mem) : Option (Int32) :=
  if 0 ≤ p0 then
    some p0
  else
    some (-1000000005 : Int32)
set_option maxRecDepth 20000 in
theorem tX8_orNone {D : Dat} {p0 : Int32} {m : Mem} {rR : Int32} (h : fX8_orNone p0 m = some rR) : T D 0 IX8_orNone [.int p0] m 0 0 (Qi rR m) := by
  refine T_of_V (by decide) (Nat.le_of_ble_eq_true rfl) ?_
  show V D 0 IX8_orNone 0 [(0, .int p0)] [] m 0 0 (Qi rR m)
  unfold fX8_orNone at h
  refine V_iload_n (pc2 := 1) dX8_orNone_0 0 rfl rfl ?_
  refine V_if_ge (pc2 := 4) (tgt := 9) dX8_orNone_1 (fun c1 => ?_) (fun c1 => ?_)
  · replace h := iT c1 h
    refine V_iload_n (pc2 := 10) dX8_orNone_9 0 rfl rfl ?_
    have e1 := inj1 h
    subst e1
    exact V_iret dX8_orNone_10 rfl ⟨rfl, rfl⟩
  · replace h := iF c1 h
    refine V_ldc (v := -1000000005) (pc2 := 6) dX8_orNone_4 wconstant_8_64 ?_
    refine V_goto (tgt := 10) dX8_orNone_6 ?_
    have e1 := inj1 h
    subst e1
    exact V_iret dX8_orNone_10 rfl ⟨rfl, rfl⟩
noncomputable def fX8_childTold (a0 : Nat) (p0 : Int32) (p1 : Int32) (m : Mem) : Option (Int32 × Mem) :=
  (cV m a0 8 (fX8_isChild a0 p0 m)).bind fun b1 =>
  if b1 = true then
    if p1 = (0 : Int32) then
      (cV m a0 8 (fX8_own a0 p0 p1 m)).bind fun x2 =>
      some (x2, m)
    else if p1 = (1 : Int32) then
      (cV m a0 8 (fX8_own a0 p0 p1 m)).bind fun x3 =>
      some (x3, m)
    else if p1 = (2 : Int32) then
      (cV m a0 8 (fX8_own a0 p0 p1 m)).bind fun x4 =>
      some (x4, m)
    else if p1 = (3 : Int32) then
      (cV m a0 8 (fX8_holds a0 p0 m)).bind fun (x5, m6) =>
      some (x5, m6)
    else if p1 = (4 : Int32) then
      (cV m a0 8 (fX8_nextOf a0 p0 m)).bind fun x7 =>
      (fX8_orNone x7 m).bind fun x8 =>
      some (x8, m)
    else 
      some ((-1000000001 : Int32), m)
  else
    some ((-1000000001 : Int32), m)
set_option maxRecDepth 20000 in
theorem tX8_childTold {D : Dat} {a0 : Nat} {p0 : Int32} {p1 : Int32} {m : Mem} {rR : Int32} {mR : Mem} (h : fX8_childTold a0 p0 p1 m = some (rR, mR)) : T D 3 IX8_childTold [.ref a0, .int p0, .int p1] m 0 0 (Qi rR mR) := by
  refine T_of_V (by decide) (Nat.le_of_ble_eq_true rfl) ?_
  show V D 3 IX8_childTold 0 [(0, .ref a0), (1, .int p0), (2, .int p1)] [] m 0 0 (Qi rR mR)
  unfold fX8_childTold at h
  refine V_aload_n (pc2 := 1) dX8_childTold_0 0 rfl rfl ?_
  refine V_iload_n (pc2 := 2) dX8_childTold_1 1 rfl rfl ?_
  obtain ⟨b1, e_b1, h⟩ := bS h
  obtain ⟨⟨fs_b1, o_b1⟩, e_b1⟩ := cV_of e_b1
  refine V_cVi (pc2 := 5) [.int p0] (st := []) o_b1 (tX8_isChild e_b1) dX8_childTold_2 wV_8_95 (by decide) rfl (Nat.le_of_ble_eq_true rfl) ?_
  refine V_ifb_ne (pc2 := 8) (tgt := 11) dX8_childTold_5 (fun c5 => ?_) (fun c5 => ?_)
  · replace h := iT c5 h
    refine V_iload_n (pc2 := 12) dX8_childTold_11 2 rfl rfl ?_
    by_cases c12_0 : p1 = (0 : Int32)
    · replace h := iT c12_0 h
      refine V_table (off := 36) (tgt := 48) dX8_childTold_12 (by rw [c12_0]; decide) ?_
      refine V_aload_n (pc2 := 49) dX8_childTold_48 0 rfl rfl ?_
      refine V_iload_n (pc2 := 50) dX8_childTold_49 1 rfl rfl ?_
      refine V_iload_n (pc2 := 51) dX8_childTold_50 2 rfl rfl ?_
      obtain ⟨x2, e_x2, h⟩ := bS h
      obtain ⟨⟨fs_x2, o_x2⟩, e_x2⟩ := cV_of e_x2
      refine V_cVi (pc2 := 54) [.int p0, .int p1] (st := []) o_x2 (tX8_own e_x2) dX8_childTold_51 wV_8_74 (by decide) rfl (Nat.le_of_ble_eq_true rfl) ?_
      obtain ⟨e1, e2⟩ := inj2 h
      subst e1
      subst e2
      exact V_iret dX8_childTold_54 rfl ⟨rfl, rfl⟩
    replace h := iF c12_0 h
    by_cases c12_1 : p1 = (1 : Int32)
    · replace h := iT c12_1 h
      refine V_table (off := 36) (tgt := 48) dX8_childTold_12 (by rw [c12_1]; decide) ?_
      refine V_aload_n (pc2 := 49) dX8_childTold_48 0 rfl rfl ?_
      refine V_iload_n (pc2 := 50) dX8_childTold_49 1 rfl rfl ?_
      refine V_iload_n (pc2 := 51) dX8_childTold_50 2 rfl rfl ?_
      obtain ⟨x3, e_x3, h⟩ := bS h
      obtain ⟨⟨fs_x3, o_x3⟩, e_x3⟩ := cV_of e_x3
      refine V_cVi (pc2 := 54) [.int p0, .int p1] (st := []) o_x3 (tX8_own e_x3) dX8_childTold_51 wV_8_74 (by decide) rfl (Nat.le_of_ble_eq_true rfl) ?_
      obtain ⟨e1, e2⟩ := inj2 h
      subst e1
      subst e2
      exact V_iret dX8_childTold_54 rfl ⟨rfl, rfl⟩
    replace h := iF c12_1 h
    by_cases c12_2 : p1 = (2 : Int32)
    · replace h := iT c12_2 h
      refine V_table (off := 36) (tgt := 48) dX8_childTold_12 (by rw [c12_2]; decide) ?_
      refine V_aload_n (pc2 := 49) dX8_childTold_48 0 rfl rfl ?_
      refine V_iload_n (pc2 := 50) dX8_childTold_49 1 rfl rfl ?_
      refine V_iload_n (pc2 := 51) dX8_childTold_50 2 rfl rfl ?_
      obtain ⟨x4, e_x4, h⟩ := bS h
      obtain ⟨⟨fs_x4, o_x4⟩, e_x4⟩ := cV_of e_x4
      refine V_cVi (pc2 := 54) [.int p0, .int p1] (st := []) o_x4 (tX8_own e_x4) dX8_childTold_51 wV_8_74 (by decide) rfl (Nat.le_of_ble_eq_true rfl) ?_
      obtain ⟨e1, e2⟩ := inj2 h
      subst e1
      subst e2
      exact V_iret dX8_childTold_54 rfl ⟨rfl, rfl⟩
    replace h := iF c12_2 h
    by_cases c12_3 : p1 = (3 : Int32)
    · replace h := iT c12_3 h
      refine V_table (off := 43) (tgt := 55) dX8_childTold_12 (by rw [c12_3]; decide) ?_
      refine V_aload_n (pc2 := 56) dX8_childTold_55 0 rfl rfl ?_
      refine V_iload_n (pc2 := 57) dX8_childTold_56 1 rfl rfl ?_
      obtain ⟨⟨x5, m6⟩, e_x5, h⟩ := bS h
      try dsimp only at h
      obtain ⟨⟨fs_x5, o_x5⟩, e_x5⟩ := cV_of e_x5
      refine V_cVi (pc2 := 60) [.int p0] (st := []) o_x5 (tX8_holds e_x5) dX8_childTold_57 wV_8_99 (by decide) rfl (Nat.le_of_ble_eq_true rfl) ?_
      obtain ⟨e1, e2⟩ := inj2 h
      subst e1
      subst e2
      exact V_iret dX8_childTold_60 rfl ⟨rfl, rfl⟩
    replace h := iF c12_3 h
    by_cases c12_4 : p1 = (4 : Int32)
    · replace h := iT c12_4 h
      refine V_table (off := 49) (tgt := 61) dX8_childTold_12 (by rw [c12_4]; decide) ?_
      refine V_aload_n (pc2 := 62) dX8_childTold_61 0 rfl rfl ?_
      refine V_iload_n (pc2 := 63) dX8_childTold_62 1 rfl rfl ?_
      obtain ⟨x7, e_x7, h⟩ := bS h
      obtain ⟨⟨fs_x7, o_x7⟩, e_x7⟩ := cV_of e_x7
      refine V_cVi (pc2 := 66) [.int p0] (st := []) o_x7 (tX8_nextOf e_x7) dX8_childTold_63 wV_8_102 (by decide) rfl (Nat.le_of_ble_eq_true rfl) ?_
      obtain ⟨x8, e_x8, h⟩ := bS h
      refine V_cSi (pc2 := 69) [.int x7] (st := []) (tX8_orNone e_x8) dX8_childTold_66 wS_8_105 (by decide) rfl (Nat.le_of_ble_eq_true rfl) ?_
      obtain ⟨e1, e2⟩ := inj2 h
      subst e1
      subst e2
      exact V_iret dX8_childTold_69 rfl ⟨rfl, rfl⟩
    replace h := iF c12_4 h
    refine V_tableD (tgt := 70) dX8_childTold_12 (by have g0 := lv_neT c12_0 (show (0 : Int32).toInt = 0 by decide); have g1 := lv_neT c12_1 (show (1 : Int32).toInt = 1 by decide); have g2 := lv_neT c12_2 (show (2 : Int32).toInt = 2 by decide); have g3 := lv_neT c12_3 (show (3 : Int32).toInt = 3 by decide); have g4 := lv_neT c12_4 (show (4 : Int32).toInt = 4 by decide); omega) ?_
    refine V_ldc (v := -1000000001) (pc2 := 72) dX8_childTold_70 wconstant_8_72 ?_
    obtain ⟨e1, e2⟩ := inj2 h
    subst e1
    subst e2
    exact V_iret dX8_childTold_72 rfl ⟨rfl, rfl⟩
  · replace h := iF c5 h
    refine V_ldc (v := -1000000001) (pc2 := 10) dX8_childTold_8 wconstant_8_72 ?_
    obtain ⟨e1, e2⟩ := inj2 h
    subst e1
    subst e2
    exact V_iret dX8_childTold_10 rfl ⟨rfl, rfl⟩
noncomputable def fX8_becomes (a0 : Nat) (p0 : Int32) (p1 : Int32) (m : Mem) : Option (Int32 × Mem) :=
  (gR m a0 8 0).bind fun r1 =>
  (ldI m r1 p0).bind fun x2 =>
  (gR m a0 8 0).bind fun r3 =>
  (stI m r3 p0 p1).bind fun m4 =>
  some (x2, m4)
set_option maxRecDepth 20000 in
theorem tX8_becomes {D : Dat} {a0 : Nat} {p0 : Int32} {p1 : Int32} {m : Mem} {rR : Int32} {mR : Mem} (h : fX8_becomes a0 p0 p1 m = some (rR, mR)) : T D 0 IX8_becomes [.ref a0, .int p0, .int p1] m 0 0 (Qi rR mR) := by
  refine T_of_V (by decide) (Nat.le_of_ble_eq_true rfl) ?_
  show V D 0 IX8_becomes 0 [(0, .ref a0), (1, .int p0), (2, .int p1)] [] m 0 0 (Qi rR mR)
  unfold fX8_becomes at h
  refine V_aload_n (pc2 := 1) dX8_becomes_0 0 rfl rfl ?_
  obtain ⟨r1, e_r1, h⟩ := bS h
  refine V_gR (pc2 := 4) e_r1 dX8_becomes_1 wF_8_7 ?_
  refine V_iload_n (pc2 := 5) dX8_becomes_4 1 rfl rfl ?_
  obtain ⟨x2, e_x2, h⟩ := bS h
  refine V_ldI (pc2 := 6) e_x2 dX8_becomes_5 ?_
  refine V_istore_n (pc2 := 7) (L2 := [(3, .int x2), (0, .ref a0), (1, .int p0), (2, .int p1)]) dX8_becomes_6 ?_ rfl rfl rfl
  refine V_aload_n (pc2 := 8) dX8_becomes_7 1 rfl rfl ?_
  obtain ⟨r3, e_r3, h⟩ := bS h
  refine V_gR (pc2 := 11) e_r3 dX8_becomes_8 wF_8_7 ?_
  refine V_iload_n (pc2 := 12) dX8_becomes_11 2 rfl rfl ?_
  refine V_iload_n (pc2 := 13) dX8_becomes_12 3 rfl rfl ?_
  obtain ⟨m4, e_m4, h⟩ := bS h
  refine V_stI (pc2 := 14) e_m4 dX8_becomes_13 ?_
  refine V_iload_n (pc2 := 15) dX8_becomes_14 0 rfl rfl ?_
  obtain ⟨e1, e2⟩ := inj2 h
  subst e1
  subst e2
  exact V_iret dX8_becomes_15 rfl ⟨rfl, rfl⟩
noncomputable def fX8_lays (a0 : Nat) (p0 : Int32) (p1 : Int32) (p2 : Int32) (m : Mem) : Option (Int32 × Mem) :=
  (cV m a0 8 (fX8_isChild a0 p0 m)).bind fun b1 =>
  if b1 = true then
    (fX8_isIn p1.toInt64 (0 : Int64) (2 : Int64) m).bind fun b2 =>
    if b2 = true then
      (
        if p1 = 0 then
          some (1 : Int64)
        else
          some (0 : Int64)).bind fun l3 =>
      (
        if p1 = 0 then
          some (9 : Int64)
        else
          if p1 = (1 : Int32) then
            some (99 : Int64)
          else
            some (1 : Int64)).bind fun l4 =>
      (fX8_isIn p2.toInt64 l3 l4 m).bind fun b5 =>
      if b5 = true then
        (cV m a0 8 (fX8_becomes a0 (((12 : Int32) + ((3 : Int32) * p0)) + p1) p2 m)).bind fun (x6, m7) =>
        some (x6, m7)
      else
        some ((-1000000001 : Int32), m)
    else
      some ((-1000000001 : Int32), m)
  else
    some ((-1000000001 : Int32), m)
set_option maxRecDepth 20000 in
theorem tX8_lays {D : Dat} {a0 : Nat} {p0 : Int32} {p1 : Int32} {p2 : Int32} {m : Mem} {rR : Int32} {mR : Mem} (h : fX8_lays a0 p0 p1 p2 m = some (rR, mR)) : T D 2 IX8_lays [.ref a0, .int p0, .int p1, .int p2] m 0 0 (Qi rR mR) := by
  refine T_of_V (by decide) (Nat.le_of_ble_eq_true rfl) ?_
  show V D 2 IX8_lays 0 [(0, .ref a0), (1, .int p0), (2, .int p1), (3, .int p2)] [] m 0 0 (Qi rR mR)
  unfold fX8_lays at h
  refine V_aload_n (pc2 := 1) dX8_lays_0 0 rfl rfl ?_
  refine V_iload_n (pc2 := 2) dX8_lays_1 1 rfl rfl ?_
  obtain ⟨b1, e_b1, h⟩ := bS h
  obtain ⟨⟨fs_b1, o_b1⟩, e_b1⟩ := cV_of e_b1
  refine V_cVi (pc2 := 5) [.int p0] (st := []) o_b1 (tX8_isChild e_b1) dX8_lays_2 wV_8_95 (by decide) rfl (Nat.le_of_ble_eq_true rfl) ?_
  refine V_ifb_eq (pc2 := 8) (tgt := 59) dX8_lays_5 (fun c5 => ?_) (fun c5 => ?_)
  · replace h := iF c5 h
    refine V_ldc (v := -1000000001) (pc2 := 61) dX8_lays_59 wconstant_8_72 ?_
    obtain ⟨e1, e2⟩ := inj2 h
    subst e1
    subst e2
    exact V_iret dX8_lays_61 rfl ⟨rfl, rfl⟩
  · replace h := iT c5 h
    refine V_iload_n (pc2 := 9) dX8_lays_8 2 rfl rfl ?_
    refine V_i2l (pc2 := 10) dX8_lays_9 rfl ?_
    refine V_lconst (v := 0) (pc2 := 11) dX8_lays_10 (by decide) ?_
    refine V_ldc2 (v := 2) (pc2 := 14) dX8_lays_11 wconstantLong_8_108 ?_
    obtain ⟨b2, e_b2, h⟩ := bS h
    refine V_cSi (pc2 := 17) [.long p1.toInt64, .long (0 : Int64), .long (2 : Int64)] (st := []) (tX8_isIn e_b2) dX8_lays_14 wS_8_65 (by decide) rfl (Nat.le_of_ble_eq_true rfl) ?_
    refine V_ifb_eq (pc2 := 20) (tgt := 59) dX8_lays_17 (fun c17 => ?_) (fun c17 => ?_)
    · replace h := iF c17 h
      refine V_ldc (v := -1000000001) (pc2 := 61) dX8_lays_59 wconstant_8_72 ?_
      obtain ⟨e1, e2⟩ := inj2 h
      subst e1
      subst e2
      exact V_iret dX8_lays_61 rfl ⟨rfl, rfl⟩
    · replace h := iT c17 h
      refine V_iload_n (pc2 := 21) dX8_lays_20 3 rfl rfl ?_
      refine V_i2l (pc2 := 22) dX8_lays_21 rfl ?_
      refine V_iload_n (pc2 := 23) dX8_lays_22 2 rfl rfl ?_
      obtain ⟨l3, hb, h⟩ := bS h
      have hJ31 : V D 2 IX8_lays 31 [(0, .ref a0), (1, .int p0), (2, .int p1), (3, .int p2)] [.long l3, .long p2.toInt64] m 0 0 (Qi rR mR) := by
        refine V_iload_n (pc2 := 32) dX8_lays_31 2 rfl rfl ?_
        obtain ⟨l4, hb, h⟩ := bS h
        have hJ53 : V D 2 IX8_lays 53 [(0, .ref a0), (1, .int p0), (2, .int p1), (3, .int p2)] [.long l4, .long l3, .long p2.toInt64] m 0 0 (Qi rR mR) := by
          obtain ⟨b5, e_b5, h⟩ := bS h
          refine V_cSi (pc2 := 56) [.long p2.toInt64, .long l3, .long l4] (st := []) (tX8_isIn e_b5) dX8_lays_53 wS_8_65 (by decide) rfl (Nat.le_of_ble_eq_true rfl) ?_
          refine V_ifb_ne (pc2 := 59) (tgt := 62) dX8_lays_56 (fun c56 => ?_) (fun c56 => ?_)
          · replace h := iT c56 h
            refine V_aload_n (pc2 := 63) dX8_lays_62 0 rfl rfl ?_
            refine V_bipush (v := 12) (pc2 := 65) dX8_lays_63 (by decide) ?_
            refine V_iconst (v := 3) (pc2 := 66) dX8_lays_65 (by decide) ?_
            refine V_iload_n (pc2 := 67) dX8_lays_66 1 rfl rfl ?_
            refine V_imul (pc2 := 68) dX8_lays_67 ?_
            refine V_iadd (pc2 := 69) dX8_lays_68 ?_
            refine V_iload_n (pc2 := 70) dX8_lays_69 2 rfl rfl ?_
            refine V_iadd (pc2 := 71) dX8_lays_70 ?_
            refine V_iload_n (pc2 := 72) dX8_lays_71 3 rfl rfl ?_
            obtain ⟨⟨x6, m7⟩, e_x6, h⟩ := bS h
            try dsimp only at h
            obtain ⟨⟨fs_x6, o_x6⟩, e_x6⟩ := cV_of e_x6
            refine V_cVi (pc2 := 75) [.int (((12 : Int32) + ((3 : Int32) * p0)) + p1), .int p2] (st := []) o_x6 (tX8_becomes e_x6) dX8_lays_72 wV_8_112 (by decide) rfl (Nat.le_of_ble_eq_true rfl) ?_
            obtain ⟨e1, e2⟩ := inj2 h
            subst e1
            subst e2
            exact V_iret dX8_lays_75 rfl ⟨rfl, rfl⟩
          · replace h := iF c56 h
            refine V_ldc (v := -1000000001) (pc2 := 61) dX8_lays_59 wconstant_8_72 ?_
            obtain ⟨e1, e2⟩ := inj2 h
            subst e1
            subst e2
            exact V_iret dX8_lays_61 rfl ⟨rfl, rfl⟩
        clear h
        have h := hb
        clear hb
        refine V_if_ne (pc2 := 35) (tgt := 41) dX8_lays_32 (fun c32 => ?_) (fun c32 => ?_)
        · replace h := iF c32 h
          refine V_iload_n (pc2 := 42) dX8_lays_41 2 rfl rfl ?_
          refine V_iconst (v := 1) (pc2 := 43) dX8_lays_42 (by decide) ?_
          refine V_icmp_ne (pc2 := 46) (tgt := 52) dX8_lays_43 (fun c43 => ?_) (fun c43 => ?_)
          · replace h := iF c43 h
            refine V_lconst (v := 1) (pc2 := 53) dX8_lays_52 (by decide) ?_
            have e1 := inj1 h
            subst e1
            exact hJ53
          · replace h := iT c43 h
            refine V_ldc2 (v := 99) (pc2 := 49) dX8_lays_46 wconstantLong_8_110 ?_
            refine V_goto (tgt := 53) dX8_lays_49 ?_
            have e1 := inj1 h
            subst e1
            exact hJ53
        · replace h := iT c32 h
          refine V_ldc2 (v := 9) (pc2 := 38) dX8_lays_35 wconstantLong_8_70 ?_
          refine V_goto (tgt := 53) dX8_lays_38 ?_
          have e1 := inj1 h
          subst e1
          exact hJ53
      clear h
      have h := hb
      clear hb
      refine V_if_ne (pc2 := 26) (tgt := 30) dX8_lays_23 (fun c23 => ?_) (fun c23 => ?_)
      · replace h := iF c23 h
        refine V_lconst (v := 0) (pc2 := 31) dX8_lays_30 (by decide) ?_
        have e1 := inj1 h
        subst e1
        exact hJ31
      · replace h := iT c23 h
        refine V_lconst (v := 1) (pc2 := 27) dX8_lays_26 (by decide) ?_
        refine V_goto (tgt := 31) dX8_lays_27 ?_
        have e1 := inj1 h
        subst e1
        exact hJ31
noncomputable def fX8_paper (a0 : Nat) (p0 : Int32) (m : Mem) : Option (Int32 × Mem) :=
  (fX8_isIn p0.toInt64 (0 : Int64) (2 : Int64) m).bind fun b1 =>
  if b1 = true then
    (gR m a0 8 0).bind fun r2 =>
    (ldI m r2 (2 : Int32)).bind fun x3 =>
    if x3 = (20 : Int32) then
      some ((-1000000003 : Int32), m)
    else
      (gR m a0 8 0).bind fun r4 =>
      (gR m a0 8 0).bind fun r5 =>
      (ldI m r5 (2 : Int32)).bind fun x6 =>
      (stI m r4 ((72 : Int32) + x6) p0).bind fun m7 =>
      (gR m7 a0 8 0).bind fun r8 =>
      (ldI m7 r8 (2 : Int32)).bind fun x9 =>
      (stI m7 r8 (2 : Int32) (x9 + (1 : Int32))).bind fun m10 =>
      (gR m10 a0 8 0).bind fun r11 =>
      (ldI m10 r11 (2 : Int32)).bind fun x12 =>
      some (x12 - (1 : Int32), m10)
  else
    some ((-1000000001 : Int32), m)
set_option maxRecDepth 20000 in
theorem tX8_paper {D : Dat} {a0 : Nat} {p0 : Int32} {m : Mem} {rR : Int32} {mR : Mem} (h : fX8_paper a0 p0 m = some (rR, mR)) : T D 1 IX8_paper [.ref a0, .int p0] m 0 0 (Qi rR mR) := by
  refine T_of_V (by decide) (Nat.le_of_ble_eq_true rfl) ?_
  show V D 1 IX8_paper 0 [(0, .ref a0), (1, .int p0)] [] m 0 0 (Qi rR mR)
  unfold fX8_paper at h
  refine V_iload_n (pc2 := 1) dX8_paper_0 1 rfl rfl ?_
  refine V_i2l (pc2 := 2) dX8_paper_1 rfl ?_
  refine V_lconst (v := 0) (pc2 := 3) dX8_paper_2 (by decide) ?_
  refine V_ldc2 (v := 2) (pc2 := 6) dX8_paper_3 wconstantLong_8_108 ?_
  obtain ⟨b1, e_b1, h⟩ := bS h
  refine V_cSi (pc2 := 9) [.long p0.toInt64, .long (0 : Int64), .long (2 : Int64)] (st := []) (tX8_isIn e_b1) dX8_paper_6 wS_8_65 (by decide) rfl (Nat.le_of_ble_eq_true rfl) ?_
  refine V_ifb_ne (pc2 := 12) (tgt := 15) dX8_paper_9 (fun c9 => ?_) (fun c9 => ?_)
  · replace h := iT c9 h
    refine V_aload_n (pc2 := 16) dX8_paper_15 0 rfl rfl ?_
    obtain ⟨r2, e_r2, h⟩ := bS h
    refine V_gR (pc2 := 19) e_r2 dX8_paper_16 wF_8_7 ?_
    refine V_iconst (v := 2) (pc2 := 20) dX8_paper_19 (by decide) ?_
    obtain ⟨x3, e_x3, h⟩ := bS h
    refine V_ldI (pc2 := 21) e_x3 dX8_paper_20 ?_
    refine V_bipush (v := 20) (pc2 := 23) dX8_paper_21 (by decide) ?_
    refine V_icmp_ne (pc2 := 26) (tgt := 29) dX8_paper_23 (fun c23 => ?_) (fun c23 => ?_)
    · replace h := iF c23 h
      refine V_aload_n (pc2 := 30) dX8_paper_29 0 rfl rfl ?_
      obtain ⟨r4, e_r4, h⟩ := bS h
      refine V_gR (pc2 := 33) e_r4 dX8_paper_30 wF_8_7 ?_
      refine V_bipush (v := 72) (pc2 := 35) dX8_paper_33 (by decide) ?_
      refine V_aload_n (pc2 := 36) dX8_paper_35 0 rfl rfl ?_
      obtain ⟨r5, e_r5, h⟩ := bS h
      refine V_gR (pc2 := 39) e_r5 dX8_paper_36 wF_8_7 ?_
      refine V_iconst (v := 2) (pc2 := 40) dX8_paper_39 (by decide) ?_
      obtain ⟨x6, e_x6, h⟩ := bS h
      refine V_ldI (pc2 := 41) e_x6 dX8_paper_40 ?_
      refine V_iadd (pc2 := 42) dX8_paper_41 ?_
      refine V_iload_n (pc2 := 43) dX8_paper_42 1 rfl rfl ?_
      obtain ⟨m7, e_m7, h⟩ := bS h
      refine V_stI (pc2 := 44) e_m7 dX8_paper_43 ?_
      refine V_aload_n (pc2 := 45) dX8_paper_44 0 rfl rfl ?_
      obtain ⟨r8, e_r8, h⟩ := bS h
      refine V_gR (pc2 := 48) e_r8 dX8_paper_45 wF_8_7 ?_
      refine V_iconst (v := 2) (pc2 := 49) dX8_paper_48 (by decide) ?_
      refine V_dup2 (pc2 := 50) dX8_paper_49 rfl rfl ?_
      obtain ⟨x9, e_x9, h⟩ := bS h
      refine V_ldI (pc2 := 51) e_x9 dX8_paper_50 ?_
      refine V_iconst (v := 1) (pc2 := 52) dX8_paper_51 (by decide) ?_
      refine V_iadd (pc2 := 53) dX8_paper_52 ?_
      obtain ⟨m10, e_m10, h⟩ := bS h
      refine V_stI (pc2 := 54) e_m10 dX8_paper_53 ?_
      refine V_aload_n (pc2 := 55) dX8_paper_54 0 rfl rfl ?_
      obtain ⟨r11, e_r11, h⟩ := bS h
      refine V_gR (pc2 := 58) e_r11 dX8_paper_55 wF_8_7 ?_
      refine V_iconst (v := 2) (pc2 := 59) dX8_paper_58 (by decide) ?_
      obtain ⟨x12, e_x12, h⟩ := bS h
      refine V_ldI (pc2 := 60) e_x12 dX8_paper_59 ?_
      refine V_iconst (v := 1) (pc2 := 61) dX8_paper_60 (by decide) ?_
      refine V_isub (pc2 := 62) dX8_paper_61 ?_
      obtain ⟨e1, e2⟩ := inj2 h
      subst e1
      subst e2
      exact V_iret dX8_paper_62 rfl ⟨rfl, rfl⟩
    · replace h := iT c23 h
      refine V_ldc (v := -1000000003) (pc2 := 28) dX8_paper_26 wconstant_8_73 ?_
      obtain ⟨e1, e2⟩ := inj2 h
      subst e1
      subst e2
      exact V_iret dX8_paper_28 rfl ⟨rfl, rfl⟩
  · replace h := iF c9 h
    refine V_ldc (v := -1000000001) (pc2 := 14) dX8_paper_12 wconstant_8_72 ?_
    obtain ⟨e1, e2⟩ := inj2 h
    subst e1
    subst e2
    exact V_iret dX8_paper_14 rfl ⟨rfl, rfl⟩
noncomputable def fX8_sorts (a0 : Nat) (p0 : Int32) (p1 : Int32) (m : Mem) : Option (Int32 × Mem) :=
  (gR m a0 8 0).bind fun r1 =>
  (ldI m r1 (2 : Int32)).bind fun x2 =>
  (fX8_isIn p0.toInt64 (0 : Int64) ((x2 - (1 : Int32)).toInt64) m).bind fun b3 =>
  if b3 = true then
    (fX8_isIn p1.toInt64 (0 : Int64) (2 : Int64) m).bind fun b4 =>
    if b4 = true then
      (cV m a0 8 (fX8_becomes a0 ((72 : Int32) + p0) p1 m)).bind fun (x5, m6) =>
      some (x5, m6)
    else
      some ((-1000000001 : Int32), m)
  else
    some ((-1000000001 : Int32), m)
set_option maxRecDepth 20000 in
theorem tX8_sorts {D : Dat} {a0 : Nat} {p0 : Int32} {p1 : Int32} {m : Mem} {rR : Int32} {mR : Mem} (h : fX8_sorts a0 p0 p1 m = some (rR, mR)) : T D 1 IX8_sorts [.ref a0, .int p0, .int p1] m 0 0 (Qi rR mR) := by
  refine T_of_V (by decide) (Nat.le_of_ble_eq_true rfl) ?_
  show V D 1 IX8_sorts 0 [(0, .ref a0), (1, .int p0), (2, .int p1)] [] m 0 0 (Qi rR mR)
  unfold fX8_sorts at h
  refine V_iload_n (pc2 := 1) dX8_sorts_0 1 rfl rfl ?_
  refine V_i2l (pc2 := 2) dX8_sorts_1 rfl ?_
  refine V_lconst (v := 0) (pc2 := 3) dX8_sorts_2 (by decide) ?_
  refine V_aload_n (pc2 := 4) dX8_sorts_3 0 rfl rfl ?_
  obtain ⟨r1, e_r1, h⟩ := bS h
  refine V_gR (pc2 := 7) e_r1 dX8_sorts_4 wF_8_7 ?_
  refine V_iconst (v := 2) (pc2 := 8) dX8_sorts_7 (by decide) ?_
  obtain ⟨x2, e_x2, h⟩ := bS h
  refine V_ldI (pc2 := 9) e_x2 dX8_sorts_8 ?_
  refine V_iconst (v := 1) (pc2 := 10) dX8_sorts_9 (by decide) ?_
  refine V_isub (pc2 := 11) dX8_sorts_10 ?_
  refine V_i2l (pc2 := 12) dX8_sorts_11 rfl ?_
  obtain ⟨b3, e_b3, h⟩ := bS h
  refine V_cSi (pc2 := 15) [.long p0.toInt64, .long (0 : Int64), .long ((x2 - (1 : Int32)).toInt64)] (st := []) (tX8_isIn e_b3) dX8_sorts_12 wS_8_65 (by decide) rfl (Nat.le_of_ble_eq_true rfl) ?_
  refine V_ifb_eq (pc2 := 18) (tgt := 42) dX8_sorts_15 (fun c15 => ?_) (fun c15 => ?_)
  · replace h := iF c15 h
    refine V_ldc (v := -1000000001) (pc2 := 44) dX8_sorts_42 wconstant_8_72 ?_
    obtain ⟨e1, e2⟩ := inj2 h
    subst e1
    subst e2
    exact V_iret dX8_sorts_44 rfl ⟨rfl, rfl⟩
  · replace h := iT c15 h
    refine V_iload_n (pc2 := 19) dX8_sorts_18 2 rfl rfl ?_
    refine V_i2l (pc2 := 20) dX8_sorts_19 rfl ?_
    refine V_lconst (v := 0) (pc2 := 21) dX8_sorts_20 (by decide) ?_
    refine V_ldc2 (v := 2) (pc2 := 24) dX8_sorts_21 wconstantLong_8_108 ?_
    obtain ⟨b4, e_b4, h⟩ := bS h
    refine V_cSi (pc2 := 27) [.long p1.toInt64, .long (0 : Int64), .long (2 : Int64)] (st := []) (tX8_isIn e_b4) dX8_sorts_24 wS_8_65 (by decide) rfl (Nat.le_of_ble_eq_true rfl) ?_
    refine V_ifb_eq (pc2 := 30) (tgt := 42) dX8_sorts_27 (fun c27 => ?_) (fun c27 => ?_)
    · replace h := iF c27 h
      refine V_ldc (v := -1000000001) (pc2 := 44) dX8_sorts_42 wconstant_8_72 ?_
      obtain ⟨e1, e2⟩ := inj2 h
      subst e1
      subst e2
      exact V_iret dX8_sorts_44 rfl ⟨rfl, rfl⟩
    · replace h := iT c27 h
      refine V_aload_n (pc2 := 31) dX8_sorts_30 0 rfl rfl ?_
      refine V_bipush (v := 72) (pc2 := 33) dX8_sorts_31 (by decide) ?_
      refine V_iload_n (pc2 := 34) dX8_sorts_33 1 rfl rfl ?_
      refine V_iadd (pc2 := 35) dX8_sorts_34 ?_
      refine V_iload_n (pc2 := 36) dX8_sorts_35 2 rfl rfl ?_
      obtain ⟨⟨x5, m6⟩, e_x5, h⟩ := bS h
      try dsimp only at h
      obtain ⟨⟨fs_x5, o_x5⟩, e_x5⟩ := cV_of e_x5
      refine V_cVi (pc2 := 39) [.int ((72 : Int32) + p0), .int p1] (st := []) o_x5 (tX8_becomes e_x5) dX8_sorts_36 wV_8_112 (by decide) rfl (Nat.le_of_ble_eq_true rfl) ?_
      refine V_goto (tgt := 44) dX8_sorts_39 ?_
      obtain ⟨e1, e2⟩ := inj2 h
      subst e1
      subst e2
      exact V_iret dX8_sorts_44 rfl ⟨rfl, rfl⟩
noncomputable def fX8_rule (a0 : Nat) (p0 : Int32) (p1 : Int32) (m : Mem) : Option (Int32 × Mem) :=
  if p0 = (0 : Int32) then
    (fX8_isIn p1.toInt64 (0 : Int64) (1 : Int64) m).bind fun b1 =>
    if b1 = true then
      (cV m a0 8 (fX8_becomes a0 (7 : Int32) p1 m)).bind fun (x2, m3) =>
      some (x2, m3)
    else
      some ((-1000000001 : Int32), m)
  else if p0 = (1 : Int32) then
    (fX8_isIn p1.toInt64 (0 : Int64) (1 : Int64) m).bind fun b4 =>
    if b4 = true then
      (cV m a0 8 (fX8_becomes a0 (5 : Int32) p1 m)).bind fun (x5, m6) =>
      some (x5, m6)
    else
      some ((-1000000001 : Int32), m)
  else if p0 = (2 : Int32) then
    (cV m a0 8 (fX8_isChild a0 p1 m)).bind fun b7 =>
    if b7 = true then
      (cV m a0 8 (fX8_becomes a0 (6 : Int32) p1 m)).bind fun (x8, m9) =>
      some (x8, m9)
    else
      some ((-1000000001 : Int32), m)
  else 
    some ((-1000000001 : Int32), m)
set_option maxRecDepth 20000 in
theorem tX8_rule {D : Dat} {a0 : Nat} {p0 : Int32} {p1 : Int32} {m : Mem} {rR : Int32} {mR : Mem} (h : fX8_rule a0 p0 p1 m = some (rR, mR)) : T D 2 IX8_rule [.ref a0, .int p0, .int p1] m 0 0 (Qi rR mR) := by
  refine T_of_V (by decide) (Nat.le_of_ble_eq_true rfl) ?_
  show V D 2 IX8_rule 0 [(0, .ref a0), (1, .int p0), (2, .int p1)] [] m 0 0 (Qi rR mR)
  unfold fX8_rule at h
  refine V_iload_n (pc2 := 1) dX8_rule_0 1 rfl rfl ?_
  by_cases c1_0 : p0 = (0 : Int32)
  · replace h := iT c1_0 h
    refine V_table (off := 27) (tgt := 28) dX8_rule_1 (by rw [c1_0]; decide) ?_
    refine V_iload_n (pc2 := 29) dX8_rule_28 2 rfl rfl ?_
    refine V_i2l (pc2 := 30) dX8_rule_29 rfl ?_
    refine V_lconst (v := 0) (pc2 := 31) dX8_rule_30 (by decide) ?_
    refine V_lconst (v := 1) (pc2 := 32) dX8_rule_31 (by decide) ?_
    obtain ⟨b1, e_b1, h⟩ := bS h
    refine V_cSi (pc2 := 35) [.long p1.toInt64, .long (0 : Int64), .long (1 : Int64)] (st := []) (tX8_isIn e_b1) dX8_rule_32 wS_8_65 (by decide) rfl (Nat.le_of_ble_eq_true rfl) ?_
    refine V_ifb_eq (pc2 := 38) (tgt := 48) dX8_rule_35 (fun c35 => ?_) (fun c35 => ?_)
    · replace h := iF c35 h
      refine V_ldc (v := -1000000001) (pc2 := 50) dX8_rule_48 wconstant_8_72 ?_
      obtain ⟨e1, e2⟩ := inj2 h
      subst e1
      subst e2
      exact V_iret dX8_rule_50 rfl ⟨rfl, rfl⟩
    · replace h := iT c35 h
      refine V_aload_n (pc2 := 39) dX8_rule_38 0 rfl rfl ?_
      refine V_bipush (v := 7) (pc2 := 41) dX8_rule_39 (by decide) ?_
      refine V_iload_n (pc2 := 42) dX8_rule_41 2 rfl rfl ?_
      obtain ⟨⟨x2, m3⟩, e_x2, h⟩ := bS h
      try dsimp only at h
      obtain ⟨⟨fs_x2, o_x2⟩, e_x2⟩ := cV_of e_x2
      refine V_cVi (pc2 := 45) [.int (7 : Int32), .int p1] (st := []) o_x2 (tX8_becomes e_x2) dX8_rule_42 wV_8_112 (by decide) rfl (Nat.le_of_ble_eq_true rfl) ?_
      refine V_goto (tgt := 50) dX8_rule_45 ?_
      obtain ⟨e1, e2⟩ := inj2 h
      subst e1
      subst e2
      exact V_iret dX8_rule_50 rfl ⟨rfl, rfl⟩
  replace h := iF c1_0 h
  by_cases c1_1 : p0 = (1 : Int32)
  · replace h := iT c1_1 h
    refine V_table (off := 50) (tgt := 51) dX8_rule_1 (by rw [c1_1]; decide) ?_
    refine V_iload_n (pc2 := 52) dX8_rule_51 2 rfl rfl ?_
    refine V_i2l (pc2 := 53) dX8_rule_52 rfl ?_
    refine V_lconst (v := 0) (pc2 := 54) dX8_rule_53 (by decide) ?_
    refine V_lconst (v := 1) (pc2 := 55) dX8_rule_54 (by decide) ?_
    obtain ⟨b4, e_b4, h⟩ := bS h
    refine V_cSi (pc2 := 58) [.long p1.toInt64, .long (0 : Int64), .long (1 : Int64)] (st := []) (tX8_isIn e_b4) dX8_rule_55 wS_8_65 (by decide) rfl (Nat.le_of_ble_eq_true rfl) ?_
    refine V_ifb_eq (pc2 := 61) (tgt := 70) dX8_rule_58 (fun c58 => ?_) (fun c58 => ?_)
    · replace h := iF c58 h
      refine V_ldc (v := -1000000001) (pc2 := 72) dX8_rule_70 wconstant_8_72 ?_
      obtain ⟨e1, e2⟩ := inj2 h
      subst e1
      subst e2
      exact V_iret dX8_rule_72 rfl ⟨rfl, rfl⟩
    · replace h := iT c58 h
      refine V_aload_n (pc2 := 62) dX8_rule_61 0 rfl rfl ?_
      refine V_iconst (v := 5) (pc2 := 63) dX8_rule_62 (by decide) ?_
      refine V_iload_n (pc2 := 64) dX8_rule_63 2 rfl rfl ?_
      obtain ⟨⟨x5, m6⟩, e_x5, h⟩ := bS h
      try dsimp only at h
      obtain ⟨⟨fs_x5, o_x5⟩, e_x5⟩ := cV_of e_x5
      refine V_cVi (pc2 := 67) [.int (5 : Int32), .int p1] (st := []) o_x5 (tX8_becomes e_x5) dX8_rule_64 wV_8_112 (by decide) rfl (Nat.le_of_ble_eq_true rfl) ?_
      refine V_goto (tgt := 72) dX8_rule_67 ?_
      obtain ⟨e1, e2⟩ := inj2 h
      subst e1
      subst e2
      exact V_iret dX8_rule_72 rfl ⟨rfl, rfl⟩
  replace h := iF c1_1 h
  by_cases c1_2 : p0 = (2 : Int32)
  · replace h := iT c1_2 h
    refine V_table (off := 72) (tgt := 73) dX8_rule_1 (by rw [c1_2]; decide) ?_
    refine V_aload_n (pc2 := 74) dX8_rule_73 0 rfl rfl ?_
    refine V_iload_n (pc2 := 75) dX8_rule_74 2 rfl rfl ?_
    obtain ⟨b7, e_b7, h⟩ := bS h
    obtain ⟨⟨fs_b7, o_b7⟩, e_b7⟩ := cV_of e_b7
    refine V_cVi (pc2 := 78) [.int p1] (st := []) o_b7 (tX8_isChild e_b7) dX8_rule_75 wV_8_95 (by decide) rfl (Nat.le_of_ble_eq_true rfl) ?_
    refine V_ifb_eq (pc2 := 81) (tgt := 91) dX8_rule_78 (fun c78 => ?_) (fun c78 => ?_)
    · replace h := iF c78 h
      refine V_ldc (v := -1000000001) (pc2 := 93) dX8_rule_91 wconstant_8_72 ?_
      obtain ⟨e1, e2⟩ := inj2 h
      subst e1
      subst e2
      exact V_iret dX8_rule_93 rfl ⟨rfl, rfl⟩
    · replace h := iT c78 h
      refine V_aload_n (pc2 := 82) dX8_rule_81 0 rfl rfl ?_
      refine V_bipush (v := 6) (pc2 := 84) dX8_rule_82 (by decide) ?_
      refine V_iload_n (pc2 := 85) dX8_rule_84 2 rfl rfl ?_
      obtain ⟨⟨x8, m9⟩, e_x8, h⟩ := bS h
      try dsimp only at h
      obtain ⟨⟨fs_x8, o_x8⟩, e_x8⟩ := cV_of e_x8
      refine V_cVi (pc2 := 88) [.int (6 : Int32), .int p1] (st := []) o_x8 (tX8_becomes e_x8) dX8_rule_85 wV_8_112 (by decide) rfl (Nat.le_of_ble_eq_true rfl) ?_
      refine V_goto (tgt := 93) dX8_rule_88 ?_
      obtain ⟨e1, e2⟩ := inj2 h
      subst e1
      subst e2
      exact V_iret dX8_rule_93 rfl ⟨rfl, rfl⟩
  replace h := iF c1_2 h
  refine V_tableD (tgt := 94) dX8_rule_1 (by have g0 := lv_neT c1_0 (show (0 : Int32).toInt = 0 by decide); have g1 := lv_neT c1_1 (show (1 : Int32).toInt = 1 by decide); have g2 := lv_neT c1_2 (show (2 : Int32).toInt = 2 by decide); omega) ?_
  refine V_ldc (v := -1000000001) (pc2 := 96) dX8_rule_94 wconstant_8_72 ?_
  obtain ⟨e1, e2⟩ := inj2 h
  subst e1
  subst e2
  exact V_iret dX8_rule_96 rfl ⟨rfl, rfl⟩
noncomputable def fX8_comes (a0 : Nat) (p0 : Int32) (p1 : Int32) (p2 : Int32) (m : Mem) : Option (Mem) :=
  (gR m a0 8 0).bind fun r1 =>
  (ldI m r1 (1 : Int32)).bind fun x2 =>
  (gR m a0 8 0).bind fun r3 =>
  (stI m r3 ((42 : Int32) + ((3 : Int32) * x2)) p0).bind fun m4 =>
  (gR m4 a0 8 0).bind fun r5 =>
  (stI m4 r5 (((42 : Int32) + ((3 : Int32) * x2)) + (1 : Int32)) p1).bind fun m6 =>
  (gR m6 a0 8 0).bind fun r7 =>
  (stI m6 r7 (((42 : Int32) + ((3 : Int32) * x2)) + (2 : Int32)) p2).bind fun m8 =>
  (gR m8 a0 8 0).bind fun r9 =>
  (ldI m8 r9 (1 : Int32)).bind fun x10 =>
  (stI m8 r9 (1 : Int32) (x10 + (1 : Int32))).bind fun m11 =>
  some m11
set_option maxRecDepth 20000 in
theorem tX8_comes {D : Dat} {a0 : Nat} {p0 : Int32} {p1 : Int32} {p2 : Int32} {m : Mem} {mR : Mem} (h : fX8_comes a0 p0 p1 p2 m = some mR) : T D 0 IX8_comes [.ref a0, .int p0, .int p1, .int p2] m 0 0 (Qv mR) := by
  refine T_of_V (by decide) (Nat.le_of_ble_eq_true rfl) ?_
  show V D 0 IX8_comes 0 [(0, .ref a0), (1, .int p0), (2, .int p1), (3, .int p2)] [] m 0 0 (Qv mR)
  unfold fX8_comes at h
  refine V_bipush (v := 42) (pc2 := 2) dX8_comes_0 (by decide) ?_
  refine V_iconst (v := 3) (pc2 := 3) dX8_comes_2 (by decide) ?_
  refine V_aload_n (pc2 := 4) dX8_comes_3 0 rfl rfl ?_
  obtain ⟨r1, e_r1, h⟩ := bS h
  refine V_gR (pc2 := 7) e_r1 dX8_comes_4 wF_8_7 ?_
  refine V_iconst (v := 1) (pc2 := 8) dX8_comes_7 (by decide) ?_
  obtain ⟨x2, e_x2, h⟩ := bS h
  refine V_ldI (pc2 := 9) e_x2 dX8_comes_8 ?_
  refine V_imul (pc2 := 10) dX8_comes_9 ?_
  refine V_iadd (pc2 := 11) dX8_comes_10 ?_
  refine V_istore (pc2 := 13) (L2 := [(4, .int ((42 : Int32) + ((3 : Int32) * x2))), (0, .ref a0), (1, .int p0), (2, .int p1), (3, .int p2)]) dX8_comes_11 ?_ rfl rfl
  refine V_aload_n (pc2 := 14) dX8_comes_13 1 rfl rfl ?_
  obtain ⟨r3, e_r3, h⟩ := bS h
  refine V_gR (pc2 := 17) e_r3 dX8_comes_14 wF_8_7 ?_
  refine V_iload (pc2 := 19) dX8_comes_17 0 rfl ?_
  refine V_iload_n (pc2 := 20) dX8_comes_19 2 rfl rfl ?_
  obtain ⟨m4, e_m4, h⟩ := bS h
  refine V_stI (pc2 := 21) e_m4 dX8_comes_20 ?_
  refine V_aload_n (pc2 := 22) dX8_comes_21 1 rfl rfl ?_
  obtain ⟨r5, e_r5, h⟩ := bS h
  refine V_gR (pc2 := 25) e_r5 dX8_comes_22 wF_8_7 ?_
  refine V_iload (pc2 := 27) dX8_comes_25 0 rfl ?_
  refine V_iconst (v := 1) (pc2 := 28) dX8_comes_27 (by decide) ?_
  refine V_iadd (pc2 := 29) dX8_comes_28 ?_
  refine V_iload_n (pc2 := 30) dX8_comes_29 3 rfl rfl ?_
  obtain ⟨m6, e_m6, h⟩ := bS h
  refine V_stI (pc2 := 31) e_m6 dX8_comes_30 ?_
  refine V_aload_n (pc2 := 32) dX8_comes_31 1 rfl rfl ?_
  obtain ⟨r7, e_r7, h⟩ := bS h
  refine V_gR (pc2 := 35) e_r7 dX8_comes_32 wF_8_7 ?_
  refine V_iload (pc2 := 37) dX8_comes_35 0 rfl ?_
  refine V_iconst (v := 2) (pc2 := 38) dX8_comes_37 (by decide) ?_
  refine V_iadd (pc2 := 39) dX8_comes_38 ?_
  refine V_iload_n (pc2 := 40) dX8_comes_39 4 rfl rfl ?_
  obtain ⟨m8, e_m8, h⟩ := bS h
  refine V_stI (pc2 := 41) e_m8 dX8_comes_40 ?_
  refine V_aload_n (pc2 := 42) dX8_comes_41 1 rfl rfl ?_
  obtain ⟨r9, e_r9, h⟩ := bS h
  refine V_gR (pc2 := 45) e_r9 dX8_comes_42 wF_8_7 ?_
  refine V_iconst (v := 1) (pc2 := 46) dX8_comes_45 (by decide) ?_
  refine V_dup2 (pc2 := 47) dX8_comes_46 rfl rfl ?_
  obtain ⟨x10, e_x10, h⟩ := bS h
  refine V_ldI (pc2 := 48) e_x10 dX8_comes_47 ?_
  refine V_iconst (v := 1) (pc2 := 49) dX8_comes_48 (by decide) ?_
  refine V_iadd (pc2 := 50) dX8_comes_49 ?_
  obtain ⟨m11, e_m11, h⟩ := bS h
  refine V_stI (pc2 := 51) e_m11 dX8_comes_50 ?_
  have e1 := inj1 h
  subst e1
  exact V_vret dX8_comes_51 rfl ⟨rfl, rfl⟩
noncomputable def fX8_stop (a0 : Nat) (p0 : Int32) (p1 : Int32) (p2 : Int32) (m : Mem) : Option (Int32 × Mem) :=
  (fX8_isIn p0.toInt64 (0 : Int64) (5 : Int64) m).bind fun b1 =>
  if b1 = true then
    (fX8_isIn p1.toInt64 (0 : Int64) (99 : Int64) m).bind fun b2 =>
    if b2 = true then
      (fX8_isIn p2.toInt64 (0 : Int64) (9 : Int64) m).bind fun b3 =>
      if b3 = true then
        (gR m a0 8 0).bind fun r4 =>
        (ldI m r4 (1 : Int32)).bind fun x5 =>
        if x5 = (10 : Int32) then
          some ((-1000000003 : Int32), m)
        else
          (cV m a0 8 (fX8_comes a0 p0 p1 p2 m)).bind fun m6 =>
          (gR m6 a0 8 0).bind fun r7 =>
          (ldI m6 r7 (1 : Int32)).bind fun x8 =>
          some (x8 - (1 : Int32), m6)
      else
        some ((-1000000001 : Int32), m)
    else
      some ((-1000000001 : Int32), m)
  else
    some ((-1000000001 : Int32), m)
set_option maxRecDepth 20000 in
theorem tX8_stop {D : Dat} {a0 : Nat} {p0 : Int32} {p1 : Int32} {p2 : Int32} {m : Mem} {rR : Int32} {mR : Mem} (h : fX8_stop a0 p0 p1 p2 m = some (rR, mR)) : T D 1 IX8_stop [.ref a0, .int p0, .int p1, .int p2] m 0 0 (Qi rR mR) := by
  refine T_of_V (by decide) (Nat.le_of_ble_eq_true rfl) ?_
  show V D 1 IX8_stop 0 [(0, .ref a0), (1, .int p0), (2, .int p1), (3, .int p2)] [] m 0 0 (Qi rR mR)
  unfold fX8_stop at h
  refine V_iload_n (pc2 := 1) dX8_stop_0 1 rfl rfl ?_
  refine V_i2l (pc2 := 2) dX8_stop_1 rfl ?_
  refine V_lconst (v := 0) (pc2 := 3) dX8_stop_2 (by decide) ?_
  refine V_ldc2 (v := 5) (pc2 := 6) dX8_stop_3 wconstantLong_8_115 ?_
  obtain ⟨b1, e_b1, h⟩ := bS h
  refine V_cSi (pc2 := 9) [.long p0.toInt64, .long (0 : Int64), .long (5 : Int64)] (st := []) (tX8_isIn e_b1) dX8_stop_6 wS_8_65 (by decide) rfl (Nat.le_of_ble_eq_true rfl) ?_
  refine V_ifb_eq (pc2 := 12) (tgt := 36) dX8_stop_9 (fun c9 => ?_) (fun c9 => ?_)
  · replace h := iF c9 h
    refine V_ldc (v := -1000000001) (pc2 := 38) dX8_stop_36 wconstant_8_72 ?_
    obtain ⟨e1, e2⟩ := inj2 h
    subst e1
    subst e2
    exact V_iret dX8_stop_38 rfl ⟨rfl, rfl⟩
  · replace h := iT c9 h
    refine V_iload_n (pc2 := 13) dX8_stop_12 2 rfl rfl ?_
    refine V_i2l (pc2 := 14) dX8_stop_13 rfl ?_
    refine V_lconst (v := 0) (pc2 := 15) dX8_stop_14 (by decide) ?_
    refine V_ldc2 (v := 99) (pc2 := 18) dX8_stop_15 wconstantLong_8_110 ?_
    obtain ⟨b2, e_b2, h⟩ := bS h
    refine V_cSi (pc2 := 21) [.long p1.toInt64, .long (0 : Int64), .long (99 : Int64)] (st := []) (tX8_isIn e_b2) dX8_stop_18 wS_8_65 (by decide) rfl (Nat.le_of_ble_eq_true rfl) ?_
    refine V_ifb_eq (pc2 := 24) (tgt := 36) dX8_stop_21 (fun c21 => ?_) (fun c21 => ?_)
    · replace h := iF c21 h
      refine V_ldc (v := -1000000001) (pc2 := 38) dX8_stop_36 wconstant_8_72 ?_
      obtain ⟨e1, e2⟩ := inj2 h
      subst e1
      subst e2
      exact V_iret dX8_stop_38 rfl ⟨rfl, rfl⟩
    · replace h := iT c21 h
      refine V_iload_n (pc2 := 25) dX8_stop_24 3 rfl rfl ?_
      refine V_i2l (pc2 := 26) dX8_stop_25 rfl ?_
      refine V_lconst (v := 0) (pc2 := 27) dX8_stop_26 (by decide) ?_
      refine V_ldc2 (v := 9) (pc2 := 30) dX8_stop_27 wconstantLong_8_70 ?_
      obtain ⟨b3, e_b3, h⟩ := bS h
      refine V_cSi (pc2 := 33) [.long p2.toInt64, .long (0 : Int64), .long (9 : Int64)] (st := []) (tX8_isIn e_b3) dX8_stop_30 wS_8_65 (by decide) rfl (Nat.le_of_ble_eq_true rfl) ?_
      refine V_ifb_ne (pc2 := 36) (tgt := 39) dX8_stop_33 (fun c33 => ?_) (fun c33 => ?_)
      · replace h := iT c33 h
        refine V_aload_n (pc2 := 40) dX8_stop_39 0 rfl rfl ?_
        obtain ⟨r4, e_r4, h⟩ := bS h
        refine V_gR (pc2 := 43) e_r4 dX8_stop_40 wF_8_7 ?_
        refine V_iconst (v := 1) (pc2 := 44) dX8_stop_43 (by decide) ?_
        obtain ⟨x5, e_x5, h⟩ := bS h
        refine V_ldI (pc2 := 45) e_x5 dX8_stop_44 ?_
        refine V_bipush (v := 10) (pc2 := 47) dX8_stop_45 (by decide) ?_
        refine V_icmp_ne (pc2 := 50) (tgt := 53) dX8_stop_47 (fun c47 => ?_) (fun c47 => ?_)
        · replace h := iF c47 h
          refine V_aload_n (pc2 := 54) dX8_stop_53 0 rfl rfl ?_
          refine V_iload_n (pc2 := 55) dX8_stop_54 1 rfl rfl ?_
          refine V_iload_n (pc2 := 56) dX8_stop_55 2 rfl rfl ?_
          refine V_iload_n (pc2 := 57) dX8_stop_56 3 rfl rfl ?_
          obtain ⟨m6, e_m6, h⟩ := bS h
          obtain ⟨⟨fs_m6, o_m6⟩, e_m6⟩ := cV_of e_m6
          refine V_cVv (pc2 := 60) [.int p0, .int p1, .int p2] (st := []) o_m6 (tX8_comes e_m6) dX8_stop_57 wV_8_117 (by decide) rfl (Nat.le_of_ble_eq_true rfl) ?_
          refine V_aload_n (pc2 := 61) dX8_stop_60 0 rfl rfl ?_
          obtain ⟨r7, e_r7, h⟩ := bS h
          refine V_gR (pc2 := 64) e_r7 dX8_stop_61 wF_8_7 ?_
          refine V_iconst (v := 1) (pc2 := 65) dX8_stop_64 (by decide) ?_
          obtain ⟨x8, e_x8, h⟩ := bS h
          refine V_ldI (pc2 := 66) e_x8 dX8_stop_65 ?_
          refine V_iconst (v := 1) (pc2 := 67) dX8_stop_66 (by decide) ?_
          refine V_isub (pc2 := 68) dX8_stop_67 ?_
          obtain ⟨e1, e2⟩ := inj2 h
          subst e1
          subst e2
          exact V_iret dX8_stop_68 rfl ⟨rfl, rfl⟩
        · replace h := iT c47 h
          refine V_ldc (v := -1000000003) (pc2 := 52) dX8_stop_50 wconstant_8_73 ?_
          obtain ⟨e1, e2⟩ := inj2 h
          subst e1
          subst e2
          exact V_iret dX8_stop_52 rfl ⟨rfl, rfl⟩
      · replace h := iF c33 h
        refine V_ldc (v := -1000000001) (pc2 := 38) dX8_stop_36 wconstant_8_72 ?_
        obtain ⟨e1, e2⟩ := inj2 h
        subst e1
        subst e2
        exact V_iret dX8_stop_38 rfl ⟨rfl, rfl⟩
