noncomputable def fX8_keep (a0 : Nat) (m : Mem) : Option (Int32 × Mem) :=
  (pI m a0 8 3 (1 : Int32)).bind fun m1 =>
  (gR m1 a0 8 0).bind fun r2 =>
  (gR m1 a0 8 1).bind fun r3 =>
  (cV m1 a0 8 (fX8_setAside a0 r2 r3 m1)).bind fun m4 =>
  (gR m4 a0 8 0).bind fun r5 =>
  (ldI m4 r5 (0 : Int32)).bind fun x6 =>
  some (x6, m4)
set_option maxRecDepth 20000 in
theorem tX8_keep {D : Dat} {a0 : Nat} {m : Mem} {rR : Int32} {mR : Mem} (h : fX8_keep a0 m = some (rR, mR)) : T D 1 IX8_keep [.ref a0] m 0 0 (Qi rR mR) := by
  refine T_of_V (by decide) (Nat.le_of_ble_eq_true rfl) ?_
  show V D 1 IX8_keep 0 [(0, .ref a0)] [] m 0 0 (Qi rR mR)
  unfold fX8_keep at h
  refine V_aload_n (pc2 := 1) dX8_keep_0 0 rfl rfl ?_
  refine V_iconst (v := 1) (pc2 := 2) dX8_keep_1 (by decide) ?_
  obtain ⟨m1, e_m1, h⟩ := bS h
  refine V_pI (pc2 := 5) e_m1 dX8_keep_2 wP_8_315 (by decide) (by decide) ?_
  refine V_aload_n (pc2 := 6) dX8_keep_5 0 rfl rfl ?_
  refine V_aload_n (pc2 := 7) dX8_keep_6 0 rfl rfl ?_
  obtain ⟨r2, e_r2, h⟩ := bS h
  refine V_gR (pc2 := 10) e_r2 dX8_keep_7 wF_8_7 ?_
  refine V_aload_n (pc2 := 11) dX8_keep_10 0 rfl rfl ?_
  obtain ⟨r3, e_r3, h⟩ := bS h
  refine V_gR (pc2 := 14) e_r3 dX8_keep_11 wF_8_13 ?_
  obtain ⟨m4, e_m4, h⟩ := bS h
  obtain ⟨⟨fs_m4, o_m4⟩, e_m4⟩ := cV_of e_m4
  refine V_cVv (pc2 := 17) [.ref r2, .ref r3] (st := []) o_m4 (tX8_setAside e_m4) dX8_keep_14 wV_8_319 (by decide) rfl (Nat.le_of_ble_eq_true rfl) ?_
  refine V_aload_n (pc2 := 18) dX8_keep_17 0 rfl rfl ?_
  obtain ⟨r5, e_r5, h⟩ := bS h
  refine V_gR (pc2 := 21) e_r5 dX8_keep_18 wF_8_7 ?_
  refine V_iconst (v := 0) (pc2 := 22) dX8_keep_21 (by decide) ?_
  obtain ⟨x6, e_x6, h⟩ := bS h
  refine V_ldI (pc2 := 23) e_x6 dX8_keep_22 ?_
  obtain ⟨e1, e2⟩ := inj2 h
  subst e1
  subst e2
  exact V_iret dX8_keep_23 rfl ⟨rfl, rfl⟩
noncomputable def fX8_back (a0 : Nat) (m : Mem) : Option (Int32 × Mem) :=
  (gI m a0 8 3).bind fun x1 =>
  if x1 = 0 then
    some ((-1000000002 : Int32), m)
  else
    (gR m a0 8 1).bind fun r2 =>
    (gR m a0 8 0).bind fun r3 =>
    (cV m a0 8 (fX8_setAside a0 r2 r3 m)).bind fun m4 =>
    (gR m4 a0 8 0).bind fun r5 =>
    (ldI m4 r5 (0 : Int32)).bind fun x6 =>
    some (x6, m4)
set_option maxRecDepth 20000 in
theorem tX8_back {D : Dat} {a0 : Nat} {m : Mem} {rR : Int32} {mR : Mem} (h : fX8_back a0 m = some (rR, mR)) : T D 1 IX8_back [.ref a0] m 0 0 (Qi rR mR) := by
  refine T_of_V (by decide) (Nat.le_of_ble_eq_true rfl) ?_
  show V D 1 IX8_back 0 [(0, .ref a0)] [] m 0 0 (Qi rR mR)
  unfold fX8_back at h
  refine V_aload_n (pc2 := 1) dX8_back_0 0 rfl rfl ?_
  obtain ⟨x1, e_x1, h⟩ := bS h
  refine V_gI (pc2 := 4) e_x1 dX8_back_1 wF_8_315 ?_
  refine V_if_ne (pc2 := 7) (tgt := 10) dX8_back_4 (fun c4 => ?_) (fun c4 => ?_)
  · replace h := iF c4 h
    refine V_aload_n (pc2 := 11) dX8_back_10 0 rfl rfl ?_
    refine V_aload_n (pc2 := 12) dX8_back_11 0 rfl rfl ?_
    obtain ⟨r2, e_r2, h⟩ := bS h
    refine V_gR (pc2 := 15) e_r2 dX8_back_12 wF_8_13 ?_
    refine V_aload_n (pc2 := 16) dX8_back_15 0 rfl rfl ?_
    obtain ⟨r3, e_r3, h⟩ := bS h
    refine V_gR (pc2 := 19) e_r3 dX8_back_16 wF_8_7 ?_
    obtain ⟨m4, e_m4, h⟩ := bS h
    obtain ⟨⟨fs_m4, o_m4⟩, e_m4⟩ := cV_of e_m4
    refine V_cVv (pc2 := 22) [.ref r2, .ref r3] (st := []) o_m4 (tX8_setAside e_m4) dX8_back_19 wV_8_319 (by decide) rfl (Nat.le_of_ble_eq_true rfl) ?_
    refine V_aload_n (pc2 := 23) dX8_back_22 0 rfl rfl ?_
    obtain ⟨r5, e_r5, h⟩ := bS h
    refine V_gR (pc2 := 26) e_r5 dX8_back_23 wF_8_7 ?_
    refine V_iconst (v := 0) (pc2 := 27) dX8_back_26 (by decide) ?_
    obtain ⟨x6, e_x6, h⟩ := bS h
    refine V_ldI (pc2 := 28) e_x6 dX8_back_27 ?_
    obtain ⟨e1, e2⟩ := inj2 h
    subst e1
    subst e2
    exact V_iret dX8_back_28 rfl ⟨rfl, rfl⟩
  · replace h := iT c4 h
    refine V_ldc (v := -1000000002) (pc2 := 9) dX8_back_7 wconstant_8_175 ?_
    obtain ⟨e1, e2⟩ := inj2 h
    subst e1
    subst e2
    exact V_iret dX8_back_9 rfl ⟨rfl, rfl⟩
noncomputable def fX8_count (a0 : Nat) (p0 : Int32) (m : Mem) : Option (Int32) :=
  if p0 = (0 : Int32) then
    (gR m a0 8 0).bind fun r1 =>
    (ldI m r1 (0 : Int32)).bind fun x2 =>
    some x2
  else if p0 = (1 : Int32) then
    (cV m a0 8 (fX8_many a0 m)).bind fun x3 =>
    some x3
  else if p0 = (2 : Int32) then
    (gR m a0 8 0).bind fun r4 =>
    (ldI m r4 (1 : Int32)).bind fun x5 =>
    some x5
  else if p0 = (3 : Int32) then
    (gR m a0 8 0).bind fun r6 =>
    (ldI m r6 (2 : Int32)).bind fun x7 =>
    some x7
  else if p0 = (4 : Int32) then
    (gR m a0 8 0).bind fun r8 =>
    (ldI m r8 (4 : Int32)).bind fun x9 =>
    some x9
  else if p0 = (5 : Int32) then
    (gR m a0 8 0).bind fun r10 =>
    (ldI m r10 (6 : Int32)).bind fun x11 =>
    some x11
  else if p0 = (6 : Int32) then
    (gR m a0 8 0).bind fun r12 =>
    (ldI m r12 (5 : Int32)).bind fun x13 =>
    some x13
  else if p0 = (7 : Int32) then
    (gR m a0 8 0).bind fun r14 =>
    (ldI m r14 (7 : Int32)).bind fun x15 =>
    some x15
  else if p0 = (8 : Int32) then
    (gR m a0 8 0).bind fun r16 =>
    (ldI m r16 (8 : Int32)).bind fun x17 =>
    some x17
  else if p0 = (9 : Int32) then
    (gR m a0 8 0).bind fun r18 =>
    (ldI m r18 (9 : Int32)).bind fun x19 =>
    some x19
  else if p0 = (10 : Int32) then
    (gR m a0 8 0).bind fun r20 =>
    (ldI m r20 (10 : Int32)).bind fun x21 =>
    some x21
  else if p0 = (11 : Int32) then
    (cV m a0 8 (fX8_spread a0 m)).bind fun x22 =>
    some x22
  else if p0 = (12 : Int32) then
    (gR m a0 8 0).bind fun r23 =>
    (ldI m r23 (3 : Int32)).bind fun x24 =>
    some x24
  else if p0 = (13 : Int32) then
    (gI m a0 8 29).bind fun x25 =>
    some x25
  else if p0 = (14 : Int32) then
    (gI m a0 8 14).bind fun x26 =>
    some x26
  else if p0 = (15 : Int32) then
    (gR m a0 8 0).bind fun r27 =>
    (ldI m r27 (11 : Int32)).bind fun x28 =>
    some x28
  else 
    some (-1000000001 : Int32)
set_option maxRecDepth 20000 in
theorem tX8_count {D : Dat} {a0 : Nat} {p0 : Int32} {m : Mem} {rR : Int32} (h : fX8_count a0 p0 m = some rR) : T D 2 IX8_count [.ref a0, .int p0] m 0 0 (Qi rR m) := by
  refine T_of_V (by decide) (Nat.le_of_ble_eq_true rfl) ?_
  show V D 2 IX8_count 0 [(0, .ref a0), (1, .int p0)] [] m 0 0 (Qi rR m)
  unfold fX8_count at h
  refine V_iload_n (pc2 := 1) dX8_count_0 1 rfl rfl ?_
  by_cases c1_0 : p0 = (0 : Int32)
  · replace h := iT c1_0 h
    refine V_table (off := 79) (tgt := 80) dX8_count_1 (by rw [c1_0]; decide) ?_
    refine V_aload_n (pc2 := 81) dX8_count_80 0 rfl rfl ?_
    obtain ⟨r1, e_r1, h⟩ := bS h
    refine V_gR (pc2 := 84) e_r1 dX8_count_81 wF_8_7 ?_
    refine V_iconst (v := 0) (pc2 := 85) dX8_count_84 (by decide) ?_
    obtain ⟨x2, e_x2, h⟩ := bS h
    refine V_ldI (pc2 := 86) e_x2 dX8_count_85 ?_
    have e1 := inj1 h
    subst e1
    exact V_iret dX8_count_86 rfl ⟨rfl, rfl⟩
  replace h := iF c1_0 h
  by_cases c1_1 : p0 = (1 : Int32)
  · replace h := iT c1_1 h
    refine V_table (off := 86) (tgt := 87) dX8_count_1 (by rw [c1_1]; decide) ?_
    refine V_aload_n (pc2 := 88) dX8_count_87 0 rfl rfl ?_
    obtain ⟨x3, e_x3, h⟩ := bS h
    obtain ⟨⟨fs_x3, o_x3⟩, e_x3⟩ := cV_of e_x3
    refine V_cVi (pc2 := 91) [] (st := []) o_x3 (tX8_many e_x3) dX8_count_88 wV_8_151 (by decide) rfl (Nat.le_of_ble_eq_true rfl) ?_
    have e1 := inj1 h
    subst e1
    exact V_iret dX8_count_91 rfl ⟨rfl, rfl⟩
  replace h := iF c1_1 h
  by_cases c1_2 : p0 = (2 : Int32)
  · replace h := iT c1_2 h
    refine V_table (off := 91) (tgt := 92) dX8_count_1 (by rw [c1_2]; decide) ?_
    refine V_aload_n (pc2 := 93) dX8_count_92 0 rfl rfl ?_
    obtain ⟨r4, e_r4, h⟩ := bS h
    refine V_gR (pc2 := 96) e_r4 dX8_count_93 wF_8_7 ?_
    refine V_iconst (v := 1) (pc2 := 97) dX8_count_96 (by decide) ?_
    obtain ⟨x5, e_x5, h⟩ := bS h
    refine V_ldI (pc2 := 98) e_x5 dX8_count_97 ?_
    have e1 := inj1 h
    subst e1
    exact V_iret dX8_count_98 rfl ⟨rfl, rfl⟩
  replace h := iF c1_2 h
  by_cases c1_3 : p0 = (3 : Int32)
  · replace h := iT c1_3 h
    refine V_table (off := 98) (tgt := 99) dX8_count_1 (by rw [c1_3]; decide) ?_
    refine V_aload_n (pc2 := 100) dX8_count_99 0 rfl rfl ?_
    obtain ⟨r6, e_r6, h⟩ := bS h
    refine V_gR (pc2 := 103) e_r6 dX8_count_100 wF_8_7 ?_
    refine V_iconst (v := 2) (pc2 := 104) dX8_count_103 (by decide) ?_
    obtain ⟨x7, e_x7, h⟩ := bS h
    refine V_ldI (pc2 := 105) e_x7 dX8_count_104 ?_
    have e1 := inj1 h
    subst e1
    exact V_iret dX8_count_105 rfl ⟨rfl, rfl⟩
  replace h := iF c1_3 h
  by_cases c1_4 : p0 = (4 : Int32)
  · replace h := iT c1_4 h
    refine V_table (off := 105) (tgt := 106) dX8_count_1 (by rw [c1_4]; decide) ?_
    refine V_aload_n (pc2 := 107) dX8_count_106 0 rfl rfl ?_
    obtain ⟨r8, e_r8, h⟩ := bS h
    refine V_gR (pc2 := 110) e_r8 dX8_count_107 wF_8_7 ?_
    refine V_iconst (v := 4) (pc2 := 111) dX8_count_110 (by decide) ?_
    obtain ⟨x9, e_x9, h⟩ := bS h
    refine V_ldI (pc2 := 112) e_x9 dX8_count_111 ?_
    have e1 := inj1 h
    subst e1
    exact V_iret dX8_count_112 rfl ⟨rfl, rfl⟩
  replace h := iF c1_4 h
  by_cases c1_5 : p0 = (5 : Int32)
  · replace h := iT c1_5 h
    refine V_table (off := 112) (tgt := 113) dX8_count_1 (by rw [c1_5]; decide) ?_
    refine V_aload_n (pc2 := 114) dX8_count_113 0 rfl rfl ?_
    obtain ⟨r10, e_r10, h⟩ := bS h
    refine V_gR (pc2 := 117) e_r10 dX8_count_114 wF_8_7 ?_
    refine V_bipush (v := 6) (pc2 := 119) dX8_count_117 (by decide) ?_
    obtain ⟨x11, e_x11, h⟩ := bS h
    refine V_ldI (pc2 := 120) e_x11 dX8_count_119 ?_
    have e1 := inj1 h
    subst e1
    exact V_iret dX8_count_120 rfl ⟨rfl, rfl⟩
  replace h := iF c1_5 h
  by_cases c1_6 : p0 = (6 : Int32)
  · replace h := iT c1_6 h
    refine V_table (off := 120) (tgt := 121) dX8_count_1 (by rw [c1_6]; decide) ?_
    refine V_aload_n (pc2 := 122) dX8_count_121 0 rfl rfl ?_
    obtain ⟨r12, e_r12, h⟩ := bS h
    refine V_gR (pc2 := 125) e_r12 dX8_count_122 wF_8_7 ?_
    refine V_iconst (v := 5) (pc2 := 126) dX8_count_125 (by decide) ?_
    obtain ⟨x13, e_x13, h⟩ := bS h
    refine V_ldI (pc2 := 127) e_x13 dX8_count_126 ?_
    have e1 := inj1 h
    subst e1
    exact V_iret dX8_count_127 rfl ⟨rfl, rfl⟩
  replace h := iF c1_6 h
  by_cases c1_7 : p0 = (7 : Int32)
  · replace h := iT c1_7 h
    refine V_table (off := 127) (tgt := 128) dX8_count_1 (by rw [c1_7]; decide) ?_
    refine V_aload_n (pc2 := 129) dX8_count_128 0 rfl rfl ?_
    obtain ⟨r14, e_r14, h⟩ := bS h
    refine V_gR (pc2 := 132) e_r14 dX8_count_129 wF_8_7 ?_
    refine V_bipush (v := 7) (pc2 := 134) dX8_count_132 (by decide) ?_
    obtain ⟨x15, e_x15, h⟩ := bS h
    refine V_ldI (pc2 := 135) e_x15 dX8_count_134 ?_
    have e1 := inj1 h
    subst e1
    exact V_iret dX8_count_135 rfl ⟨rfl, rfl⟩
  replace h := iF c1_7 h
  by_cases c1_8 : p0 = (8 : Int32)
  · replace h := iT c1_8 h
    refine V_table (off := 135) (tgt := 136) dX8_count_1 (by rw [c1_8]; decide) ?_
    refine V_aload_n (pc2 := 137) dX8_count_136 0 rfl rfl ?_
    obtain ⟨r16, e_r16, h⟩ := bS h
    refine V_gR (pc2 := 140) e_r16 dX8_count_137 wF_8_7 ?_
    refine V_bipush (v := 8) (pc2 := 142) dX8_count_140 (by decide) ?_
    obtain ⟨x17, e_x17, h⟩ := bS h
    refine V_ldI (pc2 := 143) e_x17 dX8_count_142 ?_
    have e1 := inj1 h
    subst e1
    exact V_iret dX8_count_143 rfl ⟨rfl, rfl⟩
  replace h := iF c1_8 h
  by_cases c1_9 : p0 = (9 : Int32)
  · replace h := iT c1_9 h
    refine V_table (off := 143) (tgt := 144) dX8_count_1 (by rw [c1_9]; decide) ?_
    refine V_aload_n (pc2 := 145) dX8_count_144 0 rfl rfl ?_
    obtain ⟨r18, e_r18, h⟩ := bS h
    refine V_gR (pc2 := 148) e_r18 dX8_count_145 wF_8_7 ?_
    refine V_bipush (v := 9) (pc2 := 150) dX8_count_148 (by decide) ?_
    obtain ⟨x19, e_x19, h⟩ := bS h
    refine V_ldI (pc2 := 151) e_x19 dX8_count_150 ?_
    have e1 := inj1 h
    subst e1
    exact V_iret dX8_count_151 rfl ⟨rfl, rfl⟩
  replace h := iF c1_9 h
  by_cases c1_10 : p0 = (10 : Int32)
  · replace h := iT c1_10 h
    refine V_table (off := 151) (tgt := 152) dX8_count_1 (by rw [c1_10]; decide) ?_
    refine V_aload_n (pc2 := 153) dX8_count_152 0 rfl rfl ?_
    obtain ⟨r20, e_r20, h⟩ := bS h
    refine V_gR (pc2 := 156) e_r20 dX8_count_153 wF_8_7 ?_
    refine V_bipush (v := 10) (pc2 := 158) dX8_count_156 (by decide) ?_
    obtain ⟨x21, e_x21, h⟩ := bS h
    refine V_ldI (pc2 := 159) e_x21 dX8_count_158 ?_
    have e1 := inj1 h
    subst e1
    exact V_iret dX8_count_159 rfl ⟨rfl, rfl⟩
  replace h := iF c1_10 h
  by_cases c1_11 : p0 = (11 : Int32)
  · replace h := iT c1_11 h
    refine V_table (off := 159) (tgt := 160) dX8_count_1 (by rw [c1_11]; decide) ?_
    refine V_aload_n (pc2 := 161) dX8_count_160 0 rfl rfl ?_
    obtain ⟨x22, e_x22, h⟩ := bS h
    obtain ⟨⟨fs_x22, o_x22⟩, e_x22⟩ := cV_of e_x22
    refine V_cVi (pc2 := 164) [] (st := []) o_x22 (tX8_spread e_x22) dX8_count_161 wV_8_182 (by decide) rfl (Nat.le_of_ble_eq_true rfl) ?_
    have e1 := inj1 h
    subst e1
    exact V_iret dX8_count_164 rfl ⟨rfl, rfl⟩
  replace h := iF c1_11 h
  by_cases c1_12 : p0 = (12 : Int32)
  · replace h := iT c1_12 h
    refine V_table (off := 164) (tgt := 165) dX8_count_1 (by rw [c1_12]; decide) ?_
    refine V_aload_n (pc2 := 166) dX8_count_165 0 rfl rfl ?_
    obtain ⟨r23, e_r23, h⟩ := bS h
    refine V_gR (pc2 := 169) e_r23 dX8_count_166 wF_8_7 ?_
    refine V_iconst (v := 3) (pc2 := 170) dX8_count_169 (by decide) ?_
    obtain ⟨x24, e_x24, h⟩ := bS h
    refine V_ldI (pc2 := 171) e_x24 dX8_count_170 ?_
    have e1 := inj1 h
    subst e1
    exact V_iret dX8_count_171 rfl ⟨rfl, rfl⟩
  replace h := iF c1_12 h
  by_cases c1_13 : p0 = (13 : Int32)
  · replace h := iT c1_13 h
    refine V_table (off := 171) (tgt := 172) dX8_count_1 (by rw [c1_13]; decide) ?_
    refine V_aload_n (pc2 := 173) dX8_count_172 0 rfl rfl ?_
    obtain ⟨x25, e_x25, h⟩ := bS h
    refine V_gI (pc2 := 176) e_x25 dX8_count_173 wF_8_312 ?_
    have e1 := inj1 h
    subst e1
    exact V_iret dX8_count_176 rfl ⟨rfl, rfl⟩
  replace h := iF c1_13 h
  by_cases c1_14 : p0 = (14 : Int32)
  · replace h := iT c1_14 h
    refine V_table (off := 176) (tgt := 177) dX8_count_1 (by rw [c1_14]; decide) ?_
    refine V_aload_n (pc2 := 178) dX8_count_177 0 rfl rfl ?_
    obtain ⟨x26, e_x26, h⟩ := bS h
    refine V_gI (pc2 := 181) e_x26 dX8_count_178 wF_8_195 ?_
    have e1 := inj1 h
    subst e1
    exact V_iret dX8_count_181 rfl ⟨rfl, rfl⟩
  replace h := iF c1_14 h
  by_cases c1_15 : p0 = (15 : Int32)
  · replace h := iT c1_15 h
    refine V_table (off := 181) (tgt := 182) dX8_count_1 (by rw [c1_15]; decide) ?_
    refine V_aload_n (pc2 := 183) dX8_count_182 0 rfl rfl ?_
    obtain ⟨r27, e_r27, h⟩ := bS h
    refine V_gR (pc2 := 186) e_r27 dX8_count_183 wF_8_7 ?_
    refine V_bipush (v := 11) (pc2 := 188) dX8_count_186 (by decide) ?_
    obtain ⟨x28, e_x28, h⟩ := bS h
    refine V_ldI (pc2 := 189) e_x28 dX8_count_188 ?_
    have e1 := inj1 h
    subst e1
    exact V_iret dX8_count_189 rfl ⟨rfl, rfl⟩
  replace h := iF c1_15 h
  refine V_tableD (tgt := 190) dX8_count_1 (by have g0 := lv_neT c1_0 (show (0 : Int32).toInt = 0 by decide); have g1 := lv_neT c1_1 (show (1 : Int32).toInt = 1 by decide); have g2 := lv_neT c1_2 (show (2 : Int32).toInt = 2 by decide); have g3 := lv_neT c1_3 (show (3 : Int32).toInt = 3 by decide); have g4 := lv_neT c1_4 (show (4 : Int32).toInt = 4 by decide); have g5 := lv_neT c1_5 (show (5 : Int32).toInt = 5 by decide); have g6 := lv_neT c1_6 (show (6 : Int32).toInt = 6 by decide); have g7 := lv_neT c1_7 (show (7 : Int32).toInt = 7 by decide); have g8 := lv_neT c1_8 (show (8 : Int32).toInt = 8 by decide); have g9 := lv_neT c1_9 (show (9 : Int32).toInt = 9 by decide); have g10 := lv_neT c1_10 (show (10 : Int32).toInt = 10 by decide); have g11 := lv_neT c1_11 (show (11 : Int32).toInt = 11 by decide); have g12 := lv_neT c1_12 (show (12 : Int32).toInt = 12 by decide); have g13 := lv_neT c1_13 (show (13 : Int32).toInt = 13 by decide); have g14 := lv_neT c1_14 (show (14 : Int32).toInt = 14 by decide); have g15 := lv_neT c1_15 (show (15 : Int32).toInt = 15 by decide); omega) ?_
  refine V_ldc (v := -1000000001) (pc2 := 192) dX8_count_190 wconstant_8_72 ?_
  have e1 := inj1 h
  subst e1
  exact V_iret dX8_count_192 rfl ⟨rfl, rfl⟩
