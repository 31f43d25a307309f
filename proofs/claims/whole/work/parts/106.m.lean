noncomputable def fX8_isStop (a0 : Nat) (p0 : Int32) (m : Mem) : Option (Bool) :=
  (gR m a0 8 0).bind fun r1 =>
  (ldI m r1 (1 : Int32)).bind fun x2 =>
  (fX8_isIn p0.toInt64 (0 : Int64) ((x2 - (1 : Int32)).toInt64) m).bind fun b3 =>
  some b3
set_option maxRecDepth 20000 in
theorem tX8_isStop {D : Dat} {a0 : Nat} {p0 : Int32} {m : Mem} {rR : Bool} (h : fX8_isStop a0 p0 m = some rR) : T D 1 IX8_isStop [.ref a0, .int p0] m 0 0 (Qi (zb rR) m) := by
  refine T_of_V (by decide) (Nat.le_of_ble_eq_true rfl) ?_
  show V D 1 IX8_isStop 0 [(0, .ref a0), (1, .int p0)] [] m 0 0 (Qi (zb rR) m)
  unfold fX8_isStop at h
  refine V_iload_n (pc2 := 1) dX8_isStop_0 1 rfl rfl ?_
  refine V_i2l (pc2 := 2) dX8_isStop_1 rfl ?_
  refine V_lconst (v := 0) (pc2 := 3) dX8_isStop_2 (by decide) ?_
  refine V_aload_n (pc2 := 4) dX8_isStop_3 0 rfl rfl ?_
  obtain ⟨r1, e_r1, h⟩ := bS h
  refine V_gR (pc2 := 7) e_r1 dX8_isStop_4 wF_8_7 ?_
  refine V_iconst (v := 1) (pc2 := 8) dX8_isStop_7 (by decide) ?_
  obtain ⟨x2, e_x2, h⟩ := bS h
  refine V_ldI (pc2 := 9) e_x2 dX8_isStop_8 ?_
  refine V_iconst (v := 1) (pc2 := 10) dX8_isStop_9 (by decide) ?_
  refine V_isub (pc2 := 11) dX8_isStop_10 ?_
  refine V_i2l (pc2 := 12) dX8_isStop_11 rfl ?_
  obtain ⟨b3, e_b3, h⟩ := bS h
  refine V_cSi (pc2 := 15) [.long p0.toInt64, .long (0 : Int64), .long ((x2 - (1 : Int32)).toInt64)] (st := []) (tX8_isIn e_b3) dX8_isStop_12 wS_8_65 (by decide) rfl (Nat.le_of_ble_eq_true rfl) ?_
  have e1 := inj1 h
  subst e1
  exact V_bret (b := b3) dX8_isStop_15 rfl ⟨rfl, rfl⟩
noncomputable def fX8_of (a0 : Nat) (p0 : Int32) (p1 : Int32) (m : Mem) : Option (Int32) :=
  (gR m a0 8 0).bind fun r1 =>
  (ldI m r1 (((42 : Int32) + ((3 : Int32) * p0)) + p1)).bind fun x2 =>
  some x2
set_option maxRecDepth 20000 in
theorem tX8_of {D : Dat} {a0 : Nat} {p0 : Int32} {p1 : Int32} {m : Mem} {rR : Int32} (h : fX8_of a0 p0 p1 m = some rR) : T D 0 IX8_of [.ref a0, .int p0, .int p1] m 0 0 (Qi rR m) := by
  refine T_of_V (by decide) (Nat.le_of_ble_eq_true rfl) ?_
  show V D 0 IX8_of 0 [(0, .ref a0), (1, .int p0), (2, .int p1)] [] m 0 0 (Qi rR m)
  unfold fX8_of at h
  refine V_aload_n (pc2 := 1) dX8_of_0 0 rfl rfl ?_
  obtain ⟨r1, e_r1, h⟩ := bS h
  refine V_gR (pc2 := 4) e_r1 dX8_of_1 wF_8_7 ?_
  refine V_bipush (v := 42) (pc2 := 6) dX8_of_4 (by decide) ?_
  refine V_iconst (v := 3) (pc2 := 7) dX8_of_6 (by decide) ?_
  refine V_iload_n (pc2 := 8) dX8_of_7 1 rfl rfl ?_
  refine V_imul (pc2 := 9) dX8_of_8 ?_
  refine V_iadd (pc2 := 10) dX8_of_9 ?_
  refine V_iload_n (pc2 := 11) dX8_of_10 2 rfl rfl ?_
  refine V_iadd (pc2 := 12) dX8_of_11 ?_
  obtain ⟨x2, e_x2, h⟩ := bS h
  refine V_ldI (pc2 := 13) e_x2 dX8_of_12 ?_
  have e1 := inj1 h
  subst e1
  exact V_iret dX8_of_13 rfl ⟨rfl, rfl⟩
noncomputable def fX8_isLot (a0 : Nat) (p0 : Int32) (m : Mem) : Option (Bool) :=
  (cV m a0 8 (fX8_of a0 p0 (0 : Int32) m)).bind fun x1 =>
  if x1 = (1 : Int32) then
    some true
  else
    (cV m a0 8 (fX8_of a0 p0 (0 : Int32) m)).bind fun x2 =>
    if x2 = (3 : Int32) then
      some true
    else
      some false
set_option maxRecDepth 20000 in
theorem tX8_isLot {D : Dat} {a0 : Nat} {p0 : Int32} {m : Mem} {rR : Bool} (h : fX8_isLot a0 p0 m = some rR) : T D 1 IX8_isLot [.ref a0, .int p0] m 0 0 (Qi (zb rR) m) := by
  refine T_of_V (by decide) (Nat.le_of_ble_eq_true rfl) ?_
  show V D 1 IX8_isLot 0 [(0, .ref a0), (1, .int p0)] [] m 0 0 (Qi (zb rR) m)
  unfold fX8_isLot at h
  refine V_aload_n (pc2 := 1) dX8_isLot_0 0 rfl rfl ?_
  refine V_iload_n (pc2 := 2) dX8_isLot_1 1 rfl rfl ?_
  refine V_iconst (v := 0) (pc2 := 3) dX8_isLot_2 (by decide) ?_
  obtain ⟨x1, e_x1, h⟩ := bS h
  obtain ⟨⟨fs_x1, o_x1⟩, e_x1⟩ := cV_of e_x1
  refine V_cVi (pc2 := 6) [.int p0, .int (0 : Int32)] (st := []) o_x1 (tX8_of e_x1) dX8_isLot_3 wV_8_121 (by decide) rfl (Nat.le_of_ble_eq_true rfl) ?_
  refine V_iconst (v := 1) (pc2 := 7) dX8_isLot_6 (by decide) ?_
  refine V_icmp_eq (pc2 := 10) (tgt := 20) dX8_isLot_7 (fun c7 => ?_) (fun c7 => ?_)
  · replace h := iT c7 h
    refine V_iconst (v := 1) (pc2 := 21) dX8_isLot_20 (by decide) ?_
    refine V_goto (tgt := 25) dX8_isLot_21 ?_
    have e1 := inj1 h
    subst e1
    exact V_bret (b := true) dX8_isLot_25 rfl ⟨rfl, rfl⟩
  · replace h := iF c7 h
    refine V_aload_n (pc2 := 11) dX8_isLot_10 0 rfl rfl ?_
    refine V_iload_n (pc2 := 12) dX8_isLot_11 1 rfl rfl ?_
    refine V_iconst (v := 0) (pc2 := 13) dX8_isLot_12 (by decide) ?_
    obtain ⟨x2, e_x2, h⟩ := bS h
    obtain ⟨⟨fs_x2, o_x2⟩, e_x2⟩ := cV_of e_x2
    refine V_cVi (pc2 := 16) [.int p0, .int (0 : Int32)] (st := []) o_x2 (tX8_of e_x2) dX8_isLot_13 wV_8_121 (by decide) rfl (Nat.le_of_ble_eq_true rfl) ?_
    refine V_iconst (v := 3) (pc2 := 17) dX8_isLot_16 (by decide) ?_
    refine V_icmp_ne (pc2 := 20) (tgt := 24) dX8_isLot_17 (fun c17 => ?_) (fun c17 => ?_)
    · replace h := iF c17 h
      refine V_iconst (v := 0) (pc2 := 25) dX8_isLot_24 (by decide) ?_
      have e1 := inj1 h
      subst e1
      exact V_bret (b := false) dX8_isLot_25 rfl ⟨rfl, rfl⟩
    · replace h := iT c17 h
      refine V_iconst (v := 1) (pc2 := 21) dX8_isLot_20 (by decide) ?_
      refine V_goto (tgt := 25) dX8_isLot_21 ?_
      have e1 := inj1 h
      subst e1
      exact V_bret (b := true) dX8_isLot_25 rfl ⟨rfl, rfl⟩
noncomputable def fX8_lasts (a0 : Nat) (p0 : Int32) (p1 : Int32) (m : Mem) : Option (Int32 × Mem) :=
  (cV m a0 8 (fX8_of a0 p0 (1 : Int32) m)).bind fun x1 =>
  (cV m a0 8 (fX8_counts a0 (1 : Int32) m)).bind fun x2 =>
  (
    if x2 < 0 then
      some (x1, m)
    else
      (gR m a0 8 25).bind fun r3 =>
      (cV m a0 8 (fX8_of a0 p0 (1 : Int32) m)).bind fun x4 =>
      (stI m r3 (115 : Int32) x4).bind fun m5 =>
      (gR m5 a0 8 25).bind fun r6 =>
      (gR m5 a0 8 0).bind fun r7 =>
      (ldI m5 r7 (4 : Int32)).bind fun x8 =>
      (stI m5 r6 (112 : Int32) x8).bind fun m9 =>
      (gR m9 a0 8 25).bind fun r10 =>
      (gR m9 a0 8 0).bind fun r11 =>
      (ldI m9 r11 (8 : Int32)).bind fun x12 =>
      (stI m9 r10 (116 : Int32) x12).bind fun m13 =>
      (cV m13 a0 8 (fX8_worked a0 x2 m13)).bind fun (x14, m15) =>
      (fX8_held x14 (0 : Int32) (999 : Int32) m15).bind fun x16 =>
      some (x16, m15)).bind fun (y17, m18) =>
  (cV m18 a0 8 (fX8_isLot a0 p0 m18)).bind fun b19 =>
  if b19 = true then
    some (y17 + p1, m18)
  else
    (cV m18 a0 8 (fX8_of a0 p0 (0 : Int32) m18)).bind fun x20 =>
    if x20 = (5 : Int32) then
      if y17 ≤ 0 then
        some (y17, m18)
      else
        some (y17 - (1 : Int32), m18)
    else
      some (y17, m18)
set_option maxRecDepth 20000 in
theorem tX8_lasts {D : Dat} {a0 : Nat} {p0 : Int32} {p1 : Int32} {m : Mem} {rR : Int32} {mR : Mem} (h : fX8_lasts a0 p0 p1 m = some (rR, mR)) : T D 2 IX8_lasts [.ref a0, .int p0, .int p1] m 0 0 (Qi rR mR) := by
  refine T_of_V (by decide) (Nat.le_of_ble_eq_true rfl) ?_
  show V D 2 IX8_lasts 0 [(0, .ref a0), (1, .int p0), (2, .int p1)] [] m 0 0 (Qi rR mR)
  unfold fX8_lasts at h
  refine V_aload_n (pc2 := 1) dX8_lasts_0 0 rfl rfl ?_
  refine V_iload_n (pc2 := 2) dX8_lasts_1 1 rfl rfl ?_
  refine V_iconst (v := 1) (pc2 := 3) dX8_lasts_2 (by decide) ?_
  obtain ⟨x1, e_x1, h⟩ := bS h
  obtain ⟨⟨fs_x1, o_x1⟩, e_x1⟩ := cV_of e_x1
  refine V_cVi (pc2 := 6) [.int p0, .int (1 : Int32)] (st := []) o_x1 (tX8_of e_x1) dX8_lasts_3 wV_8_121 (by decide) rfl (Nat.le_of_ble_eq_true rfl) ?_
  refine V_istore_n (pc2 := 7) (L2 := [(3, .int x1), (0, .ref a0), (1, .int p0), (2, .int p1)]) dX8_lasts_6 ?_ rfl rfl rfl
  refine V_aload_n (pc2 := 8) dX8_lasts_7 1 rfl rfl ?_
  refine V_iconst (v := 1) (pc2 := 9) dX8_lasts_8 (by decide) ?_
  obtain ⟨x2, e_x2, h⟩ := bS h
  obtain ⟨⟨fs_x2, o_x2⟩, e_x2⟩ := cV_of e_x2
  refine V_cVi (pc2 := 12) [.int (1 : Int32)] (st := []) o_x2 (tX8_counts e_x2) dX8_lasts_9 wV_8_81 (by decide) rfl (Nat.le_of_ble_eq_true rfl) ?_
  refine V_istore (pc2 := 14) (L2 := [(4, .int x2), (3, .int x1), (0, .ref a0), (1, .int p0), (2, .int p1)]) dX8_lasts_12 ?_ rfl rfl
  refine V_iload (pc2 := 16) dX8_lasts_14 0 rfl ?_
  obtain ⟨⟨y17, m18⟩, hb, h⟩ := bS h
  try dsimp only at h
  have hJ73 : V D 2 IX8_lasts 73 [(0, .ref a0), (1, .int p0), (2, .int p1), (3, .int y17)] [] m18 0 0 (Qi rR mR) := by
    refine V_aload_n (pc2 := 74) dX8_lasts_73 0 rfl rfl ?_
    refine V_iload_n (pc2 := 75) dX8_lasts_74 1 rfl rfl ?_
    obtain ⟨b19, e_b19, h⟩ := bS h
    obtain ⟨⟨fs_b19, o_b19⟩, e_b19⟩ := cV_of e_b19
    refine V_cVi (pc2 := 78) [.int p0] (st := []) o_b19 (tX8_isLot e_b19) dX8_lasts_75 wV_8_124 (by decide) rfl (Nat.le_of_ble_eq_true rfl) ?_
    refine V_ifb_eq (pc2 := 81) (tgt := 85) dX8_lasts_78 (fun c78 => ?_) (fun c78 => ?_)
    · replace h := iF c78 h
      refine V_aload_n (pc2 := 86) dX8_lasts_85 0 rfl rfl ?_
      refine V_iload_n (pc2 := 87) dX8_lasts_86 1 rfl rfl ?_
      refine V_iconst (v := 0) (pc2 := 88) dX8_lasts_87 (by decide) ?_
      obtain ⟨x20, e_x20, h⟩ := bS h
      obtain ⟨⟨fs_x20, o_x20⟩, e_x20⟩ := cV_of e_x20
      refine V_cVi (pc2 := 91) [.int p0, .int (0 : Int32)] (st := []) o_x20 (tX8_of e_x20) dX8_lasts_88 wV_8_121 (by decide) rfl (Nat.le_of_ble_eq_true rfl) ?_
      refine V_iconst (v := 5) (pc2 := 92) dX8_lasts_91 (by decide) ?_
      refine V_icmp_ne (pc2 := 95) (tgt := 105) dX8_lasts_92 (fun c92 => ?_) (fun c92 => ?_)
      · replace h := iF c92 h
        refine V_iload_n (pc2 := 106) dX8_lasts_105 3 rfl rfl ?_
        obtain ⟨e1, e2⟩ := inj2 h
        subst e1
        subst e2
        exact V_iret dX8_lasts_106 rfl ⟨rfl, rfl⟩
      · replace h := iT c92 h
        refine V_iload_n (pc2 := 96) dX8_lasts_95 3 rfl rfl ?_
        refine V_if_le (pc2 := 99) (tgt := 105) dX8_lasts_96 (fun c96 => ?_) (fun c96 => ?_)
        · replace h := iT c96 h
          refine V_iload_n (pc2 := 106) dX8_lasts_105 3 rfl rfl ?_
          obtain ⟨e1, e2⟩ := inj2 h
          subst e1
          subst e2
          exact V_iret dX8_lasts_106 rfl ⟨rfl, rfl⟩
        · replace h := iF c96 h
          refine V_iload_n (pc2 := 100) dX8_lasts_99 3 rfl rfl ?_
          refine V_iconst (v := 1) (pc2 := 101) dX8_lasts_100 (by decide) ?_
          refine V_isub (pc2 := 102) dX8_lasts_101 ?_
          refine V_goto (tgt := 106) dX8_lasts_102 ?_
          obtain ⟨e1, e2⟩ := inj2 h
          subst e1
          subst e2
          exact V_iret dX8_lasts_106 rfl ⟨rfl, rfl⟩
    · replace h := iT c78 h
      refine V_iload_n (pc2 := 82) dX8_lasts_81 3 rfl rfl ?_
      refine V_iload_n (pc2 := 83) dX8_lasts_82 2 rfl rfl ?_
      refine V_iadd (pc2 := 84) dX8_lasts_83 ?_
      obtain ⟨e1, e2⟩ := inj2 h
      subst e1
      subst e2
      exact V_iret dX8_lasts_84 rfl ⟨rfl, rfl⟩
  clear h
  have h := hb
  clear hb
  refine V_if_lt (pc2 := 19) (tgt := 73) dX8_lasts_16 (fun c16 => ?_) (fun c16 => ?_)
  · replace h := iT c16 h
    obtain ⟨e1, e2⟩ := inj2 h
    subst e1
    subst e2
    exact V_lv hJ73 [2, 3, 4, 1] rfl
  · replace h := iF c16 h
    refine V_aload_n (pc2 := 20) dX8_lasts_19 2 rfl rfl ?_
    obtain ⟨r3, e_r3, h⟩ := bS h
    refine V_gR (pc2 := 23) e_r3 dX8_lasts_20 wF_8_49 ?_
    refine V_bipush (v := 115) (pc2 := 25) dX8_lasts_23 (by decide) ?_
    refine V_aload_n (pc2 := 26) dX8_lasts_25 2 rfl rfl ?_
    refine V_iload_n (pc2 := 27) dX8_lasts_26 3 rfl rfl ?_
    refine V_iconst (v := 1) (pc2 := 28) dX8_lasts_27 (by decide) ?_
    obtain ⟨x4, e_x4, h⟩ := bS h
    obtain ⟨⟨fs_x4, o_x4⟩, e_x4⟩ := cV_of e_x4
    refine V_cVi (pc2 := 31) [.int p0, .int (1 : Int32)] (st := [.int (115 : Int32), .ref r3]) o_x4 (tX8_of e_x4) dX8_lasts_28 wV_8_121 (by decide) rfl (Nat.le_of_ble_eq_true rfl) ?_
    obtain ⟨m5, e_m5, h⟩ := bS h
    refine V_stI (pc2 := 32) e_m5 dX8_lasts_31 ?_
    refine V_aload_n (pc2 := 33) dX8_lasts_32 2 rfl rfl ?_
    obtain ⟨r6, e_r6, h⟩ := bS h
    refine V_gR (pc2 := 36) e_r6 dX8_lasts_33 wF_8_49 ?_
    refine V_bipush (v := 112) (pc2 := 38) dX8_lasts_36 (by decide) ?_
    refine V_aload_n (pc2 := 39) dX8_lasts_38 2 rfl rfl ?_
    obtain ⟨r7, e_r7, h⟩ := bS h
    refine V_gR (pc2 := 42) e_r7 dX8_lasts_39 wF_8_7 ?_
    refine V_iconst (v := 4) (pc2 := 43) dX8_lasts_42 (by decide) ?_
    obtain ⟨x8, e_x8, h⟩ := bS h
    refine V_ldI (pc2 := 44) e_x8 dX8_lasts_43 ?_
    obtain ⟨m9, e_m9, h⟩ := bS h
    refine V_stI (pc2 := 45) e_m9 dX8_lasts_44 ?_
    refine V_aload_n (pc2 := 46) dX8_lasts_45 2 rfl rfl ?_
    obtain ⟨r10, e_r10, h⟩ := bS h
    refine V_gR (pc2 := 49) e_r10 dX8_lasts_46 wF_8_49 ?_
    refine V_bipush (v := 116) (pc2 := 51) dX8_lasts_49 (by decide) ?_
    refine V_aload_n (pc2 := 52) dX8_lasts_51 2 rfl rfl ?_
    obtain ⟨r11, e_r11, h⟩ := bS h
    refine V_gR (pc2 := 55) e_r11 dX8_lasts_52 wF_8_7 ?_
    refine V_bipush (v := 8) (pc2 := 57) dX8_lasts_55 (by decide) ?_
    obtain ⟨x12, e_x12, h⟩ := bS h
    refine V_ldI (pc2 := 58) e_x12 dX8_lasts_57 ?_
    obtain ⟨m13, e_m13, h⟩ := bS h
    refine V_stI (pc2 := 59) e_m13 dX8_lasts_58 ?_
    refine V_aload_n (pc2 := 60) dX8_lasts_59 2 rfl rfl ?_
    refine V_iload (pc2 := 62) dX8_lasts_60 0 rfl ?_
    obtain ⟨⟨x14, m15⟩, e_x14, h⟩ := bS h
    try dsimp only at h
    obtain ⟨⟨fs_x14, o_x14⟩, e_x14⟩ := cV_of e_x14
    refine V_cVi (pc2 := 65) [.int x2] (st := []) o_x14 (tX8_worked e_x14) dX8_lasts_62 wV_8_89 (by decide) rfl (Nat.le_of_ble_eq_true rfl) ?_
    refine V_iconst (v := 0) (pc2 := 66) dX8_lasts_65 (by decide) ?_
    refine V_sipush (v := 999) (pc2 := 69) dX8_lasts_66 (by decide) ?_
    obtain ⟨x16, e_x16, h⟩ := bS h
    refine V_cSi (pc2 := 72) [.int x14, .int (0 : Int32), .int (999 : Int32)] (st := []) (tX8_held e_x16) dX8_lasts_69 wS_8_92 (by decide) rfl (Nat.le_of_ble_eq_true rfl) ?_
    refine V_istore_n (pc2 := 73) (L2 := [(3, .int x16), (4, .int x2), (0, .ref a0), (1, .int p0), (2, .int p1)]) dX8_lasts_72 ?_ rfl rfl rfl
    obtain ⟨e1, e2⟩ := inj2 h
    subst e1
    subst e2
    exact V_lv hJ73 [2, 3, 4, 0] rfl
noncomputable def fX8_worth (a0 : Nat) (p0 : Int32) (m : Mem) : Option (Int32) :=
  (cV m a0 8 (fX8_of a0 p0 (1 : Int32) m)).bind fun x1 =>
  (cV m a0 8 (fX8_of a0 p0 (0 : Int32) m)).bind fun x2 =>
  if x2 = (1 : Int32) then
    some (x1 + (9 : Int32))
  else if x2 = (2 : Int32) then
    some ((99 : Int32) - x1)
  else if x2 = (3 : Int32) then
    some ((2 : Int32) * (x1 + (9 : Int32)))
  else if x2 = (4 : Int32) then
    some ((94 : Int32) - x1)
  else if x2 = (5 : Int32) then
    some (4 : Int32)
  else 
    some x1
set_option maxRecDepth 20000 in
theorem tX8_worth {D : Dat} {a0 : Nat} {p0 : Int32} {m : Mem} {rR : Int32} (h : fX8_worth a0 p0 m = some rR) : T D 1 IX8_worth [.ref a0, .int p0] m 0 0 (Qi rR m) := by
  refine T_of_V (by decide) (Nat.le_of_ble_eq_true rfl) ?_
  show V D 1 IX8_worth 0 [(0, .ref a0), (1, .int p0)] [] m 0 0 (Qi rR m)
  unfold fX8_worth at h
  refine V_aload_n (pc2 := 1) dX8_worth_0 0 rfl rfl ?_
  refine V_iload_n (pc2 := 2) dX8_worth_1 1 rfl rfl ?_
  refine V_iconst (v := 1) (pc2 := 3) dX8_worth_2 (by decide) ?_
  obtain ⟨x1, e_x1, h⟩ := bS h
  obtain ⟨⟨fs_x1, o_x1⟩, e_x1⟩ := cV_of e_x1
  refine V_cVi (pc2 := 6) [.int p0, .int (1 : Int32)] (st := []) o_x1 (tX8_of e_x1) dX8_worth_3 wV_8_121 (by decide) rfl (Nat.le_of_ble_eq_true rfl) ?_
  refine V_istore_n (pc2 := 7) (L2 := [(2, .int x1), (0, .ref a0), (1, .int p0)]) dX8_worth_6 ?_ rfl rfl rfl
  refine V_aload_n (pc2 := 8) dX8_worth_7 1 rfl rfl ?_
  refine V_iload_n (pc2 := 9) dX8_worth_8 2 rfl rfl ?_
  refine V_iconst (v := 0) (pc2 := 10) dX8_worth_9 (by decide) ?_
  obtain ⟨x2, e_x2, h⟩ := bS h
  obtain ⟨⟨fs_x2, o_x2⟩, e_x2⟩ := cV_of e_x2
  refine V_cVi (pc2 := 13) [.int p0, .int (0 : Int32)] (st := []) o_x2 (tX8_of e_x2) dX8_worth_10 wV_8_121 (by decide) rfl (Nat.le_of_ble_eq_true rfl) ?_
  by_cases c13_0 : x2 = (1 : Int32)
  · replace h := iT c13_0 h
    refine V_table (off := 35) (tgt := 48) dX8_worth_13 (by rw [c13_0]; decide) ?_
    refine V_iload_n (pc2 := 49) dX8_worth_48 0 rfl rfl ?_
    refine V_bipush (v := 9) (pc2 := 51) dX8_worth_49 (by decide) ?_
    refine V_iadd (pc2 := 52) dX8_worth_51 ?_
    have e1 := inj1 h
    subst e1
    exact V_iret dX8_worth_52 rfl ⟨rfl, rfl⟩
  replace h := iF c13_0 h
  by_cases c13_1 : x2 = (2 : Int32)
  · replace h := iT c13_1 h
    refine V_table (off := 40) (tgt := 53) dX8_worth_13 (by rw [c13_1]; decide) ?_
    refine V_bipush (v := 99) (pc2 := 55) dX8_worth_53 (by decide) ?_
    refine V_iload_n (pc2 := 56) dX8_worth_55 0 rfl rfl ?_
    refine V_isub (pc2 := 57) dX8_worth_56 ?_
    have e1 := inj1 h
    subst e1
    exact V_iret dX8_worth_57 rfl ⟨rfl, rfl⟩
  replace h := iF c13_1 h
  by_cases c13_2 : x2 = (3 : Int32)
  · replace h := iT c13_2 h
    refine V_table (off := 45) (tgt := 58) dX8_worth_13 (by rw [c13_2]; decide) ?_
    refine V_iconst (v := 2) (pc2 := 59) dX8_worth_58 (by decide) ?_
    refine V_iload_n (pc2 := 60) dX8_worth_59 0 rfl rfl ?_
    refine V_bipush (v := 9) (pc2 := 62) dX8_worth_60 (by decide) ?_
    refine V_iadd (pc2 := 63) dX8_worth_62 ?_
    refine V_imul (pc2 := 64) dX8_worth_63 ?_
    have e1 := inj1 h
    subst e1
    exact V_iret dX8_worth_64 rfl ⟨rfl, rfl⟩
  replace h := iF c13_2 h
  by_cases c13_3 : x2 = (4 : Int32)
  · replace h := iT c13_3 h
    refine V_table (off := 52) (tgt := 65) dX8_worth_13 (by rw [c13_3]; decide) ?_
    refine V_bipush (v := 94) (pc2 := 67) dX8_worth_65 (by decide) ?_
    refine V_iload_n (pc2 := 68) dX8_worth_67 0 rfl rfl ?_
    refine V_isub (pc2 := 69) dX8_worth_68 ?_
    have e1 := inj1 h
    subst e1
    exact V_iret dX8_worth_69 rfl ⟨rfl, rfl⟩
  replace h := iF c13_3 h
  by_cases c13_4 : x2 = (5 : Int32)
  · replace h := iT c13_4 h
    refine V_table (off := 57) (tgt := 70) dX8_worth_13 (by rw [c13_4]; decide) ?_
    refine V_iconst (v := 4) (pc2 := 71) dX8_worth_70 (by decide) ?_
    have e1 := inj1 h
    subst e1
    exact V_iret dX8_worth_71 rfl ⟨rfl, rfl⟩
  replace h := iF c13_4 h
  refine V_tableD (tgt := 72) dX8_worth_13 (by have g0 := lv_neT c13_0 (show (1 : Int32).toInt = 1 by decide); have g1 := lv_neT c13_1 (show (2 : Int32).toInt = 2 by decide); have g2 := lv_neT c13_2 (show (3 : Int32).toInt = 3 by decide); have g3 := lv_neT c13_3 (show (4 : Int32).toInt = 4 by decide); have g4 := lv_neT c13_4 (show (5 : Int32).toInt = 5 by decide); omega) ?_
  refine V_iload_n (pc2 := 73) dX8_worth_72 0 rfl rfl ?_
  have e1 := inj1 h
  subst e1
  exact V_iret dX8_worth_73 rfl ⟨rfl, rfl⟩
noncomputable def fX8_told (a0 : Nat) (p0 : Int32) (p1 : Int32) (m : Mem) : Option (Int32 × Mem) :=
  (cV m a0 8 (fX8_isStop a0 p0 m)).bind fun b1 =>
  if b1 = true then
    if p1 = (0 : Int32) then
      (cV m a0 8 (fX8_of a0 p0 p1 m)).bind fun x2 =>
      some (x2, m)
    else if p1 = (1 : Int32) then
      (cV m a0 8 (fX8_of a0 p0 p1 m)).bind fun x3 =>
      some (x3, m)
    else if p1 = (2 : Int32) then
      (cV m a0 8 (fX8_of a0 p0 p1 m)).bind fun x4 =>
      some (x4, m)
    else if p1 = (3 : Int32) then
      (cV m a0 8 (fX8_lasts a0 p0 (0 : Int32) m)).bind fun (x5, m6) =>
      some (x5, m6)
    else if p1 = (4 : Int32) then
      (cV m a0 8 (fX8_lasts a0 p0 (9 : Int32) m)).bind fun (x7, m8) =>
      some (x7, m8)
    else if p1 = (5 : Int32) then
      (cV m a0 8 (fX8_worth a0 p0 m)).bind fun x9 =>
      some (x9, m)
    else 
      some ((-1000000001 : Int32), m)
  else
    some ((-1000000001 : Int32), m)
set_option maxRecDepth 20000 in
theorem tX8_told {D : Dat} {a0 : Nat} {p0 : Int32} {p1 : Int32} {m : Mem} {rR : Int32} {mR : Mem} (h : fX8_told a0 p0 p1 m = some (rR, mR)) : T D 3 IX8_told [.ref a0, .int p0, .int p1] m 0 0 (Qi rR mR) := by
  refine T_of_V (by decide) (Nat.le_of_ble_eq_true rfl) ?_
  show V D 3 IX8_told 0 [(0, .ref a0), (1, .int p0), (2, .int p1)] [] m 0 0 (Qi rR mR)
  unfold fX8_told at h
  refine V_aload_n (pc2 := 1) dX8_told_0 0 rfl rfl ?_
  refine V_iload_n (pc2 := 2) dX8_told_1 1 rfl rfl ?_
  obtain ⟨b1, e_b1, h⟩ := bS h
  obtain ⟨⟨fs_b1, o_b1⟩, e_b1⟩ := cV_of e_b1
  refine V_cVi (pc2 := 5) [.int p0] (st := []) o_b1 (tX8_isStop e_b1) dX8_told_2 wV_8_127 (by decide) rfl (Nat.le_of_ble_eq_true rfl) ?_
  refine V_ifb_ne (pc2 := 8) (tgt := 11) dX8_told_5 (fun c5 => ?_) (fun c5 => ?_)
  · replace h := iT c5 h
    refine V_iload_n (pc2 := 12) dX8_told_11 2 rfl rfl ?_
    by_cases c12_0 : p1 = (0 : Int32)
    · replace h := iT c12_0 h
      refine V_table (off := 40) (tgt := 52) dX8_told_12 (by rw [c12_0]; decide) ?_
      refine V_aload_n (pc2 := 53) dX8_told_52 0 rfl rfl ?_
      refine V_iload_n (pc2 := 54) dX8_told_53 1 rfl rfl ?_
      refine V_iload_n (pc2 := 55) dX8_told_54 2 rfl rfl ?_
      obtain ⟨x2, e_x2, h⟩ := bS h
      obtain ⟨⟨fs_x2, o_x2⟩, e_x2⟩ := cV_of e_x2
      refine V_cVi (pc2 := 58) [.int p0, .int p1] (st := []) o_x2 (tX8_of e_x2) dX8_told_55 wV_8_121 (by decide) rfl (Nat.le_of_ble_eq_true rfl) ?_
      obtain ⟨e1, e2⟩ := inj2 h
      subst e1
      subst e2
      exact V_iret dX8_told_58 rfl ⟨rfl, rfl⟩
    replace h := iF c12_0 h
    by_cases c12_1 : p1 = (1 : Int32)
    · replace h := iT c12_1 h
      refine V_table (off := 40) (tgt := 52) dX8_told_12 (by rw [c12_1]; decide) ?_
      refine V_aload_n (pc2 := 53) dX8_told_52 0 rfl rfl ?_
      refine V_iload_n (pc2 := 54) dX8_told_53 1 rfl rfl ?_
      refine V_iload_n (pc2 := 55) dX8_told_54 2 rfl rfl ?_
      obtain ⟨x3, e_x3, h⟩ := bS h
      obtain ⟨⟨fs_x3, o_x3⟩, e_x3⟩ := cV_of e_x3
      refine V_cVi (pc2 := 58) [.int p0, .int p1] (st := []) o_x3 (tX8_of e_x3) dX8_told_55 wV_8_121 (by decide) rfl (Nat.le_of_ble_eq_true rfl) ?_
      obtain ⟨e1, e2⟩ := inj2 h
      subst e1
      subst e2
      exact V_iret dX8_told_58 rfl ⟨rfl, rfl⟩
    replace h := iF c12_1 h
    by_cases c12_2 : p1 = (2 : Int32)
    · replace h := iT c12_2 h
      refine V_table (off := 40) (tgt := 52) dX8_told_12 (by rw [c12_2]; decide) ?_
      refine V_aload_n (pc2 := 53) dX8_told_52 0 rfl rfl ?_
      refine V_iload_n (pc2 := 54) dX8_told_53 1 rfl rfl ?_
      refine V_iload_n (pc2 := 55) dX8_told_54 2 rfl rfl ?_
      obtain ⟨x4, e_x4, h⟩ := bS h
      obtain ⟨⟨fs_x4, o_x4⟩, e_x4⟩ := cV_of e_x4
      refine V_cVi (pc2 := 58) [.int p0, .int p1] (st := []) o_x4 (tX8_of e_x4) dX8_told_55 wV_8_121 (by decide) rfl (Nat.le_of_ble_eq_true rfl) ?_
      obtain ⟨e1, e2⟩ := inj2 h
      subst e1
      subst e2
      exact V_iret dX8_told_58 rfl ⟨rfl, rfl⟩
    replace h := iF c12_2 h
    by_cases c12_3 : p1 = (3 : Int32)
    · replace h := iT c12_3 h
      refine V_table (off := 47) (tgt := 59) dX8_told_12 (by rw [c12_3]; decide) ?_
      refine V_aload_n (pc2 := 60) dX8_told_59 0 rfl rfl ?_
      refine V_iload_n (pc2 := 61) dX8_told_60 1 rfl rfl ?_
      refine V_iconst (v := 0) (pc2 := 62) dX8_told_61 (by decide) ?_
      obtain ⟨⟨x5, m6⟩, e_x5, h⟩ := bS h
      try dsimp only at h
      obtain ⟨⟨fs_x5, o_x5⟩, e_x5⟩ := cV_of e_x5
      refine V_cVi (pc2 := 65) [.int p0, .int (0 : Int32)] (st := []) o_x5 (tX8_lasts e_x5) dX8_told_62 wV_8_130 (by decide) rfl (Nat.le_of_ble_eq_true rfl) ?_
      obtain ⟨e1, e2⟩ := inj2 h
      subst e1
      subst e2
      exact V_iret dX8_told_65 rfl ⟨rfl, rfl⟩
    replace h := iF c12_3 h
    by_cases c12_4 : p1 = (4 : Int32)
    · replace h := iT c12_4 h
      refine V_table (off := 54) (tgt := 66) dX8_told_12 (by rw [c12_4]; decide) ?_
      refine V_aload_n (pc2 := 67) dX8_told_66 0 rfl rfl ?_
      refine V_iload_n (pc2 := 68) dX8_told_67 1 rfl rfl ?_
      refine V_bipush (v := 9) (pc2 := 70) dX8_told_68 (by decide) ?_
      obtain ⟨⟨x7, m8⟩, e_x7, h⟩ := bS h
      try dsimp only at h
      obtain ⟨⟨fs_x7, o_x7⟩, e_x7⟩ := cV_of e_x7
      refine V_cVi (pc2 := 73) [.int p0, .int (9 : Int32)] (st := []) o_x7 (tX8_lasts e_x7) dX8_told_70 wV_8_130 (by decide) rfl (Nat.le_of_ble_eq_true rfl) ?_
      obtain ⟨e1, e2⟩ := inj2 h
      subst e1
      subst e2
      exact V_iret dX8_told_73 rfl ⟨rfl, rfl⟩
    replace h := iF c12_4 h
    by_cases c12_5 : p1 = (5 : Int32)
    · replace h := iT c12_5 h
      refine V_table (off := 62) (tgt := 74) dX8_told_12 (by rw [c12_5]; decide) ?_
      refine V_aload_n (pc2 := 75) dX8_told_74 0 rfl rfl ?_
      refine V_iload_n (pc2 := 76) dX8_told_75 1 rfl rfl ?_
      obtain ⟨x9, e_x9, h⟩ := bS h
      obtain ⟨⟨fs_x9, o_x9⟩, e_x9⟩ := cV_of e_x9
      refine V_cVi (pc2 := 79) [.int p0] (st := []) o_x9 (tX8_worth e_x9) dX8_told_76 wV_8_133 (by decide) rfl (Nat.le_of_ble_eq_true rfl) ?_
      obtain ⟨e1, e2⟩ := inj2 h
      subst e1
      subst e2
      exact V_iret dX8_told_79 rfl ⟨rfl, rfl⟩
    replace h := iF c12_5 h
    refine V_tableD (tgt := 80) dX8_told_12 (by have g0 := lv_neT c12_0 (show (0 : Int32).toInt = 0 by decide); have g1 := lv_neT c12_1 (show (1 : Int32).toInt = 1 by decide); have g2 := lv_neT c12_2 (show (2 : Int32).toInt = 2 by decide); have g3 := lv_neT c12_3 (show (3 : Int32).toInt = 3 by decide); have g4 := lv_neT c12_4 (show (4 : Int32).toInt = 4 by decide); have g5 := lv_neT c12_5 (show (5 : Int32).toInt = 5 by decide); omega) ?_
    refine V_ldc (v := -1000000001) (pc2 := 82) dX8_told_80 wconstant_8_72 ?_
    obtain ⟨e1, e2⟩ := inj2 h
    subst e1
    subst e2
    exact V_iret dX8_told_82 rfl ⟨rfl, rfl⟩
  · replace h := iF c5 h
    refine V_ldc (v := -1000000001) (pc2 := 10) dX8_told_8 wconstant_8_72 ?_
    obtain ⟨e1, e2⟩ := inj2 h
    subst e1
    subst e2
    exact V_iret dX8_told_10 rfl ⟨rfl, rfl⟩
noncomputable def fX8_isOf (p0 : Int32) (p1 : Int32) (m : Mem) : Option (Bool) :=
  if p0 = p1 then
    some true
  else
    if p1 = 0 then
      some true
    else
      if p1 = (1 : Int32) then
        if p0 = (3 : Int32) then
          some true
        else
          if p1 = (2 : Int32) then
            if p0 = (4 : Int32) then
              some true
            else
              some false
          else
            some false
      else
        if p1 = (2 : Int32) then
          if p0 = (4 : Int32) then
            some true
          else
            some false
        else
          some false
set_option maxRecDepth 20000 in
theorem tX8_isOf {D : Dat} {p0 : Int32} {p1 : Int32} {m : Mem} {rR : Bool} (h : fX8_isOf p0 p1 m = some rR) : T D 0 IX8_isOf [.int p0, .int p1] m 0 0 (Qi (zb rR) m) := by
  refine T_of_V (by decide) (Nat.le_of_ble_eq_true rfl) ?_
  show V D 0 IX8_isOf 0 [(0, .int p0), (1, .int p1)] [] m 0 0 (Qi (zb rR) m)
  unfold fX8_isOf at h
  refine V_iload_n (pc2 := 1) dX8_isOf_0 0 rfl rfl ?_
  refine V_iload_n (pc2 := 2) dX8_isOf_1 1 rfl rfl ?_
  refine V_icmp_eq (pc2 := 5) (tgt := 29) dX8_isOf_2 (fun c2 => ?_) (fun c2 => ?_)
  · replace h := iT c2 h
    refine V_iconst (v := 1) (pc2 := 30) dX8_isOf_29 (by decide) ?_
    refine V_goto (tgt := 34) dX8_isOf_30 ?_
    have e1 := inj1 h
    subst e1
    exact V_bret (b := true) dX8_isOf_34 rfl ⟨rfl, rfl⟩
  · replace h := iF c2 h
    refine V_iload_n (pc2 := 6) dX8_isOf_5 1 rfl rfl ?_
    refine V_if_eq (pc2 := 9) (tgt := 29) dX8_isOf_6 (fun c6 => ?_) (fun c6 => ?_)
    · replace h := iT c6 h
      refine V_iconst (v := 1) (pc2 := 30) dX8_isOf_29 (by decide) ?_
      refine V_goto (tgt := 34) dX8_isOf_30 ?_
      have e1 := inj1 h
      subst e1
      exact V_bret (b := true) dX8_isOf_34 rfl ⟨rfl, rfl⟩
    · replace h := iF c6 h
      refine V_iload_n (pc2 := 10) dX8_isOf_9 1 rfl rfl ?_
      refine V_iconst (v := 1) (pc2 := 11) dX8_isOf_10 (by decide) ?_
      refine V_icmp_ne (pc2 := 14) (tgt := 19) dX8_isOf_11 (fun c11 => ?_) (fun c11 => ?_)
      · replace h := iF c11 h
        refine V_iload_n (pc2 := 20) dX8_isOf_19 1 rfl rfl ?_
        refine V_iconst (v := 2) (pc2 := 21) dX8_isOf_20 (by decide) ?_
        refine V_icmp_ne (pc2 := 24) (tgt := 33) dX8_isOf_21 (fun c21 => ?_) (fun c21 => ?_)
        · replace h := iF c21 h
          refine V_iconst (v := 0) (pc2 := 34) dX8_isOf_33 (by decide) ?_
          have e1 := inj1 h
          subst e1
          exact V_bret (b := false) dX8_isOf_34 rfl ⟨rfl, rfl⟩
        · replace h := iT c21 h
          refine V_iload_n (pc2 := 25) dX8_isOf_24 0 rfl rfl ?_
          refine V_iconst (v := 4) (pc2 := 26) dX8_isOf_25 (by decide) ?_
          refine V_icmp_ne (pc2 := 29) (tgt := 33) dX8_isOf_26 (fun c26 => ?_) (fun c26 => ?_)
          · replace h := iF c26 h
            refine V_iconst (v := 0) (pc2 := 34) dX8_isOf_33 (by decide) ?_
            have e1 := inj1 h
            subst e1
            exact V_bret (b := false) dX8_isOf_34 rfl ⟨rfl, rfl⟩
          · replace h := iT c26 h
            refine V_iconst (v := 1) (pc2 := 30) dX8_isOf_29 (by decide) ?_
            refine V_goto (tgt := 34) dX8_isOf_30 ?_
            have e1 := inj1 h
            subst e1
            exact V_bret (b := true) dX8_isOf_34 rfl ⟨rfl, rfl⟩
      · replace h := iT c11 h
        refine V_iload_n (pc2 := 15) dX8_isOf_14 0 rfl rfl ?_
        refine V_iconst (v := 3) (pc2 := 16) dX8_isOf_15 (by decide) ?_
        refine V_icmp_eq (pc2 := 19) (tgt := 29) dX8_isOf_16 (fun c16 => ?_) (fun c16 => ?_)
        · replace h := iT c16 h
          refine V_iconst (v := 1) (pc2 := 30) dX8_isOf_29 (by decide) ?_
          refine V_goto (tgt := 34) dX8_isOf_30 ?_
          have e1 := inj1 h
          subst e1
          exact V_bret (b := true) dX8_isOf_34 rfl ⟨rfl, rfl⟩
        · replace h := iF c16 h
          refine V_iload_n (pc2 := 20) dX8_isOf_19 1 rfl rfl ?_
          refine V_iconst (v := 2) (pc2 := 21) dX8_isOf_20 (by decide) ?_
          refine V_icmp_ne (pc2 := 24) (tgt := 33) dX8_isOf_21 (fun c21 => ?_) (fun c21 => ?_)
          · replace h := iF c21 h
            refine V_iconst (v := 0) (pc2 := 34) dX8_isOf_33 (by decide) ?_
            have e1 := inj1 h
            subst e1
            exact V_bret (b := false) dX8_isOf_34 rfl ⟨rfl, rfl⟩
          · replace h := iT c21 h
            refine V_iload_n (pc2 := 25) dX8_isOf_24 0 rfl rfl ?_
            refine V_iconst (v := 4) (pc2 := 26) dX8_isOf_25 (by decide) ?_
            refine V_icmp_ne (pc2 := 29) (tgt := 33) dX8_isOf_26 (fun c26 => ?_) (fun c26 => ?_)
            · replace h := iF c26 h
              refine V_iconst (v := 0) (pc2 := 34) dX8_isOf_33 (by decide) ?_
              have e1 := inj1 h
              subst e1
              exact V_bret (b := false) dX8_isOf_34 rfl ⟨rfl, rfl⟩
            · replace h := iT c26 h
              refine V_iconst (v := 1) (pc2 := 30) dX8_isOf_29 (by decide) ?_
              refine V_goto (tgt := 34) dX8_isOf_30 ?_
              have e1 := inj1 h
              subst e1
              exact V_bret (b := true) dX8_isOf_34 rfl ⟨rfl, rfl⟩
noncomputable def fX8_as (a0 : Nat) (p0 : Int32) (p1 : Int32) (m : Mem) : Option (Int32) :=
  (cV m a0 8 (fX8_isStop a0 p0 m)).bind fun b1 =>
  if b1 = true then
    (fX8_isIn p1.toInt64 (0 : Int64) (5 : Int64) m).bind fun b2 =>
    if b2 = true then
      (cV m a0 8 (fX8_of a0 p0 (0 : Int32) m)).bind fun x3 =>
      (fX8_isOf x3 p1 m).bind fun b4 =>
      if b4 = true then
        (cV m a0 8 (fX8_of a0 p0 (1 : Int32) m)).bind fun x5 =>
        some x5
      else
        some (-1000000012 : Int32)
    else
      some (-1000000001 : Int32)
  else
    some (-1000000001 : Int32)
set_option maxRecDepth 20000 in
theorem tX8_as {D : Dat} {a0 : Nat} {p0 : Int32} {p1 : Int32} {m : Mem} {rR : Int32} (h : fX8_as a0 p0 p1 m = some rR) : T D 2 IX8_as [.ref a0, .int p0, .int p1] m 0 0 (Qi rR m) := by
  refine T_of_V (by decide) (Nat.le_of_ble_eq_true rfl) ?_
  show V D 2 IX8_as 0 [(0, .ref a0), (1, .int p0), (2, .int p1)] [] m 0 0 (Qi rR m)
  unfold fX8_as at h
  refine V_aload_n (pc2 := 1) dX8_as_0 0 rfl rfl ?_
  refine V_iload_n (pc2 := 2) dX8_as_1 1 rfl rfl ?_
  obtain ⟨b1, e_b1, h⟩ := bS h
  obtain ⟨⟨fs_b1, o_b1⟩, e_b1⟩ := cV_of e_b1
  refine V_cVi (pc2 := 5) [.int p0] (st := []) o_b1 (tX8_isStop e_b1) dX8_as_2 wV_8_127 (by decide) rfl (Nat.le_of_ble_eq_true rfl) ?_
  refine V_ifb_eq (pc2 := 8) (tgt := 20) dX8_as_5 (fun c5 => ?_) (fun c5 => ?_)
  · replace h := iF c5 h
    refine V_ldc (v := -1000000001) (pc2 := 22) dX8_as_20 wconstant_8_72 ?_
    have e1 := inj1 h
    subst e1
    exact V_iret dX8_as_22 rfl ⟨rfl, rfl⟩
  · replace h := iT c5 h
    refine V_iload_n (pc2 := 9) dX8_as_8 2 rfl rfl ?_
    refine V_i2l (pc2 := 10) dX8_as_9 rfl ?_
    refine V_lconst (v := 0) (pc2 := 11) dX8_as_10 (by decide) ?_
    refine V_ldc2 (v := 5) (pc2 := 14) dX8_as_11 wconstantLong_8_115 ?_
    obtain ⟨b2, e_b2, h⟩ := bS h
    refine V_cSi (pc2 := 17) [.long p1.toInt64, .long (0 : Int64), .long (5 : Int64)] (st := []) (tX8_isIn e_b2) dX8_as_14 wS_8_65 (by decide) rfl (Nat.le_of_ble_eq_true rfl) ?_
    refine V_ifb_ne (pc2 := 20) (tgt := 23) dX8_as_17 (fun c17 => ?_) (fun c17 => ?_)
    · replace h := iT c17 h
      refine V_aload_n (pc2 := 24) dX8_as_23 0 rfl rfl ?_
      refine V_iload_n (pc2 := 25) dX8_as_24 1 rfl rfl ?_
      refine V_iconst (v := 0) (pc2 := 26) dX8_as_25 (by decide) ?_
      obtain ⟨x3, e_x3, h⟩ := bS h
      obtain ⟨⟨fs_x3, o_x3⟩, e_x3⟩ := cV_of e_x3
      refine V_cVi (pc2 := 29) [.int p0, .int (0 : Int32)] (st := []) o_x3 (tX8_of e_x3) dX8_as_26 wV_8_121 (by decide) rfl (Nat.le_of_ble_eq_true rfl) ?_
      refine V_iload_n (pc2 := 30) dX8_as_29 2 rfl rfl ?_
      obtain ⟨b4, e_b4, h⟩ := bS h
      refine V_cSi (pc2 := 33) [.int x3, .int p1] (st := []) (tX8_isOf e_b4) dX8_as_30 wS_8_136 (by decide) rfl (Nat.le_of_ble_eq_true rfl) ?_
      refine V_ifb_eq (pc2 := 36) (tgt := 45) dX8_as_33 (fun c33 => ?_) (fun c33 => ?_)
      · replace h := iF c33 h
        refine V_ldc (v := -1000000012) (pc2 := 47) dX8_as_45 wconstant_8_140 ?_
        have e1 := inj1 h
        subst e1
        exact V_iret dX8_as_47 rfl ⟨rfl, rfl⟩
      · replace h := iT c33 h
        refine V_aload_n (pc2 := 37) dX8_as_36 0 rfl rfl ?_
        refine V_iload_n (pc2 := 38) dX8_as_37 1 rfl rfl ?_
        refine V_iconst (v := 1) (pc2 := 39) dX8_as_38 (by decide) ?_
        obtain ⟨x5, e_x5, h⟩ := bS h
        obtain ⟨⟨fs_x5, o_x5⟩, e_x5⟩ := cV_of e_x5
        refine V_cVi (pc2 := 42) [.int p0, .int (1 : Int32)] (st := []) o_x5 (tX8_of e_x5) dX8_as_39 wV_8_121 (by decide) rfl (Nat.le_of_ble_eq_true rfl) ?_
        refine V_goto (tgt := 47) dX8_as_42 ?_
        have e1 := inj1 h
        subst e1
        exact V_iret dX8_as_47 rfl ⟨rfl, rfl⟩
    · replace h := iF c17 h
      refine V_ldc (v := -1000000001) (pc2 := 22) dX8_as_20 wconstant_8_72 ?_
      have e1 := inj1 h
      subst e1
      exact V_iret dX8_as_22 rfl ⟨rfl, rfl⟩
noncomputable def fX8_turns (a0 : Nat) (p0 : Int32) (p1 : Int32) (m : Mem) : Option (Int32 × Mem) :=
  (cV m a0 8 (fX8_isStop a0 p0 m)).bind fun b1 =>
  if b1 = true then
    (fX8_isIn p1.toInt64 (0 : Int64) (5 : Int64) m).bind fun b2 =>
    if b2 = true then
      (cV m a0 8 (fX8_becomes a0 ((42 : Int32) + ((3 : Int32) * p0)) p1 m)).bind fun (x3, m4) =>
      some (x3, m4)
    else
      some ((-1000000001 : Int32), m)
  else
    some ((-1000000001 : Int32), m)
set_option maxRecDepth 20000 in
theorem tX8_turns {D : Dat} {a0 : Nat} {p0 : Int32} {p1 : Int32} {m : Mem} {rR : Int32} {mR : Mem} (h : fX8_turns a0 p0 p1 m = some (rR, mR)) : T D 2 IX8_turns [.ref a0, .int p0, .int p1] m 0 0 (Qi rR mR) := by
  refine T_of_V (by decide) (Nat.le_of_ble_eq_true rfl) ?_
  show V D 2 IX8_turns 0 [(0, .ref a0), (1, .int p0), (2, .int p1)] [] m 0 0 (Qi rR mR)
  unfold fX8_turns at h
  refine V_aload_n (pc2 := 1) dX8_turns_0 0 rfl rfl ?_
  refine V_iload_n (pc2 := 2) dX8_turns_1 1 rfl rfl ?_
  obtain ⟨b1, e_b1, h⟩ := bS h
  obtain ⟨⟨fs_b1, o_b1⟩, e_b1⟩ := cV_of e_b1
  refine V_cVi (pc2 := 5) [.int p0] (st := []) o_b1 (tX8_isStop e_b1) dX8_turns_2 wV_8_127 (by decide) rfl (Nat.le_of_ble_eq_true rfl) ?_
  refine V_ifb_eq (pc2 := 8) (tgt := 34) dX8_turns_5 (fun c5 => ?_) (fun c5 => ?_)
  · replace h := iF c5 h
    refine V_ldc (v := -1000000001) (pc2 := 36) dX8_turns_34 wconstant_8_72 ?_
    obtain ⟨e1, e2⟩ := inj2 h
    subst e1
    subst e2
    exact V_iret dX8_turns_36 rfl ⟨rfl, rfl⟩
  · replace h := iT c5 h
    refine V_iload_n (pc2 := 9) dX8_turns_8 2 rfl rfl ?_
    refine V_i2l (pc2 := 10) dX8_turns_9 rfl ?_
    refine V_lconst (v := 0) (pc2 := 11) dX8_turns_10 (by decide) ?_
    refine V_ldc2 (v := 5) (pc2 := 14) dX8_turns_11 wconstantLong_8_115 ?_
    obtain ⟨b2, e_b2, h⟩ := bS h
    refine V_cSi (pc2 := 17) [.long p1.toInt64, .long (0 : Int64), .long (5 : Int64)] (st := []) (tX8_isIn e_b2) dX8_turns_14 wS_8_65 (by decide) rfl (Nat.le_of_ble_eq_true rfl) ?_
    refine V_ifb_eq (pc2 := 20) (tgt := 34) dX8_turns_17 (fun c17 => ?_) (fun c17 => ?_)
    · replace h := iF c17 h
      refine V_ldc (v := -1000000001) (pc2 := 36) dX8_turns_34 wconstant_8_72 ?_
      obtain ⟨e1, e2⟩ := inj2 h
      subst e1
      subst e2
      exact V_iret dX8_turns_36 rfl ⟨rfl, rfl⟩
    · replace h := iT c17 h
      refine V_aload_n (pc2 := 21) dX8_turns_20 0 rfl rfl ?_
      refine V_bipush (v := 42) (pc2 := 23) dX8_turns_21 (by decide) ?_
      refine V_iconst (v := 3) (pc2 := 24) dX8_turns_23 (by decide) ?_
      refine V_iload_n (pc2 := 25) dX8_turns_24 1 rfl rfl ?_
      refine V_imul (pc2 := 26) dX8_turns_25 ?_
      refine V_iadd (pc2 := 27) dX8_turns_26 ?_
      refine V_iload_n (pc2 := 28) dX8_turns_27 2 rfl rfl ?_
      obtain ⟨⟨x3, m4⟩, e_x3, h⟩ := bS h
      try dsimp only at h
      obtain ⟨⟨fs_x3, o_x3⟩, e_x3⟩ := cV_of e_x3
      refine V_cVi (pc2 := 31) [.int ((42 : Int32) + ((3 : Int32) * p0)), .int p1] (st := []) o_x3 (tX8_becomes e_x3) dX8_turns_28 wV_8_112 (by decide) rfl (Nat.le_of_ble_eq_true rfl) ?_
      refine V_goto (tgt := 36) dX8_turns_31 ?_
      obtain ⟨e1, e2⟩ := inj2 h
      subst e1
      subst e2
      exact V_iret dX8_turns_36 rfl ⟨rfl, rfl⟩
noncomputable def fX8_set (a0 : Nat) (p0 : Int32) (p1 : Int32) (p2 : Int32) (m : Mem) : Option (Int32 × Mem) :=
  (cV m a0 8 (fX8_isStop a0 p0 m)).bind fun b1 =>
  if b1 = true then
    (fX8_isIn p1.toInt64 (1 : Int64) (2 : Int64) m).bind fun b2 =>
    if b2 = true then
      (
        if p1 = (1 : Int32) then
          some (99 : Int64)
        else
          some (9 : Int64)).bind fun l3 =>
      (fX8_isIn p2.toInt64 (0 : Int64) l3 m).bind fun b4 =>
      if b4 = true then
        (cV m a0 8 (fX8_becomes a0 (((42 : Int32) + ((3 : Int32) * p0)) + p1) p2 m)).bind fun (x5, m6) =>
        some (x5, m6)
      else
        some ((-1000000001 : Int32), m)
    else
      some ((-1000000001 : Int32), m)
  else
    some ((-1000000001 : Int32), m)
set_option maxRecDepth 20000 in
theorem tX8_set {D : Dat} {a0 : Nat} {p0 : Int32} {p1 : Int32} {p2 : Int32} {m : Mem} {rR : Int32} {mR : Mem} (h : fX8_set a0 p0 p1 p2 m = some (rR, mR)) : T D 2 IX8_set [.ref a0, .int p0, .int p1, .int p2] m 0 0 (Qi rR mR) := by
  refine T_of_V (by decide) (Nat.le_of_ble_eq_true rfl) ?_
  show V D 2 IX8_set 0 [(0, .ref a0), (1, .int p0), (2, .int p1), (3, .int p2)] [] m 0 0 (Qi rR mR)
  unfold fX8_set at h
  refine V_aload_n (pc2 := 1) dX8_set_0 0 rfl rfl ?_
  refine V_iload_n (pc2 := 2) dX8_set_1 1 rfl rfl ?_
  obtain ⟨b1, e_b1, h⟩ := bS h
  obtain ⟨⟨fs_b1, o_b1⟩, e_b1⟩ := cV_of e_b1
  refine V_cVi (pc2 := 5) [.int p0] (st := []) o_b1 (tX8_isStop e_b1) dX8_set_2 wV_8_127 (by decide) rfl (Nat.le_of_ble_eq_true rfl) ?_
  refine V_ifb_eq (pc2 := 8) (tgt := 43) dX8_set_5 (fun c5 => ?_) (fun c5 => ?_)
  · replace h := iF c5 h
    refine V_ldc (v := -1000000001) (pc2 := 45) dX8_set_43 wconstant_8_72 ?_
    obtain ⟨e1, e2⟩ := inj2 h
    subst e1
    subst e2
    exact V_iret dX8_set_45 rfl ⟨rfl, rfl⟩
  · replace h := iT c5 h
    refine V_iload_n (pc2 := 9) dX8_set_8 2 rfl rfl ?_
    refine V_i2l (pc2 := 10) dX8_set_9 rfl ?_
    refine V_lconst (v := 1) (pc2 := 11) dX8_set_10 (by decide) ?_
    refine V_ldc2 (v := 2) (pc2 := 14) dX8_set_11 wconstantLong_8_108 ?_
    obtain ⟨b2, e_b2, h⟩ := bS h
    refine V_cSi (pc2 := 17) [.long p1.toInt64, .long (1 : Int64), .long (2 : Int64)] (st := []) (tX8_isIn e_b2) dX8_set_14 wS_8_65 (by decide) rfl (Nat.le_of_ble_eq_true rfl) ?_
    refine V_ifb_eq (pc2 := 20) (tgt := 43) dX8_set_17 (fun c17 => ?_) (fun c17 => ?_)
    · replace h := iF c17 h
      refine V_ldc (v := -1000000001) (pc2 := 45) dX8_set_43 wconstant_8_72 ?_
      obtain ⟨e1, e2⟩ := inj2 h
      subst e1
      subst e2
      exact V_iret dX8_set_45 rfl ⟨rfl, rfl⟩
    · replace h := iT c17 h
      refine V_iload_n (pc2 := 21) dX8_set_20 3 rfl rfl ?_
      refine V_i2l (pc2 := 22) dX8_set_21 rfl ?_
      refine V_lconst (v := 0) (pc2 := 23) dX8_set_22 (by decide) ?_
      refine V_iload_n (pc2 := 24) dX8_set_23 2 rfl rfl ?_
      refine V_iconst (v := 1) (pc2 := 25) dX8_set_24 (by decide) ?_
      obtain ⟨l3, hb, h⟩ := bS h
      have hJ37 : V D 2 IX8_set 37 [(0, .ref a0), (1, .int p0), (2, .int p1), (3, .int p2)] [.long l3, .long (0 : Int64), .long p2.toInt64] m 0 0 (Qi rR mR) := by
        obtain ⟨b4, e_b4, h⟩ := bS h
        refine V_cSi (pc2 := 40) [.long p2.toInt64, .long (0 : Int64), .long l3] (st := []) (tX8_isIn e_b4) dX8_set_37 wS_8_65 (by decide) rfl (Nat.le_of_ble_eq_true rfl) ?_
        refine V_ifb_ne (pc2 := 43) (tgt := 46) dX8_set_40 (fun c40 => ?_) (fun c40 => ?_)
        · replace h := iT c40 h
          refine V_aload_n (pc2 := 47) dX8_set_46 0 rfl rfl ?_
          refine V_bipush (v := 42) (pc2 := 49) dX8_set_47 (by decide) ?_
          refine V_iconst (v := 3) (pc2 := 50) dX8_set_49 (by decide) ?_
          refine V_iload_n (pc2 := 51) dX8_set_50 1 rfl rfl ?_
          refine V_imul (pc2 := 52) dX8_set_51 ?_
          refine V_iadd (pc2 := 53) dX8_set_52 ?_
          refine V_iload_n (pc2 := 54) dX8_set_53 2 rfl rfl ?_
          refine V_iadd (pc2 := 55) dX8_set_54 ?_
          refine V_iload_n (pc2 := 56) dX8_set_55 3 rfl rfl ?_
          obtain ⟨⟨x5, m6⟩, e_x5, h⟩ := bS h
          try dsimp only at h
          obtain ⟨⟨fs_x5, o_x5⟩, e_x5⟩ := cV_of e_x5
          refine V_cVi (pc2 := 59) [.int (((42 : Int32) + ((3 : Int32) * p0)) + p1), .int p2] (st := []) o_x5 (tX8_becomes e_x5) dX8_set_56 wV_8_112 (by decide) rfl (Nat.le_of_ble_eq_true rfl) ?_
          obtain ⟨e1, e2⟩ := inj2 h
          subst e1
          subst e2
          exact V_iret dX8_set_59 rfl ⟨rfl, rfl⟩
        · replace h := iF c40 h
          refine V_ldc (v := -1000000001) (pc2 := 45) dX8_set_43 wconstant_8_72 ?_
          obtain ⟨e1, e2⟩ := inj2 h
          subst e1
          subst e2
          exact V_iret dX8_set_45 rfl ⟨rfl, rfl⟩
      clear h
      have h := hb
      clear hb
      refine V_icmp_ne (pc2 := 28) (tgt := 34) dX8_set_25 (fun c25 => ?_) (fun c25 => ?_)
      · replace h := iF c25 h
        refine V_ldc2 (v := 9) (pc2 := 37) dX8_set_34 wconstantLong_8_70 ?_
        have e1 := inj1 h
        subst e1
        exact hJ37
      · replace h := iT c25 h
        refine V_ldc2 (v := 99) (pc2 := 31) dX8_set_28 wconstantLong_8_110 ?_
        refine V_goto (tgt := 37) dX8_set_31 ?_
        have e1 := inj1 h
        subst e1
        exact hJ37
noncomputable def fX8_drawn (a0 : Nat) (m : Mem) : Option (Int32 × Mem) :=
  (gR m a0 8 0).bind fun r1 =>
  (gR m a0 8 0).bind fun r2 =>
  (ldI m r2 (11 : Int32)).bind fun x3 =>
  (stI m r1 (11 : Int32) ((x3 * (1103515245 : Int32)) + (12345 : Int32))).bind fun m4 =>
  (gR m4 a0 8 0).bind fun r5 =>
  (ldI m4 r5 (11 : Int32)).bind fun x6 =>
  some ((x6.toUInt32 >>> ((8 : Int32).toUInt32 &&& Int32.toUInt32 31)).toInt32, m4)
set_option maxRecDepth 20000 in
theorem tX8_drawn {D : Dat} {a0 : Nat} {m : Mem} {rR : Int32} {mR : Mem} (h : fX8_drawn a0 m = some (rR, mR)) : T D 0 IX8_drawn [.ref a0] m 0 0 (Qi rR mR) := by
  refine T_of_V (by decide) (Nat.le_of_ble_eq_true rfl) ?_
  show V D 0 IX8_drawn 0 [(0, .ref a0)] [] m 0 0 (Qi rR mR)
  unfold fX8_drawn at h
  refine V_aload_n (pc2 := 1) dX8_drawn_0 0 rfl rfl ?_
  obtain ⟨r1, e_r1, h⟩ := bS h
  refine V_gR (pc2 := 4) e_r1 dX8_drawn_1 wF_8_7 ?_
  refine V_bipush (v := 11) (pc2 := 6) dX8_drawn_4 (by decide) ?_
  refine V_aload_n (pc2 := 7) dX8_drawn_6 0 rfl rfl ?_
  obtain ⟨r2, e_r2, h⟩ := bS h
  refine V_gR (pc2 := 10) e_r2 dX8_drawn_7 wF_8_7 ?_
  refine V_bipush (v := 11) (pc2 := 12) dX8_drawn_10 (by decide) ?_
  obtain ⟨x3, e_x3, h⟩ := bS h
  refine V_ldI (pc2 := 13) e_x3 dX8_drawn_12 ?_
  refine V_ldc (v := 1103515245) (pc2 := 15) dX8_drawn_13 wconstant_8_69 ?_
  refine V_imul (pc2 := 16) dX8_drawn_15 ?_
  refine V_sipush (v := 12345) (pc2 := 19) dX8_drawn_16 (by decide) ?_
  refine V_iadd (pc2 := 20) dX8_drawn_19 ?_
  obtain ⟨m4, e_m4, h⟩ := bS h
  refine V_stI (pc2 := 21) e_m4 dX8_drawn_20 ?_
  refine V_aload_n (pc2 := 22) dX8_drawn_21 0 rfl rfl ?_
  obtain ⟨r5, e_r5, h⟩ := bS h
  refine V_gR (pc2 := 25) e_r5 dX8_drawn_22 wF_8_7 ?_
  refine V_bipush (v := 11) (pc2 := 27) dX8_drawn_25 (by decide) ?_
  obtain ⟨x6, e_x6, h⟩ := bS h
  refine V_ldI (pc2 := 28) e_x6 dX8_drawn_27 ?_
  refine V_bipush (v := 8) (pc2 := 30) dX8_drawn_28 (by decide) ?_
  refine V_iushr (pc2 := 31) dX8_drawn_30 rfl ?_
  obtain ⟨e1, e2⟩ := inj2 h
  subst e1
  subst e2
  exact V_iret dX8_drawn_31 rfl ⟨rfl, rfl⟩
noncomputable def fX8_deal_b0 (a0 : Nat) (p0 : Int32) : Int32 × Mem → Option ((Int32 × Mem) ⊕ (Int32 × Mem)) := fun (y2, m3) =>
  if p0 ≤ y2 then
    some (.inr (y2, m3))
  else
    (gR m3 a0 8 0).bind fun r4 =>
    (ldI m3 r4 (1 : Int32)).bind fun x5 =>
    if (10 : Int32) ≤ x5 then
      some (.inr (y2, m3))
    else
      (cV m3 a0 8 (fX8_drawn a0 m3)).bind fun (x6, m7) =>
      (rmI x6 (6 : Int32)).bind fun x8 =>
      (cV m7 a0 8 (fX8_drawn a0 m7)).bind fun (x9, m10) =>
      (rmI x9 (60 : Int32)).bind fun x11 =>
      (cV m10 a0 8 (fX8_drawn a0 m10)).bind fun (x12, m13) =>
      (rmI x12 (10 : Int32)).bind fun x14 =>
      (cV m13 a0 8 (fX8_comes a0 x8 x11 x14 m13)).bind fun m15 =>
      some (.inl (y2 + (1 : Int32), m15))
noncomputable def fX8_deal (a0 : Nat) (p0 : Int32) (m : Mem) : Option (Int32 × Mem) :=
  (fX8_isIn p0.toInt64 (1 : Int64) (10 : Int64) m).bind fun b1 =>
  if b1 = true then
    (loopF (fX8_deal_b0 a0 p0) bigN ((0 : Int32), m)).bind fun (y16, m17) =>
    some (y16, m17)
  else
    some ((-1000000001 : Int32), m)
set_option maxRecDepth 20000 in
theorem tX8_deal {D : Dat} {a0 : Nat} {p0 : Int32} {m : Mem} {rR : Int32} {mR : Mem} (h : fX8_deal a0 p0 m = some (rR, mR)) : T D 1 IX8_deal [.ref a0, .int p0] m 0 0 (Qi rR mR) := by
  refine T_of_V (by decide) (Nat.le_of_ble_eq_true rfl) ?_
  show V D 1 IX8_deal 0 [(0, .ref a0), (1, .int p0)] [] m 0 0 (Qi rR mR)
  unfold fX8_deal at h
  refine V_iload_n (pc2 := 1) dX8_deal_0 1 rfl rfl ?_
  refine V_i2l (pc2 := 2) dX8_deal_1 rfl ?_
  refine V_lconst (v := 1) (pc2 := 3) dX8_deal_2 (by decide) ?_
  refine V_ldc2 (v := 10) (pc2 := 6) dX8_deal_3 wconstantLong_8_141 ?_
  obtain ⟨b1, e_b1, h⟩ := bS h
  refine V_cSi (pc2 := 9) [.long p0.toInt64, .long (1 : Int64), .long (10 : Int64)] (st := []) (tX8_isIn e_b1) dX8_deal_6 wS_8_65 (by decide) rfl (Nat.le_of_ble_eq_true rfl) ?_
  refine V_ifb_ne (pc2 := 12) (tgt := 15) dX8_deal_9 (fun c9 => ?_) (fun c9 => ?_)
  · replace h := iT c9 h
    refine V_iconst (v := 0) (pc2 := 16) dX8_deal_15 (by decide) ?_
    refine V_istore_n (pc2 := 17) (L2 := [(2, .int (0 : Int32)), (0, .ref a0), (1, .int p0)]) dX8_deal_16 ?_ rfl rfl rfl
    obtain ⟨⟨y16, m17⟩, hl, h⟩ := bS h
    try dsimp only at h
    have hJ70 : V D 1 IX8_deal 70 [(2, .int y16)] [] m17 0 0 (Qi rR mR) := by
      refine V_iload_n (pc2 := 71) dX8_deal_70 0 rfl rfl ?_
      obtain ⟨e1, e2⟩ := inj2 h
      subst e1
      subst e2
      exact V_iret dX8_deal_71 rfl ⟨rfl, rfl⟩
    clear h
    have key17 : ∀ (n : Nat) (y2 : Int32) (m3 : Mem), loopF (fX8_deal_b0 a0 p0) n (y2, m3) = some (y16, m17) → V D 1 IX8_deal 17 [(0, .ref a0), (1, .int p0), (2, .int y2)] [] m3 0 0 (Qi rR mR) := by
      intro n
      induction n with
      | zero => intro y2 m3 h; cases h
      | succ n ih =>
        intro y2 m3 h
        obtain ⟨o, h, ho⟩ := loopF_inv h
        dsimp only [fX8_deal_b0] at h
        refine V_iload_n (pc2 := 18) dX8_deal_17 2 rfl rfl ?_
        refine V_iload_n (pc2 := 19) dX8_deal_18 1 rfl rfl ?_
        refine V_icmp_ge (pc2 := 22) (tgt := 70) dX8_deal_19 (fun c19 => ?_) (fun c19 => ?_)
        · replace h := iT c19 h
          have ee := inj1 h
          subst ee
          obtain ⟨e1, e2⟩ := pinj2 (loopF_e ho)
          subst e1
          subst e2
          exact V_lv hJ70 [2] rfl
        · replace h := iF c19 h
          refine V_aload_n (pc2 := 23) dX8_deal_22 0 rfl rfl ?_
          obtain ⟨r4, e_r4, h⟩ := bS h
          refine V_gR (pc2 := 26) e_r4 dX8_deal_23 wF_8_7 ?_
          refine V_iconst (v := 1) (pc2 := 27) dX8_deal_26 (by decide) ?_
          obtain ⟨x5, e_x5, h⟩ := bS h
          refine V_ldI (pc2 := 28) e_x5 dX8_deal_27 ?_
          refine V_bipush (v := 10) (pc2 := 30) dX8_deal_28 (by decide) ?_
          refine V_icmp_ge (pc2 := 33) (tgt := 70) dX8_deal_30 (fun c30 => ?_) (fun c30 => ?_)
          · replace h := iT c30 h
            have ee := inj1 h
            subst ee
            obtain ⟨e1, e2⟩ := pinj2 (loopF_e ho)
            subst e1
            subst e2
            exact V_lv hJ70 [2] rfl
          · replace h := iF c30 h
            refine V_aload_n (pc2 := 34) dX8_deal_33 0 rfl rfl ?_
            obtain ⟨⟨x6, m7⟩, e_x6, h⟩ := bS h
            try dsimp only at h
            obtain ⟨⟨fs_x6, o_x6⟩, e_x6⟩ := cV_of e_x6
            refine V_cVi (pc2 := 37) [] (st := []) o_x6 (tX8_drawn e_x6) dX8_deal_34 wV_8_143 (by decide) rfl (Nat.le_of_ble_eq_true rfl) ?_
            refine V_bipush (v := 6) (pc2 := 39) dX8_deal_37 (by decide) ?_
            obtain ⟨x8, e_x8, h⟩ := bS h
            refine V_rmI (pc2 := 40) e_x8 dX8_deal_39 ?_
            refine V_istore_n (pc2 := 41) (L2 := [(3, .int x8), (0, .ref a0), (1, .int p0), (2, .int y2)]) dX8_deal_40 ?_ rfl rfl rfl
            refine V_aload_n (pc2 := 42) dX8_deal_41 1 rfl rfl ?_
            obtain ⟨⟨x9, m10⟩, e_x9, h⟩ := bS h
            try dsimp only at h
            obtain ⟨⟨fs_x9, o_x9⟩, e_x9⟩ := cV_of e_x9
            refine V_cVi (pc2 := 45) [] (st := []) o_x9 (tX8_drawn e_x9) dX8_deal_42 wV_8_143 (by decide) rfl (Nat.le_of_ble_eq_true rfl) ?_
            refine V_bipush (v := 60) (pc2 := 47) dX8_deal_45 (by decide) ?_
            obtain ⟨x11, e_x11, h⟩ := bS h
            refine V_rmI (pc2 := 48) e_x11 dX8_deal_47 ?_
            refine V_istore (pc2 := 50) (L2 := [(4, .int x11), (3, .int x8), (0, .ref a0), (1, .int p0), (2, .int y2)]) dX8_deal_48 ?_ rfl rfl
            refine V_aload_n (pc2 := 51) dX8_deal_50 2 rfl rfl ?_
            refine V_iload_n (pc2 := 52) dX8_deal_51 1 rfl rfl ?_
            refine V_iload (pc2 := 54) dX8_deal_52 0 rfl ?_
            refine V_aload_n (pc2 := 55) dX8_deal_54 2 rfl rfl ?_
            obtain ⟨⟨x12, m13⟩, e_x12, h⟩ := bS h
            try dsimp only at h
            obtain ⟨⟨fs_x12, o_x12⟩, e_x12⟩ := cV_of e_x12
            refine V_cVi (pc2 := 58) [] (st := [.int x11, .int x8, .ref a0]) o_x12 (tX8_drawn e_x12) dX8_deal_55 wV_8_143 (by decide) rfl (Nat.le_of_ble_eq_true rfl) ?_
            refine V_bipush (v := 10) (pc2 := 60) dX8_deal_58 (by decide) ?_
            obtain ⟨x14, e_x14, h⟩ := bS h
            refine V_rmI (pc2 := 61) e_x14 dX8_deal_60 ?_
            obtain ⟨m15, e_m15, h⟩ := bS h
            obtain ⟨⟨fs_m15, o_m15⟩, e_m15⟩ := cV_of e_m15
            refine V_cVv (pc2 := 64) [.int x8, .int x11, .int x14] (st := []) o_m15 (tX8_comes e_m15) dX8_deal_61 wV_8_117 (by decide) rfl (Nat.le_of_ble_eq_true rfl) ?_
            refine V_iinc (pc2 := 67) (v := y2 + (1 : Int32)) (L2 := [(2, .int (y2 + (1 : Int32))), (4, .int x11), (3, .int x8), (0, .ref a0), (1, .int p0)]) dX8_deal_64 4 rfl (by rfl) ?_ rfl rfl
            refine V_goto (tgt := 17) dX8_deal_67 ?_
            have ee := inj1 h
            subst ee
            exact V_lv (ih _ _ (loopF_c ho)) [3, 4, 0] rfl
    exact V_lv (key17 _ _ _ hl) [1, 2, 0] rfl
  · replace h := iF c9 h
    refine V_ldc (v := -1000000001) (pc2 := 14) dX8_deal_12 wconstant_8_72 ?_
    obtain ⟨e1, e2⟩ := inj2 h
    subst e1
    subst e2
    exact V_iret dX8_deal_14 rfl ⟨rfl, rfl⟩
noncomputable def fX8_seed (a0 : Nat) (p0 : Int32) (m : Mem) : Option (Int32 × Mem) :=
  (cV m a0 8 (fX8_becomes a0 (11 : Int32) p0 m)).bind fun (x1, m2) =>
  some (x1, m2)
set_option maxRecDepth 20000 in
theorem tX8_seed {D : Dat} {a0 : Nat} {p0 : Int32} {m : Mem} {rR : Int32} {mR : Mem} (h : fX8_seed a0 p0 m = some (rR, mR)) : T D 1 IX8_seed [.ref a0, .int p0] m 0 0 (Qi rR mR) := by
  refine T_of_V (by decide) (Nat.le_of_ble_eq_true rfl) ?_
  show V D 1 IX8_seed 0 [(0, .ref a0), (1, .int p0)] [] m 0 0 (Qi rR mR)
  unfold fX8_seed at h
  refine V_aload_n (pc2 := 1) dX8_seed_0 0 rfl rfl ?_
  refine V_bipush (v := 11) (pc2 := 3) dX8_seed_1 (by decide) ?_
  refine V_iload_n (pc2 := 4) dX8_seed_3 1 rfl rfl ?_
  obtain ⟨⟨x1, m2⟩, e_x1, h⟩ := bS h
  try dsimp only at h
  obtain ⟨⟨fs_x1, o_x1⟩, e_x1⟩ := cV_of e_x1
  refine V_cVi (pc2 := 7) [.int (11 : Int32), .int p0] (st := []) o_x1 (tX8_becomes e_x1) dX8_seed_4 wV_8_112 (by decide) rfl (Nat.le_of_ble_eq_true rfl) ?_
  obtain ⟨e1, e2⟩ := inj2 h
  subst e1
  subst e2
  exact V_iret dX8_seed_7 rfl ⟨rfl, rfl⟩
noncomputable def fX8_roundOf_b0 (a0 : Nat) : Int32 × Int32 × Mem → Option ((Int32 × Int32 × Mem) ⊕ (Int32 × Mem)) := fun (y1, y2, m3) =>
  (gR m3 a0 8 0).bind fun r4 =>
  (ldI m3 r4 (0 : Int32)).bind fun x5 =>
  if x5 ≤ y2 then
    some (.inr (y1, m3))
  else
    (cV m3 a0 8 (fX8_own a0 y2 (2 : Int32) m3)).bind fun x6 =>
    (
      if x6 = 0 then
        (cV m3 a0 8 (fX8_holds a0 y2 m3)).bind fun (x7, m8) =>
        some (x7, m8)
      else
        some ((0 : Int32), m3)).bind fun (y9, m10) =>
    some (.inl (y1 + y9, y2 + (1 : Int32), m10))
noncomputable def fX8_roundOf (a0 : Nat) (m : Mem) : Option (Int32 × Mem) :=
  (loopF (fX8_roundOf_b0 a0) bigN ((0 : Int32), (0 : Int32), m)).bind fun (y11, m12) =>
  some (y11, m12)
set_option maxRecDepth 20000 in
theorem tX8_roundOf {D : Dat} {a0 : Nat} {m : Mem} {rR : Int32} {mR : Mem} (h : fX8_roundOf a0 m = some (rR, mR)) : T D 3 IX8_roundOf [.ref a0] m 0 0 (Qi rR mR) := by
  refine T_of_V (by decide) (Nat.le_of_ble_eq_true rfl) ?_
  show V D 3 IX8_roundOf 0 [(0, .ref a0)] [] m 0 0 (Qi rR mR)
  unfold fX8_roundOf at h
  refine V_iconst (v := 0) (pc2 := 1) dX8_roundOf_0 (by decide) ?_
  refine V_istore_n (pc2 := 2) (L2 := [(1, .int (0 : Int32)), (0, .ref a0)]) dX8_roundOf_1 ?_ rfl rfl rfl
  refine V_iconst (v := 0) (pc2 := 3) dX8_roundOf_2 (by decide) ?_
  refine V_istore_n (pc2 := 4) (L2 := [(2, .int (0 : Int32)), (1, .int (0 : Int32)), (0, .ref a0)]) dX8_roundOf_3 ?_ rfl rfl rfl
  obtain ⟨⟨y11, m12⟩, hl, h⟩ := bS h
  try dsimp only at h
  have hJ41 : V D 3 IX8_roundOf 41 [(1, .int y11)] [] m12 0 0 (Qi rR mR) := by
    refine V_iload_n (pc2 := 42) dX8_roundOf_41 0 rfl rfl ?_
    obtain ⟨e1, e2⟩ := inj2 h
    subst e1
    subst e2
    exact V_iret dX8_roundOf_42 rfl ⟨rfl, rfl⟩
  clear h
  have key4 : ∀ (n : Nat) (y1 : Int32) (y2 : Int32) (m3 : Mem), loopF (fX8_roundOf_b0 a0) n (y1, y2, m3) = some (y11, m12) → V D 3 IX8_roundOf 4 [(0, .ref a0), (1, .int y1), (2, .int y2)] [] m3 0 0 (Qi rR mR) := by
    intro n
    induction n with
    | zero => intro y1 y2 m3 h; cases h
    | succ n ih =>
      intro y1 y2 m3 h
      obtain ⟨o, h, ho⟩ := loopF_inv h
      dsimp only [fX8_roundOf_b0] at h
      refine V_iload_n (pc2 := 5) dX8_roundOf_4 2 rfl rfl ?_
      refine V_aload_n (pc2 := 6) dX8_roundOf_5 0 rfl rfl ?_
      obtain ⟨r4, e_r4, h⟩ := bS h
      refine V_gR (pc2 := 9) e_r4 dX8_roundOf_6 wF_8_7 ?_
      refine V_iconst (v := 0) (pc2 := 10) dX8_roundOf_9 (by decide) ?_
      obtain ⟨x5, e_x5, h⟩ := bS h
      refine V_ldI (pc2 := 11) e_x5 dX8_roundOf_10 ?_
      refine V_icmp_ge (pc2 := 14) (tgt := 41) dX8_roundOf_11 (fun c11 => ?_) (fun c11 => ?_)
      · replace h := iT c11 h
        have ee := inj1 h
        subst ee
        obtain ⟨e1, e2⟩ := pinj2 (loopF_e ho)
        subst e1
        subst e2
        exact V_lv hJ41 [1] rfl
      · replace h := iF c11 h
        refine V_iload_n (pc2 := 15) dX8_roundOf_14 1 rfl rfl ?_
        refine V_aload_n (pc2 := 16) dX8_roundOf_15 0 rfl rfl ?_
        refine V_iload_n (pc2 := 17) dX8_roundOf_16 2 rfl rfl ?_
        refine V_iconst (v := 2) (pc2 := 18) dX8_roundOf_17 (by decide) ?_
        obtain ⟨x6, e_x6, h⟩ := bS h
        obtain ⟨⟨fs_x6, o_x6⟩, e_x6⟩ := cV_of e_x6
        refine V_cVi (pc2 := 21) [.int y2, .int (2 : Int32)] (st := [.int y1]) o_x6 (tX8_own e_x6) dX8_roundOf_18 wV_8_74 (by decide) rfl (Nat.le_of_ble_eq_true rfl) ?_
        obtain ⟨⟨y9, m10⟩, hb, h⟩ := bS h
        try dsimp only at h
        have hJ33 : V D 3 IX8_roundOf 33 [(0, .ref a0), (2, .int y2)] [.int y9, .int y1] m10 0 0 (Qi rR mR) := by
          refine V_iadd (pc2 := 34) dX8_roundOf_33 ?_
          refine V_istore_n (pc2 := 35) (L2 := [(1, .int (y1 + y9)), (0, .ref a0), (2, .int y2)]) dX8_roundOf_34 ?_ rfl rfl rfl
          refine V_iinc (pc2 := 38) (v := y2 + (1 : Int32)) (L2 := [(2, .int (y2 + (1 : Int32))), (1, .int (y1 + y9)), (0, .ref a0)]) dX8_roundOf_35 2 rfl (by rfl) ?_ rfl rfl
          refine V_goto (tgt := 4) dX8_roundOf_38 ?_
          have ee := inj1 h
          subst ee
          exact V_lv (ih _ _ _ (loopF_c ho)) [2, 1, 0] rfl
        clear h
        have h := hb
        clear hb
        refine V_if_ne (pc2 := 24) (tgt := 32) dX8_roundOf_21 (fun c21 => ?_) (fun c21 => ?_)
        · replace h := iF c21 h
          refine V_iconst (v := 0) (pc2 := 33) dX8_roundOf_32 (by decide) ?_
          obtain ⟨e1, e2⟩ := inj2 h
          subst e1
          subst e2
          exact V_lv hJ33 [0, 2] rfl
        · replace h := iT c21 h
          refine V_aload_n (pc2 := 25) dX8_roundOf_24 0 rfl rfl ?_
          refine V_iload_n (pc2 := 26) dX8_roundOf_25 2 rfl rfl ?_
          obtain ⟨⟨x7, m8⟩, e_x7, h⟩ := bS h
          try dsimp only at h
          obtain ⟨⟨fs_x7, o_x7⟩, e_x7⟩ := cV_of e_x7
          refine V_cVi (pc2 := 29) [.int y2] (st := [.int y1]) o_x7 (tX8_holds e_x7) dX8_roundOf_26 wV_8_99 (by decide) rfl (Nat.le_of_ble_eq_true rfl) ?_
          refine V_goto (tgt := 33) dX8_roundOf_29 ?_
          obtain ⟨e1, e2⟩ := inj2 h
          subst e1
          subst e2
          exact V_lv hJ33 [0, 2] rfl
  exact V_lv (key4 _ _ _ _ hl) [2, 1, 0] rfl
noncomputable def fX8_landsAt_b0 (a0 : Nat) : Int32 × Int32 × Mem → Option ((Int32 × Int32 × Mem) ⊕ (Int32 × Mem)) := fun (y13, y14, m15) =>
  (cV m15 a0 8 (fX8_holds a0 y13 m15)).bind fun (x16, m17) =>
  if y14 < x16 then
    some (.inr (y13, m17))
  else
    (cV m17 a0 8 (fX8_holds a0 y13 m17)).bind fun (x18, m19) =>
    (cV m19 a0 8 (fX8_nextOf a0 y13 m19)).bind fun x20 =>
    some (.inl (x20, y14 - x18, m19))
noncomputable def fX8_landsAt (a0 : Nat) (p0 : Int32) (m : Mem) : Option (Int32 × Mem) :=
  (gR m a0 8 0).bind fun r1 =>
  (ldI m r1 (6 : Int32)).bind fun x2 =>
  (cV m a0 8 (fX8_own a0 x2 (2 : Int32) m)).bind fun x3 =>
  (
    if x3 = 0 then
      (gR m a0 8 0).bind fun r7 =>
      (ldI m r7 (6 : Int32)).bind fun x8 =>
      some x8
    else
      (gR m a0 8 0).bind fun r4 =>
      (ldI m r4 (6 : Int32)).bind fun x5 =>
      (cV m a0 8 (fX8_nextOf a0 x5 m)).bind fun x6 =>
      some x6).bind fun y9 =>
  (cV m a0 8 (fX8_roundOf a0 m)).bind fun (x10, m11) =>
  (rmI p0 x10).bind fun x12 =>
  (loopF (fX8_landsAt_b0 a0) bigN (y9, x12, m11)).bind fun (y21, m22) =>
  some (y21, m22)
set_option maxRecDepth 20000 in
theorem tX8_landsAt {D : Dat} {a0 : Nat} {p0 : Int32} {m : Mem} {rR : Int32} {mR : Mem} (h : fX8_landsAt a0 p0 m = some (rR, mR)) : T D 4 IX8_landsAt [.ref a0, .int p0] m 0 0 (Qi rR mR) := by
  refine T_of_V (by decide) (Nat.le_of_ble_eq_true rfl) ?_
  show V D 4 IX8_landsAt 0 [(0, .ref a0), (1, .int p0)] [] m 0 0 (Qi rR mR)
  unfold fX8_landsAt at h
  refine V_aload_n (pc2 := 1) dX8_landsAt_0 0 rfl rfl ?_
  refine V_aload_n (pc2 := 2) dX8_landsAt_1 0 rfl rfl ?_
  obtain ⟨r1, e_r1, h⟩ := bS h
  refine V_gR (pc2 := 5) e_r1 dX8_landsAt_2 wF_8_7 ?_
  refine V_bipush (v := 6) (pc2 := 7) dX8_landsAt_5 (by decide) ?_
  obtain ⟨x2, e_x2, h⟩ := bS h
  refine V_ldI (pc2 := 8) e_x2 dX8_landsAt_7 ?_
  refine V_iconst (v := 2) (pc2 := 9) dX8_landsAt_8 (by decide) ?_
  obtain ⟨x3, e_x3, h⟩ := bS h
  obtain ⟨⟨fs_x3, o_x3⟩, e_x3⟩ := cV_of e_x3
  refine V_cVi (pc2 := 12) [.int x2, .int (2 : Int32)] (st := []) o_x3 (tX8_own e_x3) dX8_landsAt_9 wV_8_74 (by decide) rfl (Nat.le_of_ble_eq_true rfl) ?_
  obtain ⟨y9, hb, h⟩ := bS h
  have hJ36 : V D 4 IX8_landsAt 36 [(0, .ref a0), (1, .int p0)] [.int y9] m 0 0 (Qi rR mR) := by
    refine V_istore_n (pc2 := 37) (L2 := [(2, .int y9), (0, .ref a0), (1, .int p0)]) dX8_landsAt_36 ?_ rfl rfl rfl
    refine V_iload_n (pc2 := 38) dX8_landsAt_37 2 rfl rfl ?_
    refine V_aload_n (pc2 := 39) dX8_landsAt_38 1 rfl rfl ?_
    obtain ⟨⟨x10, m11⟩, e_x10, h⟩ := bS h
    try dsimp only at h
    obtain ⟨⟨fs_x10, o_x10⟩, e_x10⟩ := cV_of e_x10
    refine V_cVi (pc2 := 42) [] (st := [.int p0]) o_x10 (tX8_roundOf e_x10) dX8_landsAt_39 wV_8_146 (by decide) rfl (Nat.le_of_ble_eq_true rfl) ?_
    obtain ⟨x12, e_x12, h⟩ := bS h
    refine V_rmI (pc2 := 43) e_x12 dX8_landsAt_42 ?_
    refine V_istore_n (pc2 := 44) (L2 := [(3, .int x12), (2, .int y9), (0, .ref a0), (1, .int p0)]) dX8_landsAt_43 ?_ rfl rfl rfl
    obtain ⟨⟨y21, m22⟩, hl, h⟩ := bS h
    try dsimp only at h
    have hJ70 : V D 4 IX8_landsAt 70 [(2, .int y21)] [] m22 0 0 (Qi rR mR) := by
      refine V_iload_n (pc2 := 71) dX8_landsAt_70 0 rfl rfl ?_
      obtain ⟨e1, e2⟩ := inj2 h
      subst e1
      subst e2
      exact V_iret dX8_landsAt_71 rfl ⟨rfl, rfl⟩
    clear h
    have key44 : ∀ (n : Nat) (y13 : Int32) (y14 : Int32) (m15 : Mem), loopF (fX8_landsAt_b0 a0) n (y13, y14, m15) = some (y21, m22) → V D 4 IX8_landsAt 44 [(0, .ref a0), (2, .int y13), (3, .int y14)] [] m15 0 0 (Qi rR mR) := by
      intro n
      induction n with
      | zero => intro y13 y14 m15 h; cases h
      | succ n ih =>
        intro y13 y14 m15 h
        obtain ⟨o, h, ho⟩ := loopF_inv h
        dsimp only [fX8_landsAt_b0] at h
        refine V_iload_n (pc2 := 45) dX8_landsAt_44 2 rfl rfl ?_
        refine V_aload_n (pc2 := 46) dX8_landsAt_45 0 rfl rfl ?_
        refine V_iload_n (pc2 := 47) dX8_landsAt_46 1 rfl rfl ?_
        obtain ⟨⟨x16, m17⟩, e_x16, h⟩ := bS h
        try dsimp only at h
        obtain ⟨⟨fs_x16, o_x16⟩, e_x16⟩ := cV_of e_x16
        refine V_cVi (pc2 := 50) [.int y13] (st := [.int y14]) o_x16 (tX8_holds e_x16) dX8_landsAt_47 wV_8_99 (by decide) rfl (Nat.le_of_ble_eq_true rfl) ?_
        refine V_icmp_lt (pc2 := 53) (tgt := 70) dX8_landsAt_50 (fun c50 => ?_) (fun c50 => ?_)
        · replace h := iT c50 h
          have ee := inj1 h
          subst ee
          obtain ⟨e1, e2⟩ := pinj2 (loopF_e ho)
          subst e1
          subst e2
          exact V_lv hJ70 [1] rfl
        · replace h := iF c50 h
          refine V_iload_n (pc2 := 54) dX8_landsAt_53 2 rfl rfl ?_
          refine V_aload_n (pc2 := 55) dX8_landsAt_54 0 rfl rfl ?_
          refine V_iload_n (pc2 := 56) dX8_landsAt_55 1 rfl rfl ?_
          obtain ⟨⟨x18, m19⟩, e_x18, h⟩ := bS h
          try dsimp only at h
          obtain ⟨⟨fs_x18, o_x18⟩, e_x18⟩ := cV_of e_x18
          refine V_cVi (pc2 := 59) [.int y13] (st := [.int y14]) o_x18 (tX8_holds e_x18) dX8_landsAt_56 wV_8_99 (by decide) rfl (Nat.le_of_ble_eq_true rfl) ?_
          refine V_isub (pc2 := 60) dX8_landsAt_59 ?_
          refine V_istore_n (pc2 := 61) (L2 := [(3, .int (y14 - x18)), (0, .ref a0), (2, .int y13)]) dX8_landsAt_60 ?_ rfl rfl rfl
          refine V_aload_n (pc2 := 62) dX8_landsAt_61 1 rfl rfl ?_
          refine V_iload_n (pc2 := 63) dX8_landsAt_62 2 rfl rfl ?_
          obtain ⟨x20, e_x20, h⟩ := bS h
          obtain ⟨⟨fs_x20, o_x20⟩, e_x20⟩ := cV_of e_x20
          refine V_cVi (pc2 := 66) [.int y13] (st := []) o_x20 (tX8_nextOf e_x20) dX8_landsAt_63 wV_8_102 (by decide) rfl (Nat.le_of_ble_eq_true rfl) ?_
          refine V_istore_n (pc2 := 67) (L2 := [(2, .int x20), (3, .int (y14 - x18)), (0, .ref a0)]) dX8_landsAt_66 ?_ rfl rfl rfl
          refine V_goto (tgt := 44) dX8_landsAt_67 ?_
          have ee := inj1 h
          subst ee
          exact V_lv (ih _ _ _ (loopF_c ho)) [2, 0, 1] rfl
    exact V_lv (key44 _ _ _ _ hl) [2, 1, 0] rfl
  clear h
  have h := hb
  clear hb
  refine V_if_ne (pc2 := 15) (tgt := 25) dX8_landsAt_12 (fun c12 => ?_) (fun c12 => ?_)
  · replace h := iF c12 h
    refine V_aload_n (pc2 := 26) dX8_landsAt_25 0 rfl rfl ?_
    refine V_aload_n (pc2 := 27) dX8_landsAt_26 0 rfl rfl ?_
    obtain ⟨r4, e_r4, h⟩ := bS h
    refine V_gR (pc2 := 30) e_r4 dX8_landsAt_27 wF_8_7 ?_
    refine V_bipush (v := 6) (pc2 := 32) dX8_landsAt_30 (by decide) ?_
    obtain ⟨x5, e_x5, h⟩ := bS h
    refine V_ldI (pc2 := 33) e_x5 dX8_landsAt_32 ?_
    obtain ⟨x6, e_x6, h⟩ := bS h
    obtain ⟨⟨fs_x6, o_x6⟩, e_x6⟩ := cV_of e_x6
    refine V_cVi (pc2 := 36) [.int x5] (st := []) o_x6 (tX8_nextOf e_x6) dX8_landsAt_33 wV_8_102 (by decide) rfl (Nat.le_of_ble_eq_true rfl) ?_
    have e1 := inj1 h
    subst e1
    exact hJ36
  · replace h := iT c12 h
    refine V_aload_n (pc2 := 16) dX8_landsAt_15 0 rfl rfl ?_
    obtain ⟨r7, e_r7, h⟩ := bS h
    refine V_gR (pc2 := 19) e_r7 dX8_landsAt_16 wF_8_7 ?_
    refine V_bipush (v := 6) (pc2 := 21) dX8_landsAt_19 (by decide) ?_
    obtain ⟨x8, e_x8, h⟩ := bS h
    refine V_ldI (pc2 := 22) e_x8 dX8_landsAt_21 ?_
    refine V_goto (tgt := 36) dX8_landsAt_22 ?_
    have e1 := inj1 h
    subst e1
    exact hJ36
noncomputable def fX8_many_b0 (a0 : Nat) (m : Mem) : Int32 × Int32 → Option ((Int32 × Int32) ⊕ Int32) := fun (y1, y2) =>
  (gR m a0 8 0).bind fun r3 =>
  (ldI m r3 (0 : Int32)).bind fun x4 =>
  if x4 ≤ y2 then
    some (.inr y1)
  else
    (cV m a0 8 (fX8_own a0 y2 (2 : Int32) m)).bind fun x5 =>
    some (.inl (y1 + ((1 : Int32) - x5), y2 + (1 : Int32)))
noncomputable def fX8_many (a0 : Nat) (m : Mem) : Option (Int32) :=
  (loopF (fX8_many_b0 a0 m) bigN ((0 : Int32), (0 : Int32))).bind fun y6 =>
  some y6
set_option maxRecDepth 20000 in
theorem tX8_many {D : Dat} {a0 : Nat} {m : Mem} {rR : Int32} (h : fX8_many a0 m = some rR) : T D 1 IX8_many [.ref a0] m 0 0 (Qi rR m) := by
  refine T_of_V (by decide) (Nat.le_of_ble_eq_true rfl) ?_
  show V D 1 IX8_many 0 [(0, .ref a0)] [] m 0 0 (Qi rR m)
  unfold fX8_many at h
  refine V_iconst (v := 0) (pc2 := 1) dX8_many_0 (by decide) ?_
  refine V_istore_n (pc2 := 2) (L2 := [(1, .int (0 : Int32)), (0, .ref a0)]) dX8_many_1 ?_ rfl rfl rfl
  refine V_iconst (v := 0) (pc2 := 3) dX8_many_2 (by decide) ?_
  refine V_istore_n (pc2 := 4) (L2 := [(2, .int (0 : Int32)), (1, .int (0 : Int32)), (0, .ref a0)]) dX8_many_3 ?_ rfl rfl rfl
  obtain ⟨y6, hl, h⟩ := bS h
  have hJ31 : V D 1 IX8_many 31 [(1, .int y6)] [] m 0 0 (Qi rR m) := by
    refine V_iload_n (pc2 := 32) dX8_many_31 0 rfl rfl ?_
    have e1 := inj1 h
    subst e1
    exact V_iret dX8_many_32 rfl ⟨rfl, rfl⟩
  clear h
  have key4 : ∀ (n : Nat) (y1 : Int32) (y2 : Int32), loopF (fX8_many_b0 a0 m) n (y1, y2) = some y6 → V D 1 IX8_many 4 [(0, .ref a0), (1, .int y1), (2, .int y2)] [] m 0 0 (Qi rR m) := by
    intro n
    induction n with
    | zero => intro y1 y2 h; cases h
    | succ n ih =>
      intro y1 y2 h
      obtain ⟨o, h, ho⟩ := loopF_inv h
      dsimp only [fX8_many_b0] at h
      refine V_iload_n (pc2 := 5) dX8_many_4 2 rfl rfl ?_
      refine V_aload_n (pc2 := 6) dX8_many_5 0 rfl rfl ?_
      obtain ⟨r3, e_r3, h⟩ := bS h
      refine V_gR (pc2 := 9) e_r3 dX8_many_6 wF_8_7 ?_
      refine V_iconst (v := 0) (pc2 := 10) dX8_many_9 (by decide) ?_
      obtain ⟨x4, e_x4, h⟩ := bS h
      refine V_ldI (pc2 := 11) e_x4 dX8_many_10 ?_
      refine V_icmp_ge (pc2 := 14) (tgt := 31) dX8_many_11 (fun c11 => ?_) (fun c11 => ?_)
      · replace h := iT c11 h
        have ee := inj1 h
        subst ee
        have e1 := pinj1 (loopF_e ho)
        subst e1
        exact V_lv hJ31 [1] rfl
      · replace h := iF c11 h
        refine V_iload_n (pc2 := 15) dX8_many_14 1 rfl rfl ?_
        refine V_iconst (v := 1) (pc2 := 16) dX8_many_15 (by decide) ?_
        refine V_aload_n (pc2 := 17) dX8_many_16 0 rfl rfl ?_
        refine V_iload_n (pc2 := 18) dX8_many_17 2 rfl rfl ?_
        refine V_iconst (v := 2) (pc2 := 19) dX8_many_18 (by decide) ?_
        obtain ⟨x5, e_x5, h⟩ := bS h
        obtain ⟨⟨fs_x5, o_x5⟩, e_x5⟩ := cV_of e_x5
        refine V_cVi (pc2 := 22) [.int y2, .int (2 : Int32)] (st := [.int (1 : Int32), .int y1]) o_x5 (tX8_own e_x5) dX8_many_19 wV_8_74 (by decide) rfl (Nat.le_of_ble_eq_true rfl) ?_
        refine V_isub (pc2 := 23) dX8_many_22 ?_
        refine V_iadd (pc2 := 24) dX8_many_23 ?_
        refine V_istore_n (pc2 := 25) (L2 := [(1, .int (y1 + ((1 : Int32) - x5))), (0, .ref a0), (2, .int y2)]) dX8_many_24 ?_ rfl rfl rfl
        refine V_iinc (pc2 := 28) (v := y2 + (1 : Int32)) (L2 := [(2, .int (y2 + (1 : Int32))), (1, .int (y1 + ((1 : Int32) - x5))), (0, .ref a0)]) dX8_many_25 2 rfl (by rfl) ?_ rfl rfl
        refine V_goto (tgt := 4) dX8_many_28 ?_
        have ee := inj1 h
        subst ee
        exact V_lv (ih _ _ (loopF_c ho)) [2, 1, 0] rfl
  exact V_lv (key4 _ _ _ hl) [2, 1, 0] rfl
noncomputable def fX8_lands (a0 : Nat) (p0 : Int32) (m : Mem) : Option (Int32 × Mem) :=
  (fX8_isIn p0.toInt64 (0 : Int64) (9999 : Int64) m).bind fun b1 =>
  if b1 = true then
    (cV m a0 8 (fX8_many a0 m)).bind fun x2 =>
    if x2 = 0 then
      some ((-1000000005 : Int32), m)
    else
      (cV m a0 8 (fX8_landsAt a0 p0 m)).bind fun (x3, m4) =>
      some (x3, m4)
  else
    some ((-1000000001 : Int32), m)
set_option maxRecDepth 20000 in
theorem tX8_lands {D : Dat} {a0 : Nat} {p0 : Int32} {m : Mem} {rR : Int32} {mR : Mem} (h : fX8_lands a0 p0 m = some (rR, mR)) : T D 5 IX8_lands [.ref a0, .int p0] m 0 0 (Qi rR mR) := by
  refine T_of_V (by decide) (Nat.le_of_ble_eq_true rfl) ?_
  show V D 5 IX8_lands 0 [(0, .ref a0), (1, .int p0)] [] m 0 0 (Qi rR mR)
  unfold fX8_lands at h
  refine V_iload_n (pc2 := 1) dX8_lands_0 1 rfl rfl ?_
  refine V_i2l (pc2 := 2) dX8_lands_1 rfl ?_
  refine V_lconst (v := 0) (pc2 := 3) dX8_lands_2 (by decide) ?_
  refine V_ldc2 (v := 9999) (pc2 := 6) dX8_lands_3 wconstantLong_8_149 ?_
  obtain ⟨b1, e_b1, h⟩ := bS h
  refine V_cSi (pc2 := 9) [.long p0.toInt64, .long (0 : Int64), .long (9999 : Int64)] (st := []) (tX8_isIn e_b1) dX8_lands_6 wS_8_65 (by decide) rfl (Nat.le_of_ble_eq_true rfl) ?_
  refine V_ifb_ne (pc2 := 12) (tgt := 15) dX8_lands_9 (fun c9 => ?_) (fun c9 => ?_)
  · replace h := iT c9 h
    refine V_aload_n (pc2 := 16) dX8_lands_15 0 rfl rfl ?_
    obtain ⟨x2, e_x2, h⟩ := bS h
    obtain ⟨⟨fs_x2, o_x2⟩, e_x2⟩ := cV_of e_x2
    refine V_cVi (pc2 := 19) [] (st := []) o_x2 (tX8_many e_x2) dX8_lands_16 wV_8_151 (by decide) rfl (Nat.le_of_ble_eq_true rfl) ?_
    refine V_if_ne (pc2 := 22) (tgt := 27) dX8_lands_19 (fun c19 => ?_) (fun c19 => ?_)
    · replace h := iF c19 h
      refine V_aload_n (pc2 := 28) dX8_lands_27 0 rfl rfl ?_
      refine V_iload_n (pc2 := 29) dX8_lands_28 1 rfl rfl ?_
      obtain ⟨⟨x3, m4⟩, e_x3, h⟩ := bS h
      try dsimp only at h
      obtain ⟨⟨fs_x3, o_x3⟩, e_x3⟩ := cV_of e_x3
      refine V_cVi (pc2 := 32) [.int p0] (st := []) o_x3 (tX8_landsAt e_x3) dX8_lands_29 wV_8_154 (by decide) rfl (Nat.le_of_ble_eq_true rfl) ?_
      obtain ⟨e1, e2⟩ := inj2 h
      subst e1
      subst e2
      exact V_iret dX8_lands_32 rfl ⟨rfl, rfl⟩
    · replace h := iT c19 h
      refine V_ldc (v := -1000000005) (pc2 := 24) dX8_lands_22 wconstant_8_64 ?_
      refine V_goto (tgt := 32) dX8_lands_24 ?_
      obtain ⟨e1, e2⟩ := inj2 h
      subst e1
      subst e2
      exact V_iret dX8_lands_32 rfl ⟨rfl, rfl⟩
  · replace h := iF c9 h
    refine V_ldc (v := -1000000001) (pc2 := 14) dX8_lands_12 wconstant_8_72 ?_
    obtain ⟨e1, e2⟩ := inj2 h
    subst e1
    subst e2
    exact V_iret dX8_lands_14 rfl ⟨rfl, rfl⟩
noncomputable def fX8_round (a0 : Nat) (m : Mem) : Option (Int32 × Mem) :=
  (cV m a0 8 (fX8_roundOf a0 m)).bind fun (x1, m2) =>
  some (x1, m2)
set_option maxRecDepth 20000 in
theorem tX8_round {D : Dat} {a0 : Nat} {m : Mem} {rR : Int32} {mR : Mem} (h : fX8_round a0 m = some (rR, mR)) : T D 4 IX8_round [.ref a0] m 0 0 (Qi rR mR) := by
  refine T_of_V (by decide) (Nat.le_of_ble_eq_true rfl) ?_
  show V D 4 IX8_round 0 [(0, .ref a0)] [] m 0 0 (Qi rR mR)
  unfold fX8_round at h
  refine V_aload_n (pc2 := 1) dX8_round_0 0 rfl rfl ?_
  obtain ⟨⟨x1, m2⟩, e_x1, h⟩ := bS h
  try dsimp only at h
  obtain ⟨⟨fs_x1, o_x1⟩, e_x1⟩ := cV_of e_x1
  refine V_cVi (pc2 := 4) [] (st := []) o_x1 (tX8_roundOf e_x1) dX8_round_1 wV_8_146 (by decide) rfl (Nat.le_of_ble_eq_true rfl) ?_
  obtain ⟨e1, e2⟩ := inj2 h
  subst e1
  subst e2
  exact V_iret dX8_round_4 rfl ⟨rfl, rfl⟩
noncomputable def fX8_goes (a0 : Nat) (m : Mem) : Option (Bool) :=
  (gR m a0 8 0).bind fun r1 =>
  (ldI m r1 (1 : Int32)).bind fun x2 =>
  if x2 ≤ 0 then
    some false
  else
    (cV m a0 8 (fX8_many a0 m)).bind fun x3 =>
    if x3 ≤ 0 then
      some false
    else
      some true
set_option maxRecDepth 20000 in
theorem tX8_goes {D : Dat} {a0 : Nat} {m : Mem} {rR : Bool} (h : fX8_goes a0 m = some rR) : T D 2 IX8_goes [.ref a0] m 0 0 (Qi (zb rR) m) := by
  refine T_of_V (by decide) (Nat.le_of_ble_eq_true rfl) ?_
  show V D 2 IX8_goes 0 [(0, .ref a0)] [] m 0 0 (Qi (zb rR) m)
  unfold fX8_goes at h
  refine V_aload_n (pc2 := 1) dX8_goes_0 0 rfl rfl ?_
  obtain ⟨r1, e_r1, h⟩ := bS h
  refine V_gR (pc2 := 4) e_r1 dX8_goes_1 wF_8_7 ?_
  refine V_iconst (v := 1) (pc2 := 5) dX8_goes_4 (by decide) ?_
  obtain ⟨x2, e_x2, h⟩ := bS h
  refine V_ldI (pc2 := 6) e_x2 dX8_goes_5 ?_
  refine V_if_le (pc2 := 9) (tgt := 20) dX8_goes_6 (fun c6 => ?_) (fun c6 => ?_)
  · replace h := iT c6 h
    refine V_iconst (v := 0) (pc2 := 21) dX8_goes_20 (by decide) ?_
    have e1 := inj1 h
    subst e1
    exact V_bret (b := false) dX8_goes_21 rfl ⟨rfl, rfl⟩
  · replace h := iF c6 h
    refine V_aload_n (pc2 := 10) dX8_goes_9 0 rfl rfl ?_
    obtain ⟨x3, e_x3, h⟩ := bS h
    obtain ⟨⟨fs_x3, o_x3⟩, e_x3⟩ := cV_of e_x3
    refine V_cVi (pc2 := 13) [] (st := []) o_x3 (tX8_many e_x3) dX8_goes_10 wV_8_151 (by decide) rfl (Nat.le_of_ble_eq_true rfl) ?_
    refine V_if_le (pc2 := 16) (tgt := 20) dX8_goes_13 (fun c13 => ?_) (fun c13 => ?_)
    · replace h := iT c13 h
      refine V_iconst (v := 0) (pc2 := 21) dX8_goes_20 (by decide) ?_
      have e1 := inj1 h
      subst e1
      exact V_bret (b := false) dX8_goes_21 rfl ⟨rfl, rfl⟩
    · replace h := iF c13 h
      refine V_iconst (v := 1) (pc2 := 17) dX8_goes_16 (by decide) ?_
      refine V_goto (tgt := 21) dX8_goes_17 ?_
      have e1 := inj1 h
      subst e1
      exact V_bret (b := true) dX8_goes_21 rfl ⟨rfl, rfl⟩
noncomputable def fX8_evening_b0 (a0 : Nat) (p0 : Int32) (m : Mem) : Int32 × Int32 → Option ((Int32 × Int32) ⊕ Int32) := fun (y1, y2) =>
  (gR m a0 8 0).bind fun r3 =>
  (ldI m r3 (0 : Int32)).bind fun x4 =>
  if x4 ≤ y2 then
    some (.inr y1)
  else
    (cV m a0 8 (fX8_on a0 p0 y2 m)).bind fun x5 =>
    (cV m a0 8 (fX8_own a0 x5 (2 : Int32) m)).bind fun x6 =>
    (
      if x6 = 0 then
        if y1 < 0 then
          some x5
        else
          (cV m a0 8 (fX8_own a0 x5 (1 : Int32) m)).bind fun x7 =>
          (cV m a0 8 (fX8_own a0 y1 (1 : Int32) m)).bind fun x8 =>
          if x8 ≤ x7 then
            some y1
          else
            some x5
      else
        some y1).bind fun y9 =>
    some (.inl (y9, y2 + (1 : Int32)))
noncomputable def fX8_evening (a0 : Nat) (p0 : Int32) (m : Mem) : Option (Int32) :=
  (loopF (fX8_evening_b0 a0 p0 m) bigN ((-1 : Int32), (0 : Int32))).bind fun y10 =>
  some y10
set_option maxRecDepth 20000 in
theorem tX8_evening {D : Dat} {a0 : Nat} {p0 : Int32} {m : Mem} {rR : Int32} (h : fX8_evening a0 p0 m = some rR) : T D 1 IX8_evening [.ref a0, .int p0] m 0 0 (Qi rR m) := by
  refine T_of_V (by decide) (Nat.le_of_ble_eq_true rfl) ?_
  show V D 1 IX8_evening 0 [(0, .ref a0), (1, .int p0)] [] m 0 0 (Qi rR m)
  unfold fX8_evening at h
  refine V_iconst (v := -1) (pc2 := 1) dX8_evening_0 (by decide) ?_
  refine V_istore_n (pc2 := 2) (L2 := [(2, .int (-1 : Int32)), (0, .ref a0), (1, .int p0)]) dX8_evening_1 ?_ rfl rfl rfl
  refine V_iconst (v := 0) (pc2 := 3) dX8_evening_2 (by decide) ?_
  refine V_istore_n (pc2 := 4) (L2 := [(3, .int (0 : Int32)), (2, .int (-1 : Int32)), (0, .ref a0), (1, .int p0)]) dX8_evening_3 ?_ rfl rfl rfl
  obtain ⟨y10, hl, h⟩ := bS h
  have hJ65 : V D 1 IX8_evening 65 [(2, .int y10)] [] m 0 0 (Qi rR m) := by
    refine V_iload_n (pc2 := 66) dX8_evening_65 0 rfl rfl ?_
    have e1 := inj1 h
    subst e1
    exact V_iret dX8_evening_66 rfl ⟨rfl, rfl⟩
  clear h
  have key4 : ∀ (n : Nat) (y1 : Int32) (y2 : Int32), loopF (fX8_evening_b0 a0 p0 m) n (y1, y2) = some y10 → V D 1 IX8_evening 4 [(0, .ref a0), (1, .int p0), (2, .int y1), (3, .int y2)] [] m 0 0 (Qi rR m) := by
    intro n
    induction n with
    | zero => intro y1 y2 h; cases h
    | succ n ih =>
      intro y1 y2 h
      obtain ⟨o, h, ho⟩ := loopF_inv h
      dsimp only [fX8_evening_b0] at h
      refine V_iload_n (pc2 := 5) dX8_evening_4 3 rfl rfl ?_
      refine V_aload_n (pc2 := 6) dX8_evening_5 0 rfl rfl ?_
      obtain ⟨r3, e_r3, h⟩ := bS h
      refine V_gR (pc2 := 9) e_r3 dX8_evening_6 wF_8_7 ?_
      refine V_iconst (v := 0) (pc2 := 10) dX8_evening_9 (by decide) ?_
      obtain ⟨x4, e_x4, h⟩ := bS h
      refine V_ldI (pc2 := 11) e_x4 dX8_evening_10 ?_
      refine V_icmp_ge (pc2 := 14) (tgt := 65) dX8_evening_11 (fun c11 => ?_) (fun c11 => ?_)
      · replace h := iT c11 h
        have ee := inj1 h
        subst ee
        have e1 := pinj1 (loopF_e ho)
        subst e1
        exact V_lv hJ65 [2] rfl
      · replace h := iF c11 h
        refine V_aload_n (pc2 := 15) dX8_evening_14 0 rfl rfl ?_
        refine V_iload_n (pc2 := 16) dX8_evening_15 1 rfl rfl ?_
        refine V_iload_n (pc2 := 17) dX8_evening_16 3 rfl rfl ?_
        obtain ⟨x5, e_x5, h⟩ := bS h
        obtain ⟨⟨fs_x5, o_x5⟩, e_x5⟩ := cV_of e_x5
        refine V_cVi (pc2 := 20) [.int p0, .int y2] (st := []) o_x5 (tX8_on e_x5) dX8_evening_17 wV_8_78 (by decide) rfl (Nat.le_of_ble_eq_true rfl) ?_
        refine V_istore (pc2 := 22) (L2 := [(4, .int x5), (0, .ref a0), (1, .int p0), (2, .int y1), (3, .int y2)]) dX8_evening_20 ?_ rfl rfl
        refine V_aload_n (pc2 := 23) dX8_evening_22 1 rfl rfl ?_
        refine V_iload (pc2 := 25) dX8_evening_23 0 rfl ?_
        refine V_iconst (v := 2) (pc2 := 26) dX8_evening_25 (by decide) ?_
        obtain ⟨x6, e_x6, h⟩ := bS h
        obtain ⟨⟨fs_x6, o_x6⟩, e_x6⟩ := cV_of e_x6
        refine V_cVi (pc2 := 29) [.int x5, .int (2 : Int32)] (st := []) o_x6 (tX8_own e_x6) dX8_evening_26 wV_8_74 (by decide) rfl (Nat.le_of_ble_eq_true rfl) ?_
        obtain ⟨y9, hb, h⟩ := bS h
        have hJ58 : V D 1 IX8_evening 58 [(0, .ref a0), (1, .int p0), (3, .int y2)] [.int y9] m 0 0 (Qi rR m) := by
          refine V_istore_n (pc2 := 59) (L2 := [(2, .int y9), (0, .ref a0), (1, .int p0), (3, .int y2)]) dX8_evening_58 ?_ rfl rfl rfl
          refine V_iinc (pc2 := 62) (v := y2 + (1 : Int32)) (L2 := [(3, .int (y2 + (1 : Int32))), (2, .int y9), (0, .ref a0), (1, .int p0)]) dX8_evening_59 3 rfl (by rfl) ?_ rfl rfl
          refine V_goto (tgt := 4) dX8_evening_62 ?_
          have ee := inj1 h
          subst ee
          exact V_lv (ih _ _ (loopF_c ho)) [2, 3, 1, 0] rfl
        clear h
        have h := hb
        clear hb
        refine V_if_ne (pc2 := 32) (tgt := 57) dX8_evening_29 (fun c29 => ?_) (fun c29 => ?_)
        · replace h := iF c29 h
          refine V_iload_n (pc2 := 58) dX8_evening_57 3 rfl rfl ?_
          have e1 := inj1 h
          subst e1
          exact V_lv hJ58 [1, 2, 4] rfl
        · replace h := iT c29 h
          refine V_iload_n (pc2 := 33) dX8_evening_32 3 rfl rfl ?_
          refine V_if_lt (pc2 := 36) (tgt := 52) dX8_evening_33 (fun c33 => ?_) (fun c33 => ?_)
          · replace h := iT c33 h
            refine V_iload (pc2 := 54) dX8_evening_52 0 rfl ?_
            refine V_goto (tgt := 58) dX8_evening_54 ?_
            have e1 := inj1 h
            subst e1
            exact V_lv hJ58 [1, 2, 4] rfl
          · replace h := iF c33 h
            refine V_aload_n (pc2 := 37) dX8_evening_36 1 rfl rfl ?_
            refine V_iload (pc2 := 39) dX8_evening_37 0 rfl ?_
            refine V_iconst (v := 1) (pc2 := 40) dX8_evening_39 (by decide) ?_
            obtain ⟨x7, e_x7, h⟩ := bS h
            obtain ⟨⟨fs_x7, o_x7⟩, e_x7⟩ := cV_of e_x7
            refine V_cVi (pc2 := 43) [.int x5, .int (1 : Int32)] (st := []) o_x7 (tX8_own e_x7) dX8_evening_40 wV_8_74 (by decide) rfl (Nat.le_of_ble_eq_true rfl) ?_
            refine V_aload_n (pc2 := 44) dX8_evening_43 1 rfl rfl ?_
            refine V_iload_n (pc2 := 45) dX8_evening_44 3 rfl rfl ?_
            refine V_iconst (v := 1) (pc2 := 46) dX8_evening_45 (by decide) ?_
            obtain ⟨x8, e_x8, h⟩ := bS h
            obtain ⟨⟨fs_x8, o_x8⟩, e_x8⟩ := cV_of e_x8
            refine V_cVi (pc2 := 49) [.int y1, .int (1 : Int32)] (st := [.int x7]) o_x8 (tX8_own e_x8) dX8_evening_46 wV_8_74 (by decide) rfl (Nat.le_of_ble_eq_true rfl) ?_
            refine V_icmp_ge (pc2 := 52) (tgt := 57) dX8_evening_49 (fun c49 => ?_) (fun c49 => ?_)
            · replace h := iT c49 h
              refine V_iload_n (pc2 := 58) dX8_evening_57 3 rfl rfl ?_
              have e1 := inj1 h
              subst e1
              exact V_lv hJ58 [1, 2, 4] rfl
            · replace h := iF c49 h
              refine V_iload (pc2 := 54) dX8_evening_52 0 rfl ?_
              refine V_goto (tgt := 58) dX8_evening_54 ?_
              have e1 := inj1 h
              subst e1
              exact V_lv hJ58 [1, 2, 4] rfl
  exact V_lv (key4 _ _ _ hl) [2, 3, 1, 0] rfl
noncomputable def fX8_goesTo (a0 : Nat) (p0 : Int32) (p1 : Int32) (m : Mem) : Option (Int32 × Mem) :=
  (cV m a0 8 (fX8_lasts a0 p0 p1 m)).bind fun (x1, m2) =>
  (cV m2 a0 8 (fX8_landsAt a0 x1 m2)).bind fun (x3, m4) =>
  (cV m4 a0 8 (fX8_of a0 p0 (0 : Int32) m4)).bind fun x5 =>
  if x5 = (2 : Int32) then
    (cV m4 a0 8 (fX8_evening a0 x3 m4)).bind fun x6 =>
    some (x6, m4)
  else if x5 = (3 : Int32) then
    (cV m4 a0 8 (fX8_nextOf a0 x3 m4)).bind fun x7 =>
    some (x7, m4)
  else if x5 = (4 : Int32) then
    (cV m4 a0 8 (fX8_of a0 p0 (2 : Int32) m4)).bind fun x8 =>
    (cV m4 a0 8 (fX8_isChild a0 x8 m4)).bind fun b9 =>
    if b9 = true then
      (cV m4 a0 8 (fX8_of a0 p0 (2 : Int32) m4)).bind fun x11 =>
      (cV m4 a0 8 (fX8_own a0 x11 (2 : Int32) m4)).bind fun x12 =>
      if x12 = 0 then
        (cV m4 a0 8 (fX8_of a0 p0 (2 : Int32) m4)).bind fun x14 =>
        some (x14, m4)
      else
        (cV m4 a0 8 (fX8_evening a0 x3 m4)).bind fun x13 =>
        some (x13, m4)
    else
      (cV m4 a0 8 (fX8_evening a0 x3 m4)).bind fun x10 =>
      some (x10, m4)
  else 
    some (x3, m4)
set_option maxRecDepth 20000 in
theorem tX8_goesTo {D : Dat} {a0 : Nat} {p0 : Int32} {p1 : Int32} {m : Mem} {rR : Int32} {mR : Mem} (h : fX8_goesTo a0 p0 p1 m = some (rR, mR)) : T D 5 IX8_goesTo [.ref a0, .int p0, .int p1] m 0 0 (Qi rR mR) := by
  refine T_of_V (by decide) (Nat.le_of_ble_eq_true rfl) ?_
  show V D 5 IX8_goesTo 0 [(0, .ref a0), (1, .int p0), (2, .int p1)] [] m 0 0 (Qi rR mR)
  unfold fX8_goesTo at h
  refine V_aload_n (pc2 := 1) dX8_goesTo_0 0 rfl rfl ?_
  refine V_aload_n (pc2 := 2) dX8_goesTo_1 0 rfl rfl ?_
  refine V_iload_n (pc2 := 3) dX8_goesTo_2 1 rfl rfl ?_
  refine V_iload_n (pc2 := 4) dX8_goesTo_3 2 rfl rfl ?_
  obtain ⟨⟨x1, m2⟩, e_x1, h⟩ := bS h
  try dsimp only at h
  obtain ⟨⟨fs_x1, o_x1⟩, e_x1⟩ := cV_of e_x1
  refine V_cVi (pc2 := 7) [.int p0, .int p1] (st := [.ref a0]) o_x1 (tX8_lasts e_x1) dX8_goesTo_4 wV_8_130 (by decide) rfl (Nat.le_of_ble_eq_true rfl) ?_
  obtain ⟨⟨x3, m4⟩, e_x3, h⟩ := bS h
  try dsimp only at h
  obtain ⟨⟨fs_x3, o_x3⟩, e_x3⟩ := cV_of e_x3
  refine V_cVi (pc2 := 10) [.int x1] (st := []) o_x3 (tX8_landsAt e_x3) dX8_goesTo_7 wV_8_154 (by decide) rfl (Nat.le_of_ble_eq_true rfl) ?_
  refine V_istore_n (pc2 := 11) (L2 := [(3, .int x3), (0, .ref a0), (1, .int p0), (2, .int p1)]) dX8_goesTo_10 ?_ rfl rfl rfl
  refine V_aload_n (pc2 := 12) dX8_goesTo_11 1 rfl rfl ?_
  refine V_iload_n (pc2 := 13) dX8_goesTo_12 2 rfl rfl ?_
  refine V_iconst (v := 0) (pc2 := 14) dX8_goesTo_13 (by decide) ?_
  obtain ⟨x5, e_x5, h⟩ := bS h
  obtain ⟨⟨fs_x5, o_x5⟩, e_x5⟩ := cV_of e_x5
  refine V_cVi (pc2 := 17) [.int p0, .int (0 : Int32)] (st := []) o_x5 (tX8_of e_x5) dX8_goesTo_14 wV_8_121 (by decide) rfl (Nat.le_of_ble_eq_true rfl) ?_
  by_cases c17_0 : x5 = (2 : Int32)
  · replace h := iT c17_0 h
    refine V_table (off := 33) (tgt := 50) dX8_goesTo_17 (by rw [c17_0]; decide) ?_
    refine V_aload_n (pc2 := 51) dX8_goesTo_50 1 rfl rfl ?_
    refine V_iload_n (pc2 := 52) dX8_goesTo_51 0 rfl rfl ?_
    obtain ⟨x6, e_x6, h⟩ := bS h
    obtain ⟨⟨fs_x6, o_x6⟩, e_x6⟩ := cV_of e_x6
    refine V_cVi (pc2 := 55) [.int x3] (st := []) o_x6 (tX8_evening e_x6) dX8_goesTo_52 wV_8_157 (by decide) rfl (Nat.le_of_ble_eq_true rfl) ?_
    obtain ⟨e1, e2⟩ := inj2 h
    subst e1
    subst e2
    exact V_iret dX8_goesTo_55 rfl ⟨rfl, rfl⟩
  replace h := iF c17_0 h
  by_cases c17_1 : x5 = (3 : Int32)
  · replace h := iT c17_1 h
    refine V_table (off := 27) (tgt := 44) dX8_goesTo_17 (by rw [c17_1]; decide) ?_
    refine V_aload_n (pc2 := 45) dX8_goesTo_44 1 rfl rfl ?_
    refine V_iload_n (pc2 := 46) dX8_goesTo_45 0 rfl rfl ?_
    obtain ⟨x7, e_x7, h⟩ := bS h
    obtain ⟨⟨fs_x7, o_x7⟩, e_x7⟩ := cV_of e_x7
    refine V_cVi (pc2 := 49) [.int x3] (st := []) o_x7 (tX8_nextOf e_x7) dX8_goesTo_46 wV_8_102 (by decide) rfl (Nat.le_of_ble_eq_true rfl) ?_
    obtain ⟨e1, e2⟩ := inj2 h
    subst e1
    subst e2
    exact V_iret dX8_goesTo_49 rfl ⟨rfl, rfl⟩
  replace h := iF c17_1 h
  by_cases c17_2 : x5 = (4 : Int32)
  · replace h := iT c17_2 h
    refine V_table (off := 39) (tgt := 56) dX8_goesTo_17 (by rw [c17_2]; decide) ?_
    refine V_aload_n (pc2 := 57) dX8_goesTo_56 1 rfl rfl ?_
    refine V_aload_n (pc2 := 58) dX8_goesTo_57 1 rfl rfl ?_
    refine V_iload_n (pc2 := 59) dX8_goesTo_58 2 rfl rfl ?_
    refine V_iconst (v := 2) (pc2 := 60) dX8_goesTo_59 (by decide) ?_
    obtain ⟨x8, e_x8, h⟩ := bS h
    obtain ⟨⟨fs_x8, o_x8⟩, e_x8⟩ := cV_of e_x8
    refine V_cVi (pc2 := 63) [.int p0, .int (2 : Int32)] (st := [.ref a0]) o_x8 (tX8_of e_x8) dX8_goesTo_60 wV_8_121 (by decide) rfl (Nat.le_of_ble_eq_true rfl) ?_
    obtain ⟨b9, e_b9, h⟩ := bS h
    obtain ⟨⟨fs_b9, o_b9⟩, e_b9⟩ := cV_of e_b9
    refine V_cVi (pc2 := 66) [.int x8] (st := []) o_b9 (tX8_isChild e_b9) dX8_goesTo_63 wV_8_95 (by decide) rfl (Nat.le_of_ble_eq_true rfl) ?_
    refine V_ifb_eq (pc2 := 69) (tgt := 92) dX8_goesTo_66 (fun c66 => ?_) (fun c66 => ?_)
    · replace h := iF c66 h
      refine V_aload_n (pc2 := 93) dX8_goesTo_92 1 rfl rfl ?_
      refine V_iload_n (pc2 := 94) dX8_goesTo_93 0 rfl rfl ?_
      obtain ⟨x10, e_x10, h⟩ := bS h
      obtain ⟨⟨fs_x10, o_x10⟩, e_x10⟩ := cV_of e_x10
      refine V_cVi (pc2 := 97) [.int x3] (st := []) o_x10 (tX8_evening e_x10) dX8_goesTo_94 wV_8_157 (by decide) rfl (Nat.le_of_ble_eq_true rfl) ?_
      obtain ⟨e1, e2⟩ := inj2 h
      subst e1
      subst e2
      exact V_iret dX8_goesTo_97 rfl ⟨rfl, rfl⟩
    · replace h := iT c66 h
      refine V_aload_n (pc2 := 70) dX8_goesTo_69 1 rfl rfl ?_
      refine V_aload_n (pc2 := 71) dX8_goesTo_70 1 rfl rfl ?_
      refine V_iload_n (pc2 := 72) dX8_goesTo_71 2 rfl rfl ?_
      refine V_iconst (v := 2) (pc2 := 73) dX8_goesTo_72 (by decide) ?_
      obtain ⟨x11, e_x11, h⟩ := bS h
      obtain ⟨⟨fs_x11, o_x11⟩, e_x11⟩ := cV_of e_x11
      refine V_cVi (pc2 := 76) [.int p0, .int (2 : Int32)] (st := [.ref a0]) o_x11 (tX8_of e_x11) dX8_goesTo_73 wV_8_121 (by decide) rfl (Nat.le_of_ble_eq_true rfl) ?_
      refine V_iconst (v := 2) (pc2 := 77) dX8_goesTo_76 (by decide) ?_
      obtain ⟨x12, e_x12, h⟩ := bS h
      obtain ⟨⟨fs_x12, o_x12⟩, e_x12⟩ := cV_of e_x12
      refine V_cVi (pc2 := 80) [.int x11, .int (2 : Int32)] (st := []) o_x12 (tX8_own e_x12) dX8_goesTo_77 wV_8_74 (by decide) rfl (Nat.le_of_ble_eq_true rfl) ?_
      refine V_if_ne (pc2 := 83) (tgt := 92) dX8_goesTo_80 (fun c80 => ?_) (fun c80 => ?_)
      · replace h := iF c80 h
        refine V_aload_n (pc2 := 93) dX8_goesTo_92 1 rfl rfl ?_
        refine V_iload_n (pc2 := 94) dX8_goesTo_93 0 rfl rfl ?_
        obtain ⟨x13, e_x13, h⟩ := bS h
        obtain ⟨⟨fs_x13, o_x13⟩, e_x13⟩ := cV_of e_x13
        refine V_cVi (pc2 := 97) [.int x3] (st := []) o_x13 (tX8_evening e_x13) dX8_goesTo_94 wV_8_157 (by decide) rfl (Nat.le_of_ble_eq_true rfl) ?_
        obtain ⟨e1, e2⟩ := inj2 h
        subst e1
        subst e2
        exact V_iret dX8_goesTo_97 rfl ⟨rfl, rfl⟩
      · replace h := iT c80 h
        refine V_aload_n (pc2 := 84) dX8_goesTo_83 1 rfl rfl ?_
        refine V_iload_n (pc2 := 85) dX8_goesTo_84 2 rfl rfl ?_
        refine V_iconst (v := 2) (pc2 := 86) dX8_goesTo_85 (by decide) ?_
        obtain ⟨x14, e_x14, h⟩ := bS h
        obtain ⟨⟨fs_x14, o_x14⟩, e_x14⟩ := cV_of e_x14
        refine V_cVi (pc2 := 89) [.int p0, .int (2 : Int32)] (st := []) o_x14 (tX8_of e_x14) dX8_goesTo_86 wV_8_121 (by decide) rfl (Nat.le_of_ble_eq_true rfl) ?_
        refine V_goto (tgt := 97) dX8_goesTo_89 ?_
        obtain ⟨e1, e2⟩ := inj2 h
        subst e1
        subst e2
        exact V_iret dX8_goesTo_97 rfl ⟨rfl, rfl⟩
  replace h := iF c17_2 h
  refine V_tableD (tgt := 98) dX8_goesTo_17 (by have g0 := lv_neT c17_0 (show (2 : Int32).toInt = 2 by decide); have g1 := lv_neT c17_1 (show (3 : Int32).toInt = 3 by decide); have g2 := lv_neT c17_2 (show (4 : Int32).toInt = 4 by decide); omega) ?_
  refine V_iload_n (pc2 := 99) dX8_goesTo_98 0 rfl rfl ?_
  obtain ⟨e1, e2⟩ := inj2 h
  subst e1
  subst e2
  exact V_iret dX8_goesTo_99 rfl ⟨rfl, rfl⟩
noncomputable def fX8_stopNow (a0 : Nat) (m : Mem) : Option (Int32) :=
  (gR m a0 8 0).bind fun r1 =>
  (ldI m r1 (4 : Int32)).bind fun x2 =>
  (gR m a0 8 0).bind fun r3 =>
  (ldI m r3 (1 : Int32)).bind fun x4 =>
  (rmI x2 x4).bind fun x5 =>
  some x5
set_option maxRecDepth 20000 in
theorem tX8_stopNow {D : Dat} {a0 : Nat} {m : Mem} {rR : Int32} (h : fX8_stopNow a0 m = some rR) : T D 0 IX8_stopNow [.ref a0] m 0 0 (Qi rR m) := by
  refine T_of_V (by decide) (Nat.le_of_ble_eq_true rfl) ?_
  show V D 0 IX8_stopNow 0 [(0, .ref a0)] [] m 0 0 (Qi rR m)
  unfold fX8_stopNow at h
  refine V_aload_n (pc2 := 1) dX8_stopNow_0 0 rfl rfl ?_
  obtain ⟨r1, e_r1, h⟩ := bS h
  refine V_gR (pc2 := 4) e_r1 dX8_stopNow_1 wF_8_7 ?_
  refine V_iconst (v := 4) (pc2 := 5) dX8_stopNow_4 (by decide) ?_
  obtain ⟨x2, e_x2, h⟩ := bS h
  refine V_ldI (pc2 := 6) e_x2 dX8_stopNow_5 ?_
  refine V_aload_n (pc2 := 7) dX8_stopNow_6 0 rfl rfl ?_
  obtain ⟨r3, e_r3, h⟩ := bS h
  refine V_gR (pc2 := 10) e_r3 dX8_stopNow_7 wF_8_7 ?_
  refine V_iconst (v := 1) (pc2 := 11) dX8_stopNow_10 (by decide) ?_
  obtain ⟨x4, e_x4, h⟩ := bS h
  refine V_ldI (pc2 := 12) e_x4 dX8_stopNow_11 ?_
  obtain ⟨x5, e_x5, h⟩ := bS h
  refine V_rmI (pc2 := 13) e_x5 dX8_stopNow_12 ?_
  have e1 := inj1 h
  subst e1
  exact V_iret dX8_stopNow_13 rfl ⟨rfl, rfl⟩
noncomputable def fX8_turn (a0 : Nat) (m : Mem) : Option (Int32 × Mem) :=
  (cV m a0 8 (fX8_goes a0 m)).bind fun b1 =>
  if b1 = true then
    (cV m a0 8 (fX8_stopNow a0 m)).bind fun x2 =>
    (cV m a0 8 (fX8_isLot a0 x2 m)).bind fun b3 =>
    (
      if b3 = true then
        (cV m a0 8 (fX8_drawn a0 m)).bind fun (x4, m5) =>
        (rmI x4 (10 : Int32)).bind fun x6 =>
        some (x6, m5)
      else
        some ((0 : Int32), m)).bind fun (y7, m8) =>
    (cV m8 a0 8 (fX8_goesTo a0 x2 y7 m8)).bind fun (x9, m10) =>
    (cV m10 a0 8 (fX8_sortNow a0 m10)).bind fun x11 =>
    (gR m10 a0 8 0).bind fun r12 =>
    (ldI m10 r12 (7 : Int32)).bind fun x13 =>
    (
      if x13 = (1 : Int32) then
        (cV m10 a0 8 (fX8_many a0 m10)).bind fun x14 =>
        if x14 ≤ (2 : Int32) then
          some (0 : Int32)
        else
          some (1 : Int32)
      else
        some (0 : Int32)).bind fun y15 =>
    (gR m10 a0 8 0).bind fun r16 =>
    (ldI m10 r16 (8 : Int32)).bind fun x17 =>
    (cV m10 a0 8 (fX8_lasts a0 x2 y7 m10)).bind fun (x18, m19) =>
    (stI m19 r16 (8 : Int32) (x17 + x18)).bind fun m20 =>
    (gR m20 a0 8 0).bind fun r21 =>
    (gR m20 a0 8 0).bind fun r22 =>
    (ldI m20 r22 (((12 : Int32) + ((3 : Int32) * x9)) + (1 : Int32))).bind fun x23 =>
    (fX8_held (x23 + (1 : Int32)) (0 : Int32) (99 : Int32) m20).bind fun x24 =>
    (stI m20 r21 (((12 : Int32) + ((3 : Int32) * x9)) + (1 : Int32)) x24).bind fun m25 =>
    (gR m25 a0 8 0).bind fun r26 =>
    (stI m25 r26 (6 : Int32) x9).bind fun m27 =>
    (gR m27 a0 8 0).bind fun r28 =>
    (ldI m27 r28 (9 : Int32)).bind fun x29 =>
    (
      if x11 = (1 : Int32) then
        some (1 : Int32)
      else
        some (0 : Int32)).bind fun y30 =>
    (stI m27 r28 (9 : Int32) (x29 + y30)).bind fun m31 =>
    (gR m31 a0 8 0).bind fun r32 =>
    (ldI m31 r32 (10 : Int32)).bind fun x33 =>
    (
      if x11 = (2 : Int32) then
        some (1 : Int32)
      else
        some (0 : Int32)).bind fun y34 =>
    (stI m31 r32 (10 : Int32) (x33 + y34)).bind fun m35 =>
    (gR m35 a0 8 0).bind fun r36 =>
    (
      if x11 = (2 : Int32) then
        (gR m35 a0 8 0).bind fun r39 =>
        (ldI m35 r39 (5 : Int32)).bind fun x40 =>
        some ((1 : Int32) - x40)
      else
        (gR m35 a0 8 0).bind fun r37 =>
        (ldI m35 r37 (5 : Int32)).bind fun x38 =>
        some x38).bind fun y41 =>
    (stI m35 r36 (5 : Int32) y41).bind fun m42 =>
    (gR m42 a0 8 0).bind fun r43 =>
    (
      if y15 = 0 then
        some (0 : Int32)
      else
        some (1 : Int32)).bind fun y44 =>
    (stI m42 r43 (((12 : Int32) + ((3 : Int32) * x9)) + (2 : Int32)) y44).bind fun m45 =>
    (gR m45 a0 8 0).bind fun r46 =>
    (ldI m45 r46 (4 : Int32)).bind fun x47 =>
    (stI m45 r46 (4 : Int32) (x47 + (1 : Int32))).bind fun m48 =>
    some (x9, m48)
  else
    (gR m a0 8 0).bind fun r49 =>
    (ldI m r49 (4 : Int32)).bind fun x50 =>
    (stI m r49 (4 : Int32) (x50 + (1 : Int32))).bind fun m51 =>
    some ((-1 : Int32), m51)
set_option maxRecDepth 20000 in
theorem tX8_turn {D : Dat} {a0 : Nat} {m : Mem} {rR : Int32} {mR : Mem} (h : fX8_turn a0 m = some (rR, mR)) : T D 6 IX8_turn [.ref a0] m 0 0 (Qi rR mR) := by
  refine T_of_V (by decide) (Nat.le_of_ble_eq_true rfl) ?_
  show V D 6 IX8_turn 0 [(0, .ref a0)] [] m 0 0 (Qi rR mR)
  unfold fX8_turn at h
  refine V_aload_n (pc2 := 1) dX8_turn_0 0 rfl rfl ?_
  obtain ⟨b1, e_b1, h⟩ := bS h
  obtain ⟨⟨fs_b1, o_b1⟩, e_b1⟩ := cV_of e_b1
  refine V_cVi (pc2 := 4) [] (st := []) o_b1 (tX8_goes e_b1) dX8_turn_1 wV_8_160 (by decide) rfl (Nat.le_of_ble_eq_true rfl) ?_
  refine V_ifb_ne (pc2 := 7) (tgt := 19) dX8_turn_4 (fun c4 => ?_) (fun c4 => ?_)
  · replace h := iT c4 h
    refine V_aload_n (pc2 := 20) dX8_turn_19 0 rfl rfl ?_
    obtain ⟨x2, e_x2, h⟩ := bS h
    obtain ⟨⟨fs_x2, o_x2⟩, e_x2⟩ := cV_of e_x2
    refine V_cVi (pc2 := 23) [] (st := []) o_x2 (tX8_stopNow e_x2) dX8_turn_20 wV_8_164 (by decide) rfl (Nat.le_of_ble_eq_true rfl) ?_
    refine V_istore_n (pc2 := 24) (L2 := [(1, .int x2), (0, .ref a0)]) dX8_turn_23 ?_ rfl rfl rfl
    refine V_aload_n (pc2 := 25) dX8_turn_24 1 rfl rfl ?_
    refine V_iload_n (pc2 := 26) dX8_turn_25 0 rfl rfl ?_
    obtain ⟨b3, e_b3, h⟩ := bS h
    obtain ⟨⟨fs_b3, o_b3⟩, e_b3⟩ := cV_of e_b3
    refine V_cVi (pc2 := 29) [.int x2] (st := []) o_b3 (tX8_isLot e_b3) dX8_turn_26 wV_8_124 (by decide) rfl (Nat.le_of_ble_eq_true rfl) ?_
    obtain ⟨⟨y7, m8⟩, hb, h⟩ := bS h
    try dsimp only at h
    have hJ43 : V D 6 IX8_turn 43 [(0, .ref a0), (1, .int x2)] [.int y7] m8 0 0 (Qi rR mR) := by
      refine V_istore_n (pc2 := 44) (L2 := [(2, .int y7), (0, .ref a0), (1, .int x2)]) dX8_turn_43 ?_ rfl rfl rfl
      refine V_aload_n (pc2 := 45) dX8_turn_44 1 rfl rfl ?_
      refine V_iload_n (pc2 := 46) dX8_turn_45 2 rfl rfl ?_
      refine V_iload_n (pc2 := 47) dX8_turn_46 0 rfl rfl ?_
      obtain ⟨⟨x9, m10⟩, e_x9, h⟩ := bS h
      try dsimp only at h
      obtain ⟨⟨fs_x9, o_x9⟩, e_x9⟩ := cV_of e_x9
      refine V_cVi (pc2 := 50) [.int x2, .int y7] (st := []) o_x9 (tX8_goesTo e_x9) dX8_turn_47 wV_8_167 (by decide) rfl (Nat.le_of_ble_eq_true rfl) ?_
      refine V_istore_n (pc2 := 51) (L2 := [(3, .int x9), (2, .int y7), (0, .ref a0), (1, .int x2)]) dX8_turn_50 ?_ rfl rfl rfl
      refine V_aload_n (pc2 := 52) dX8_turn_51 2 rfl rfl ?_
      obtain ⟨x11, e_x11, h⟩ := bS h
      obtain ⟨⟨fs_x11, o_x11⟩, e_x11⟩ := cV_of e_x11
      refine V_cVi (pc2 := 55) [] (st := []) o_x11 (tX8_sortNow e_x11) dX8_turn_52 wV_8_85 (by decide) rfl (Nat.le_of_ble_eq_true rfl) ?_
      refine V_istore (pc2 := 57) (L2 := [(4, .int x11), (3, .int x9), (2, .int y7), (0, .ref a0), (1, .int x2)]) dX8_turn_55 ?_ rfl rfl
      refine V_aload_n (pc2 := 58) dX8_turn_57 3 rfl rfl ?_
      obtain ⟨r12, e_r12, h⟩ := bS h
      refine V_gR (pc2 := 61) e_r12 dX8_turn_58 wF_8_7 ?_
      refine V_bipush (v := 7) (pc2 := 63) dX8_turn_61 (by decide) ?_
      obtain ⟨x13, e_x13, h⟩ := bS h
      refine V_ldI (pc2 := 64) e_x13 dX8_turn_63 ?_
      refine V_iconst (v := 1) (pc2 := 65) dX8_turn_64 (by decide) ?_
      obtain ⟨y15, hb, h⟩ := bS h
      have hJ81 : V D 6 IX8_turn 81 [(0, .ref a0), (1, .int x2), (2, .int y7), (3, .int x9), (4, .int x11)] [.int y15] m10 0 0 (Qi rR mR) := by
        refine V_istore (pc2 := 83) (L2 := [(5, .int y15), (0, .ref a0), (1, .int x2), (2, .int y7), (3, .int x9), (4, .int x11)]) dX8_turn_81 ?_ rfl rfl
        refine V_aload_n (pc2 := 84) dX8_turn_83 1 rfl rfl ?_
        obtain ⟨r16, e_r16, h⟩ := bS h
        refine V_gR (pc2 := 87) e_r16 dX8_turn_84 wF_8_7 ?_
        refine V_bipush (v := 8) (pc2 := 89) dX8_turn_87 (by decide) ?_
        refine V_dup2 (pc2 := 90) dX8_turn_89 rfl rfl ?_
        obtain ⟨x17, e_x17, h⟩ := bS h
        refine V_ldI (pc2 := 91) e_x17 dX8_turn_90 ?_
        refine V_aload_n (pc2 := 92) dX8_turn_91 1 rfl rfl ?_
        refine V_iload_n (pc2 := 93) dX8_turn_92 2 rfl rfl ?_
        refine V_iload_n (pc2 := 94) dX8_turn_93 3 rfl rfl ?_
        obtain ⟨⟨x18, m19⟩, e_x18, h⟩ := bS h
        try dsimp only at h
        obtain ⟨⟨fs_x18, o_x18⟩, e_x18⟩ := cV_of e_x18
        refine V_cVi (pc2 := 97) [.int x2, .int y7] (st := [.int x17, .int (8 : Int32), .ref r16]) o_x18 (tX8_lasts e_x18) dX8_turn_94 wV_8_130 (by decide) rfl (Nat.le_of_ble_eq_true rfl) ?_
        refine V_iadd (pc2 := 98) dX8_turn_97 ?_
        obtain ⟨m20, e_m20, h⟩ := bS h
        refine V_stI (pc2 := 99) e_m20 dX8_turn_98 ?_
        refine V_bipush (v := 12) (pc2 := 101) dX8_turn_99 (by decide) ?_
        refine V_iconst (v := 3) (pc2 := 102) dX8_turn_101 (by decide) ?_
        refine V_iload_n (pc2 := 103) dX8_turn_102 4 rfl rfl ?_
        refine V_imul (pc2 := 104) dX8_turn_103 ?_
        refine V_iadd (pc2 := 105) dX8_turn_104 ?_
        refine V_istore (pc2 := 107) (L2 := [(6, .int ((12 : Int32) + ((3 : Int32) * x9))), (5, .int y15), (0, .ref a0), (1, .int x2), (2, .int y7), (3, .int x9), (4, .int x11)]) dX8_turn_105 ?_ rfl rfl
        refine V_aload_n (pc2 := 108) dX8_turn_107 2 rfl rfl ?_
        obtain ⟨r21, e_r21, h⟩ := bS h
        refine V_gR (pc2 := 111) e_r21 dX8_turn_108 wF_8_7 ?_
        refine V_iload (pc2 := 113) dX8_turn_111 0 rfl ?_
        refine V_iconst (v := 1) (pc2 := 114) dX8_turn_113 (by decide) ?_
        refine V_iadd (pc2 := 115) dX8_turn_114 ?_
        refine V_aload_n (pc2 := 116) dX8_turn_115 2 rfl rfl ?_
        obtain ⟨r22, e_r22, h⟩ := bS h
        refine V_gR (pc2 := 119) e_r22 dX8_turn_116 wF_8_7 ?_
        refine V_iload (pc2 := 121) dX8_turn_119 0 rfl ?_
        refine V_iconst (v := 1) (pc2 := 122) dX8_turn_121 (by decide) ?_
        refine V_iadd (pc2 := 123) dX8_turn_122 ?_
        obtain ⟨x23, e_x23, h⟩ := bS h
        refine V_ldI (pc2 := 124) e_x23 dX8_turn_123 ?_
        refine V_iconst (v := 1) (pc2 := 125) dX8_turn_124 (by decide) ?_
        refine V_iadd (pc2 := 126) dX8_turn_125 ?_
        refine V_iconst (v := 0) (pc2 := 127) dX8_turn_126 (by decide) ?_
        refine V_bipush (v := 99) (pc2 := 129) dX8_turn_127 (by decide) ?_
        obtain ⟨x24, e_x24, h⟩ := bS h
        refine V_cSi (pc2 := 132) [.int (x23 + (1 : Int32)), .int (0 : Int32), .int (99 : Int32)] (st := [.int (((12 : Int32) + ((3 : Int32) * x9)) + (1 : Int32)), .ref r21]) (tX8_held e_x24) dX8_turn_129 wS_8_92 (by decide) rfl (Nat.le_of_ble_eq_true rfl) ?_
        obtain ⟨m25, e_m25, h⟩ := bS h
        refine V_stI (pc2 := 133) e_m25 dX8_turn_132 ?_
        refine V_aload_n (pc2 := 134) dX8_turn_133 2 rfl rfl ?_
        obtain ⟨r26, e_r26, h⟩ := bS h
        refine V_gR (pc2 := 137) e_r26 dX8_turn_134 wF_8_7 ?_
        refine V_bipush (v := 6) (pc2 := 139) dX8_turn_137 (by decide) ?_
        refine V_iload_n (pc2 := 140) dX8_turn_139 5 rfl rfl ?_
        obtain ⟨m27, e_m27, h⟩ := bS h
        refine V_stI (pc2 := 141) e_m27 dX8_turn_140 ?_
        refine V_aload_n (pc2 := 142) dX8_turn_141 2 rfl rfl ?_
        obtain ⟨r28, e_r28, h⟩ := bS h
        refine V_gR (pc2 := 145) e_r28 dX8_turn_142 wF_8_7 ?_
        refine V_bipush (v := 9) (pc2 := 147) dX8_turn_145 (by decide) ?_
        refine V_dup2 (pc2 := 148) dX8_turn_147 rfl rfl ?_
        obtain ⟨x29, e_x29, h⟩ := bS h
        refine V_ldI (pc2 := 149) e_x29 dX8_turn_148 ?_
        refine V_iload (pc2 := 151) dX8_turn_149 6 rfl ?_
        refine V_iconst (v := 1) (pc2 := 152) dX8_turn_151 (by decide) ?_
        obtain ⟨y30, hb, h⟩ := bS h
        have hJ160 : V D 6 IX8_turn 160 [(0, .ref a0), (3, .int x9), (4, .int x11), (5, .int y15), (6, .int ((12 : Int32) + ((3 : Int32) * x9)))] [.int y30, .int x29, .int (9 : Int32), .ref r28] m27 0 0 (Qi rR mR) := by
          refine V_iadd (pc2 := 161) dX8_turn_160 ?_
          obtain ⟨m31, e_m31, h⟩ := bS h
          refine V_stI (pc2 := 162) e_m31 dX8_turn_161 ?_
          refine V_aload_n (pc2 := 163) dX8_turn_162 0 rfl rfl ?_
          obtain ⟨r32, e_r32, h⟩ := bS h
          refine V_gR (pc2 := 166) e_r32 dX8_turn_163 wF_8_7 ?_
          refine V_bipush (v := 10) (pc2 := 168) dX8_turn_166 (by decide) ?_
          refine V_dup2 (pc2 := 169) dX8_turn_168 rfl rfl ?_
          obtain ⟨x33, e_x33, h⟩ := bS h
          refine V_ldI (pc2 := 170) e_x33 dX8_turn_169 ?_
          refine V_iload (pc2 := 172) dX8_turn_170 2 rfl ?_
          refine V_iconst (v := 2) (pc2 := 173) dX8_turn_172 (by decide) ?_
          obtain ⟨y34, hb, h⟩ := bS h
          have hJ181 : V D 6 IX8_turn 181 [(0, .ref a0), (3, .int x9), (4, .int x11), (5, .int y15), (6, .int ((12 : Int32) + ((3 : Int32) * x9)))] [.int y34, .int x33, .int (10 : Int32), .ref r32] m31 0 0 (Qi rR mR) := by
            refine V_iadd (pc2 := 182) dX8_turn_181 ?_
            obtain ⟨m35, e_m35, h⟩ := bS h
            refine V_stI (pc2 := 183) e_m35 dX8_turn_182 ?_
            refine V_aload_n (pc2 := 184) dX8_turn_183 0 rfl rfl ?_
            obtain ⟨r36, e_r36, h⟩ := bS h
            refine V_gR (pc2 := 187) e_r36 dX8_turn_184 wF_8_7 ?_
            refine V_iconst (v := 5) (pc2 := 188) dX8_turn_187 (by decide) ?_
            refine V_iload (pc2 := 190) dX8_turn_188 2 rfl ?_
            refine V_iconst (v := 2) (pc2 := 191) dX8_turn_190 (by decide) ?_
            obtain ⟨y41, hb, h⟩ := bS h
            have hJ211 : V D 6 IX8_turn 211 [(0, .ref a0), (3, .int x9), (5, .int y15), (6, .int ((12 : Int32) + ((3 : Int32) * x9)))] [.int y41, .int (5 : Int32), .ref r36] m35 0 0 (Qi rR mR) := by
              obtain ⟨m42, e_m42, h⟩ := bS h
              refine V_stI (pc2 := 212) e_m42 dX8_turn_211 ?_
              refine V_aload_n (pc2 := 213) dX8_turn_212 0 rfl rfl ?_
              obtain ⟨r43, e_r43, h⟩ := bS h
              refine V_gR (pc2 := 216) e_r43 dX8_turn_213 wF_8_7 ?_
              refine V_iload (pc2 := 218) dX8_turn_216 3 rfl ?_
              refine V_iconst (v := 2) (pc2 := 219) dX8_turn_218 (by decide) ?_
              refine V_iadd (pc2 := 220) dX8_turn_219 ?_
              refine V_iload (pc2 := 222) dX8_turn_220 2 rfl ?_
              obtain ⟨y44, hb, h⟩ := bS h
              have hJ230 : V D 6 IX8_turn 230 [(0, .ref a0), (3, .int x9)] [.int y44, .int (((12 : Int32) + ((3 : Int32) * x9)) + (2 : Int32)), .ref r43] m42 0 0 (Qi rR mR) := by
                obtain ⟨m45, e_m45, h⟩ := bS h
                refine V_stI (pc2 := 231) e_m45 dX8_turn_230 ?_
                refine V_aload_n (pc2 := 232) dX8_turn_231 0 rfl rfl ?_
                obtain ⟨r46, e_r46, h⟩ := bS h
                refine V_gR (pc2 := 235) e_r46 dX8_turn_232 wF_8_7 ?_
                refine V_iconst (v := 4) (pc2 := 236) dX8_turn_235 (by decide) ?_
                refine V_dup2 (pc2 := 237) dX8_turn_236 rfl rfl ?_
                obtain ⟨x47, e_x47, h⟩ := bS h
                refine V_ldI (pc2 := 238) e_x47 dX8_turn_237 ?_
                refine V_iconst (v := 1) (pc2 := 239) dX8_turn_238 (by decide) ?_
                refine V_iadd (pc2 := 240) dX8_turn_239 ?_
                obtain ⟨m48, e_m48, h⟩ := bS h
                refine V_stI (pc2 := 241) e_m48 dX8_turn_240 ?_
                refine V_iload_n (pc2 := 242) dX8_turn_241 1 rfl rfl ?_
                obtain ⟨e1, e2⟩ := inj2 h
                subst e1
                subst e2
                exact V_iret dX8_turn_242 rfl ⟨rfl, rfl⟩
              clear h
              have h := hb
              clear hb
              refine V_if_eq (pc2 := 225) (tgt := 229) dX8_turn_222 (fun c222 => ?_) (fun c222 => ?_)
              · replace h := iT c222 h
                refine V_iconst (v := 0) (pc2 := 230) dX8_turn_229 (by decide) ?_
                have e1 := inj1 h
                subst e1
                exact V_lv hJ230 [0, 1] rfl
              · replace h := iF c222 h
                refine V_iconst (v := 1) (pc2 := 226) dX8_turn_225 (by decide) ?_
                refine V_goto (tgt := 230) dX8_turn_226 ?_
                have e1 := inj1 h
                subst e1
                exact V_lv hJ230 [0, 1] rfl
            clear h
            have h := hb
            clear hb
            refine V_icmp_ne (pc2 := 194) (tgt := 205) dX8_turn_191 (fun c191 => ?_) (fun c191 => ?_)
            · replace h := iF c191 h
              refine V_aload_n (pc2 := 206) dX8_turn_205 0 rfl rfl ?_
              obtain ⟨r37, e_r37, h⟩ := bS h
              refine V_gR (pc2 := 209) e_r37 dX8_turn_206 wF_8_7 ?_
              refine V_iconst (v := 5) (pc2 := 210) dX8_turn_209 (by decide) ?_
              obtain ⟨x38, e_x38, h⟩ := bS h
              refine V_ldI (pc2 := 211) e_x38 dX8_turn_210 ?_
              have e1 := inj1 h
              subst e1
              exact V_lv hJ211 [0, 1, 3, 4] rfl
            · replace h := iT c191 h
              refine V_iconst (v := 1) (pc2 := 195) dX8_turn_194 (by decide) ?_
              refine V_aload_n (pc2 := 196) dX8_turn_195 0 rfl rfl ?_
              obtain ⟨r39, e_r39, h⟩ := bS h
              refine V_gR (pc2 := 199) e_r39 dX8_turn_196 wF_8_7 ?_
              refine V_iconst (v := 5) (pc2 := 200) dX8_turn_199 (by decide) ?_
              obtain ⟨x40, e_x40, h⟩ := bS h
              refine V_ldI (pc2 := 201) e_x40 dX8_turn_200 ?_
              refine V_isub (pc2 := 202) dX8_turn_201 ?_
              refine V_goto (tgt := 211) dX8_turn_202 ?_
              have e1 := inj1 h
              subst e1
              exact V_lv hJ211 [0, 1, 3, 4] rfl
          clear h
          have h := hb
          clear hb
          refine V_icmp_ne (pc2 := 176) (tgt := 180) dX8_turn_173 (fun c173 => ?_) (fun c173 => ?_)
          · replace h := iF c173 h
            refine V_iconst (v := 0) (pc2 := 181) dX8_turn_180 (by decide) ?_
            have e1 := inj1 h
            subst e1
            exact hJ181
          · replace h := iT c173 h
            refine V_iconst (v := 1) (pc2 := 177) dX8_turn_176 (by decide) ?_
            refine V_goto (tgt := 181) dX8_turn_177 ?_
            have e1 := inj1 h
            subst e1
            exact hJ181
        clear h
        have h := hb
        clear hb
        refine V_icmp_ne (pc2 := 155) (tgt := 159) dX8_turn_152 (fun c152 => ?_) (fun c152 => ?_)
        · replace h := iF c152 h
          refine V_iconst (v := 0) (pc2 := 160) dX8_turn_159 (by decide) ?_
          have e1 := inj1 h
          subst e1
          exact V_lv hJ160 [2, 5, 6, 1, 0] rfl
        · replace h := iT c152 h
          refine V_iconst (v := 1) (pc2 := 156) dX8_turn_155 (by decide) ?_
          refine V_goto (tgt := 160) dX8_turn_156 ?_
          have e1 := inj1 h
          subst e1
          exact V_lv hJ160 [2, 5, 6, 1, 0] rfl
      clear h
      have h := hb
      clear hb
      refine V_icmp_ne (pc2 := 68) (tgt := 80) dX8_turn_65 (fun c65 => ?_) (fun c65 => ?_)
      · replace h := iF c65 h
        refine V_iconst (v := 0) (pc2 := 81) dX8_turn_80 (by decide) ?_
        have e1 := inj1 h
        subst e1
        exact V_lv hJ81 [3, 4, 2, 1, 0] rfl
      · replace h := iT c65 h
        refine V_aload_n (pc2 := 69) dX8_turn_68 3 rfl rfl ?_
        obtain ⟨x14, e_x14, h⟩ := bS h
        obtain ⟨⟨fs_x14, o_x14⟩, e_x14⟩ := cV_of e_x14
        refine V_cVi (pc2 := 72) [] (st := []) o_x14 (tX8_many e_x14) dX8_turn_69 wV_8_151 (by decide) rfl (Nat.le_of_ble_eq_true rfl) ?_
        refine V_iconst (v := 2) (pc2 := 73) dX8_turn_72 (by decide) ?_
        refine V_icmp_le (pc2 := 76) (tgt := 80) dX8_turn_73 (fun c73 => ?_) (fun c73 => ?_)
        · replace h := iT c73 h
          refine V_iconst (v := 0) (pc2 := 81) dX8_turn_80 (by decide) ?_
          have e1 := inj1 h
          subst e1
          exact V_lv hJ81 [3, 4, 2, 1, 0] rfl
        · replace h := iF c73 h
          refine V_iconst (v := 1) (pc2 := 77) dX8_turn_76 (by decide) ?_
          refine V_goto (tgt := 81) dX8_turn_77 ?_
          have e1 := inj1 h
          subst e1
          exact V_lv hJ81 [3, 4, 2, 1, 0] rfl
    clear h
    have h := hb
    clear hb
    refine V_ifb_eq (pc2 := 32) (tgt := 42) dX8_turn_29 (fun c29 => ?_) (fun c29 => ?_)
    · replace h := iF c29 h
      refine V_iconst (v := 0) (pc2 := 43) dX8_turn_42 (by decide) ?_
      obtain ⟨e1, e2⟩ := inj2 h
      subst e1
      subst e2
      exact V_lv hJ43 [1, 0] rfl
    · replace h := iT c29 h
      refine V_aload_n (pc2 := 33) dX8_turn_32 1 rfl rfl ?_
      obtain ⟨⟨x4, m5⟩, e_x4, h⟩ := bS h
      try dsimp only at h
      obtain ⟨⟨fs_x4, o_x4⟩, e_x4⟩ := cV_of e_x4
      refine V_cVi (pc2 := 36) [] (st := []) o_x4 (tX8_drawn e_x4) dX8_turn_33 wV_8_143 (by decide) rfl (Nat.le_of_ble_eq_true rfl) ?_
      refine V_bipush (v := 10) (pc2 := 38) dX8_turn_36 (by decide) ?_
      obtain ⟨x6, e_x6, h⟩ := bS h
      refine V_rmI (pc2 := 39) e_x6 dX8_turn_38 ?_
      refine V_goto (tgt := 43) dX8_turn_39 ?_
      obtain ⟨e1, e2⟩ := inj2 h
      subst e1
      subst e2
      exact V_lv hJ43 [1, 0] rfl
  · replace h := iF c4 h
    refine V_aload_n (pc2 := 8) dX8_turn_7 0 rfl rfl ?_
    obtain ⟨r49, e_r49, h⟩ := bS h
    refine V_gR (pc2 := 11) e_r49 dX8_turn_8 wF_8_7 ?_
    refine V_iconst (v := 4) (pc2 := 12) dX8_turn_11 (by decide) ?_
    refine V_dup2 (pc2 := 13) dX8_turn_12 rfl rfl ?_
    obtain ⟨x50, e_x50, h⟩ := bS h
    refine V_ldI (pc2 := 14) e_x50 dX8_turn_13 ?_
    refine V_iconst (v := 1) (pc2 := 15) dX8_turn_14 (by decide) ?_
    refine V_iadd (pc2 := 16) dX8_turn_15 ?_
    obtain ⟨m51, e_m51, h⟩ := bS h
    refine V_stI (pc2 := 17) e_m51 dX8_turn_16 ?_
    refine V_iconst (v := -1) (pc2 := 18) dX8_turn_17 (by decide) ?_
    obtain ⟨e1, e2⟩ := inj2 h
    subst e1
    subst e2
    exact V_iret dX8_turn_18 rfl ⟨rfl, rfl⟩
