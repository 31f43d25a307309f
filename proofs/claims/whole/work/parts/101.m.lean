noncomputable def fX2_addStop (a0 : Nat) (p0 : Int32) (p1 : Int32) (p2 : Int32) (m : Mem) : Option (Mem) :=
  (gI m a0 2 5).bind fun x1 =>
  if (10 : Int32) ≤ x1 then
    some m
  else
    (gR m a0 2 4).bind fun r2 =>
    (gI m a0 2 5).bind fun x3 =>
    (ldR m r2 2 x3).bind fun r4 =>
    (pI m r4 5 0 p0).bind fun m5 =>
    (gR m5 a0 2 4).bind fun r6 =>
    (gI m5 a0 2 5).bind fun x7 =>
    (ldR m5 r6 2 x7).bind fun r8 =>
    (pI m5 r8 5 1 p1).bind fun m9 =>
    (gR m9 a0 2 4).bind fun r10 =>
    (gI m9 a0 2 5).bind fun x11 =>
    (ldR m9 r10 2 x11).bind fun r12 =>
    (pI m9 r12 5 2 p2).bind fun m13 =>
    (gI m13 a0 2 5).bind fun x14 =>
    (pI m13 a0 2 5 (x14 + (1 : Int32))).bind fun m15 =>
    some m15
set_option maxRecDepth 20000 in
theorem tX2_addStop {D : Dat} {a0 : Nat} {p0 : Int32} {p1 : Int32} {p2 : Int32} {m : Mem} {mR : Mem} (h : fX2_addStop a0 p0 p1 p2 m = some mR) : T D 0 IX2_addStop [.ref a0, .int p0, .int p1, .int p2] m 0 0 (Qv mR) := by
  refine T_of_V (by decide) (Nat.le_of_ble_eq_true rfl) ?_
  show V D 0 IX2_addStop 0 [(0, .ref a0), (1, .int p0), (2, .int p1), (3, .int p2)] [] m 0 0 (Qv mR)
  unfold fX2_addStop at h
  refine V_aload_n (pc2 := 1) dX2_addStop_0 0 rfl rfl ?_
  obtain ⟨x1, e_x1, h⟩ := bS h
  refine V_gI (pc2 := 4) e_x1 dX2_addStop_1 wF_2_64 ?_
  refine V_bipush (v := 10) (pc2 := 6) dX2_addStop_4 (by decide) ?_
  refine V_icmp_ge (pc2 := 9) (tgt := 58) dX2_addStop_6 (fun c6 => ?_) (fun c6 => ?_)
  · replace h := iT c6 h
    have e1 := inj1 h
    subst e1
    exact V_vret dX2_addStop_58 rfl ⟨rfl, rfl⟩
  · replace h := iF c6 h
    refine V_aload_n (pc2 := 10) dX2_addStop_9 0 rfl rfl ?_
    obtain ⟨r2, e_r2, h⟩ := bS h
    refine V_gR (pc2 := 13) e_r2 dX2_addStop_10 wF_2_23 ?_
    refine V_aload_n (pc2 := 14) dX2_addStop_13 0 rfl rfl ?_
    obtain ⟨x3, e_x3, h⟩ := bS h
    refine V_gI (pc2 := 17) e_x3 dX2_addStop_14 wF_2_64 ?_
    obtain ⟨r4, e_r4, h⟩ := bS h
    refine V_ldR (pc2 := 18) e_r4 dX2_addStop_17 rfl ?_
    refine V_iload_n (pc2 := 19) dX2_addStop_18 1 rfl rfl ?_
    obtain ⟨m5, e_m5, h⟩ := bS h
    refine V_pI (pc2 := 22) e_m5 dX2_addStop_19 wP_2_114 rfl rfl ?_
    refine V_aload_n (pc2 := 23) dX2_addStop_22 0 rfl rfl ?_
    obtain ⟨r6, e_r6, h⟩ := bS h
    refine V_gR (pc2 := 26) e_r6 dX2_addStop_23 wF_2_23 ?_
    refine V_aload_n (pc2 := 27) dX2_addStop_26 0 rfl rfl ?_
    obtain ⟨x7, e_x7, h⟩ := bS h
    refine V_gI (pc2 := 30) e_x7 dX2_addStop_27 wF_2_64 ?_
    obtain ⟨r8, e_r8, h⟩ := bS h
    refine V_ldR (pc2 := 31) e_r8 dX2_addStop_30 rfl ?_
    refine V_iload_n (pc2 := 32) dX2_addStop_31 2 rfl rfl ?_
    obtain ⟨m9, e_m9, h⟩ := bS h
    refine V_pI (pc2 := 35) e_m9 dX2_addStop_32 wP_2_117 rfl rfl ?_
    refine V_aload_n (pc2 := 36) dX2_addStop_35 0 rfl rfl ?_
    obtain ⟨r10, e_r10, h⟩ := bS h
    refine V_gR (pc2 := 39) e_r10 dX2_addStop_36 wF_2_23 ?_
    refine V_aload_n (pc2 := 40) dX2_addStop_39 0 rfl rfl ?_
    obtain ⟨x11, e_x11, h⟩ := bS h
    refine V_gI (pc2 := 43) e_x11 dX2_addStop_40 wF_2_64 ?_
    obtain ⟨r12, e_r12, h⟩ := bS h
    refine V_ldR (pc2 := 44) e_r12 dX2_addStop_43 rfl ?_
    refine V_iload_n (pc2 := 45) dX2_addStop_44 3 rfl rfl ?_
    obtain ⟨m13, e_m13, h⟩ := bS h
    refine V_pI (pc2 := 48) e_m13 dX2_addStop_45 wP_2_120 rfl rfl ?_
    refine V_aload_n (pc2 := 49) dX2_addStop_48 0 rfl rfl ?_
    refine V_dup (pc2 := 50) dX2_addStop_49 rfl ?_
    obtain ⟨x14, e_x14, h⟩ := bS h
    refine V_gI (pc2 := 53) e_x14 dX2_addStop_50 wF_2_64 ?_
    refine V_iconst (v := 1) (pc2 := 54) dX2_addStop_53 (by decide) ?_
    refine V_iadd (pc2 := 55) dX2_addStop_54 ?_
    obtain ⟨m15, e_m15, h⟩ := bS h
    refine V_pI (pc2 := 58) e_m15 dX2_addStop_55 wP_2_64 rfl rfl ?_
    have e1 := inj1 h
    subst e1
    exact V_vret dX2_addStop_58 rfl ⟨rfl, rfl⟩
noncomputable def fX7_isKind (p0 : Int32) (m : Mem) : Option (Bool) :=
  (fX7_within p0 (0 : Int32) ((6 : Int32) - (1 : Int32)) m).bind fun b1 =>
  some b1
set_option maxRecDepth 20000 in
theorem tX7_isKind {D : Dat} {p0 : Int32} {m : Mem} {rR : Bool} (h : fX7_isKind p0 m = some rR) : T D 1 IX7_isKind [.int p0] m 0 0 (Qi (zb rR) m) := by
  refine T_of_V (by decide) (Nat.le_of_ble_eq_true rfl) ?_
  show V D 1 IX7_isKind 0 [(0, .int p0)] [] m 0 0 (Qi (zb rR) m)
  unfold fX7_isKind at h
  refine V_iload_n (pc2 := 1) dX7_isKind_0 0 rfl rfl ?_
  refine V_iconst (v := 0) (pc2 := 2) dX7_isKind_1 (by decide) ?_
  refine V_above (pc2 := 5) dX7_isKind_2 wfieldLink_7_151 ?_
  refine V_ablen (pc2 := 6) dX7_isKind_5 ?_
  refine V_iconst (v := 1) (pc2 := 7) dX7_isKind_6 (by decide) ?_
  refine V_isub (pc2 := 8) dX7_isKind_7 ?_
  obtain ⟨b1, e_b1, h⟩ := bS h
  refine V_cSi (pc2 := 11) [.int p0, .int (0 : Int32), .int ((6 : Int32) - (1 : Int32))] (st := []) (tX7_within e_b1) dX7_isKind_8 wS_7_47 (by decide) rfl (Nat.le_of_ble_eq_true rfl) ?_
  have e1 := inj1 h
  subst e1
  exact V_bret (b := b1) dX7_isKind_11 rfl ⟨rfl, rfl⟩
noncomputable def fX7_stop (a0 : Nat) (p0 : Int32) (p1 : Int32) (p2 : Int32) (m : Mem) : Option (Int32 × Mem) :=
  (fX7_isKind p0 m).bind fun b1 =>
  if b1 = true then
    (fX7_within p1 (0 : Int32) (99 : Int32) m).bind fun b2 =>
    if b2 = true then
      (fX7_within p2 (0 : Int32) (9 : Int32) m).bind fun b3 =>
      if b3 = true then
        (gR m a0 7 0).bind fun r4 =>
        (gI m r4 2 5).bind fun x5 =>
        if x5 < (10 : Int32) then
          (gR m a0 7 0).bind fun r6 =>
          (cV m r6 2 (fX2_addStop r6 p0 p1 p2 m)).bind fun m7 =>
          (gR m7 a0 7 0).bind fun r8 =>
          (gI m7 r8 2 5).bind fun x9 =>
          some (x9 - (1 : Int32), m7)
        else
          some ((-1000000003 : Int32), m)
      else
        some ((-1000000001 : Int32), m)
    else
      some ((-1000000001 : Int32), m)
  else
    some ((-1000000001 : Int32), m)
set_option maxRecDepth 20000 in
theorem tX7_stop {D : Dat} {a0 : Nat} {p0 : Int32} {p1 : Int32} {p2 : Int32} {m : Mem} {rR : Int32} {mR : Mem} (h : fX7_stop a0 p0 p1 p2 m = some (rR, mR)) : T D 2 IX7_stop [.ref a0, .int p0, .int p1, .int p2] m 0 0 (Qi rR mR) := by
  refine T_of_V (by decide) (Nat.le_of_ble_eq_true rfl) ?_
  show V D 2 IX7_stop 0 [(0, .ref a0), (1, .int p0), (2, .int p1), (3, .int p2)] [] m 0 0 (Qi rR mR)
  unfold fX7_stop at h
  refine V_iload_n (pc2 := 1) dX7_stop_0 1 rfl rfl ?_
  obtain ⟨b1, e_b1, h⟩ := bS h
  refine V_cSi (pc2 := 4) [.int p0] (st := []) (tX7_isKind e_b1) dX7_stop_1 wS_7_102 (by decide) rfl (Nat.le_of_ble_eq_true rfl) ?_
  refine V_ifb_eq (pc2 := 7) (tgt := 27) dX7_stop_4 (fun c4 => ?_) (fun c4 => ?_)
  · replace h := iF c4 h
    refine V_ldc (v := -1000000001) (pc2 := 29) dX7_stop_27 wconstant_7_51 ?_
    obtain ⟨e1, e2⟩ := inj2 h
    subst e1
    subst e2
    exact V_iret dX7_stop_29 rfl ⟨rfl, rfl⟩
  · replace h := iT c4 h
    refine V_iload_n (pc2 := 8) dX7_stop_7 2 rfl rfl ?_
    refine V_iconst (v := 0) (pc2 := 9) dX7_stop_8 (by decide) ?_
    refine V_bipush (v := 99) (pc2 := 11) dX7_stop_9 (by decide) ?_
    obtain ⟨b2, e_b2, h⟩ := bS h
    refine V_cSi (pc2 := 14) [.int p1, .int (0 : Int32), .int (99 : Int32)] (st := []) (tX7_within e_b2) dX7_stop_11 wS_7_47 (by decide) rfl (Nat.le_of_ble_eq_true rfl) ?_
    refine V_ifb_eq (pc2 := 17) (tgt := 27) dX7_stop_14 (fun c14 => ?_) (fun c14 => ?_)
    · replace h := iF c14 h
      refine V_ldc (v := -1000000001) (pc2 := 29) dX7_stop_27 wconstant_7_51 ?_
      obtain ⟨e1, e2⟩ := inj2 h
      subst e1
      subst e2
      exact V_iret dX7_stop_29 rfl ⟨rfl, rfl⟩
    · replace h := iT c14 h
      refine V_iload_n (pc2 := 18) dX7_stop_17 3 rfl rfl ?_
      refine V_iconst (v := 0) (pc2 := 19) dX7_stop_18 (by decide) ?_
      refine V_bipush (v := 9) (pc2 := 21) dX7_stop_19 (by decide) ?_
      obtain ⟨b3, e_b3, h⟩ := bS h
      refine V_cSi (pc2 := 24) [.int p2, .int (0 : Int32), .int (9 : Int32)] (st := []) (tX7_within e_b3) dX7_stop_21 wS_7_47 (by decide) rfl (Nat.le_of_ble_eq_true rfl) ?_
      refine V_ifb_ne (pc2 := 27) (tgt := 30) dX7_stop_24 (fun c24 => ?_) (fun c24 => ?_)
      · replace h := iT c24 h
        refine V_aload_n (pc2 := 31) dX7_stop_30 0 rfl rfl ?_
        obtain ⟨r4, e_r4, h⟩ := bS h
        refine V_gR (pc2 := 34) e_r4 dX7_stop_31 wF_7_10 ?_
        obtain ⟨x5, e_x5, h⟩ := bS h
        refine V_gI (pc2 := 37) e_x5 dX7_stop_34 wF_7_105 ?_
        refine V_bipush (v := 10) (pc2 := 39) dX7_stop_37 (by decide) ?_
        refine V_icmp_lt (pc2 := 42) (tgt := 45) dX7_stop_39 (fun c39 => ?_) (fun c39 => ?_)
        · replace h := iT c39 h
          refine V_aload_n (pc2 := 46) dX7_stop_45 0 rfl rfl ?_
          obtain ⟨r6, e_r6, h⟩ := bS h
          refine V_gR (pc2 := 49) e_r6 dX7_stop_46 wF_7_10 ?_
          refine V_iload_n (pc2 := 50) dX7_stop_49 1 rfl rfl ?_
          refine V_iload_n (pc2 := 51) dX7_stop_50 2 rfl rfl ?_
          refine V_iload_n (pc2 := 52) dX7_stop_51 3 rfl rfl ?_
          obtain ⟨m7, e_m7, h⟩ := bS h
          obtain ⟨⟨fs_m7, o_m7⟩, e_m7⟩ := cV_of e_m7
          refine V_cVv (pc2 := 55) [.int p0, .int p1, .int p2] (st := []) o_m7 (tX2_addStop e_m7) dX7_stop_52 wV_7_108 (by decide) rfl (Nat.le_of_ble_eq_true rfl) ?_
          refine V_aload_n (pc2 := 56) dX7_stop_55 0 rfl rfl ?_
          obtain ⟨r8, e_r8, h⟩ := bS h
          refine V_gR (pc2 := 59) e_r8 dX7_stop_56 wF_7_10 ?_
          obtain ⟨x9, e_x9, h⟩ := bS h
          refine V_gI (pc2 := 62) e_x9 dX7_stop_59 wF_7_105 ?_
          refine V_iconst (v := 1) (pc2 := 63) dX7_stop_62 (by decide) ?_
          refine V_isub (pc2 := 64) dX7_stop_63 ?_
          obtain ⟨e1, e2⟩ := inj2 h
          subst e1
          subst e2
          exact V_iret dX7_stop_64 rfl ⟨rfl, rfl⟩
        · replace h := iF c39 h
          refine V_ldc (v := -1000000003) (pc2 := 44) dX7_stop_42 wconstant_7_56 ?_
          obtain ⟨e1, e2⟩ := inj2 h
          subst e1
          subst e2
          exact V_iret dX7_stop_44 rfl ⟨rfl, rfl⟩
      · replace h := iF c24 h
        refine V_ldc (v := -1000000001) (pc2 := 29) dX7_stop_27 wconstant_7_51 ?_
        obtain ⟨e1, e2⟩ := inj2 h
        subst e1
        subst e2
        exact V_iret dX7_stop_29 rfl ⟨rfl, rfl⟩
noncomputable def fX2_isStop (a0 : Nat) (p0 : Int32) (m : Mem) : Option (Bool) :=
  (gI m a0 2 5).bind fun x1 =>
  (fX7_within p0 (0 : Int32) (x1 - (1 : Int32)) m).bind fun b2 =>
  some b2
set_option maxRecDepth 20000 in
theorem tX2_isStop {D : Dat} {a0 : Nat} {p0 : Int32} {m : Mem} {rR : Bool} (h : fX2_isStop a0 p0 m = some rR) : T D 1 IX2_isStop [.ref a0, .int p0] m 0 0 (Qi (zb rR) m) := by
  refine T_of_V (by decide) (Nat.le_of_ble_eq_true rfl) ?_
  show V D 1 IX2_isStop 0 [(0, .ref a0), (1, .int p0)] [] m 0 0 (Qi (zb rR) m)
  unfold fX2_isStop at h
  refine V_iload_n (pc2 := 1) dX2_isStop_0 1 rfl rfl ?_
  refine V_iconst (v := 0) (pc2 := 2) dX2_isStop_1 (by decide) ?_
  refine V_aload_n (pc2 := 3) dX2_isStop_2 0 rfl rfl ?_
  obtain ⟨x1, e_x1, h⟩ := bS h
  refine V_gI (pc2 := 6) e_x1 dX2_isStop_3 wF_2_64 ?_
  refine V_iconst (v := 1) (pc2 := 7) dX2_isStop_6 (by decide) ?_
  refine V_isub (pc2 := 8) dX2_isStop_7 ?_
  obtain ⟨b2, e_b2, h⟩ := bS h
  refine V_cNi (pc2 := 11) [.int p0, .int (0 : Int32), .int (x1 - (1 : Int32))] (st := []) (tX7_within e_b2) dX2_isStop_8 wN_2_98 (by decide) rfl (Nat.le_of_ble_eq_true rfl) ?_
  have e1 := inj1 h
  subst e1
  exact V_bret (b := b2) dX2_isStop_11 rfl ⟨rfl, rfl⟩
noncomputable def fX5_isOf (a0 : Nat) (p0 : Int32) (m : Mem) : Option (Bool) :=
  (gI m a0 5 0).bind fun x1 =>
  (fX7_isKind x1 m).bind fun b2 =>
  (
    if b2 = true then
      (gI m a0 5 0).bind fun x3 =>
      (ldA x3).bind fun x4 =>
      if x4 = p0 then
        some (1 : Int32)
      else
        some (0 : Int32)
    else
      some (0 : Int32)).bind fun y5 =>
  (gI m a0 5 0).bind fun x6 =>
  if p0 = x6 then
    some true
  else
    if y5 = 0 then
      if p0 = 0 then
        some true
      else
        some false
    else
      some true
set_option maxRecDepth 20000 in
theorem tX5_isOf {D : Dat} {a0 : Nat} {p0 : Int32} {m : Mem} {rR : Bool} (h : fX5_isOf a0 p0 m = some rR) : T D 2 IX5_isOf [.ref a0, .int p0] m 0 0 (Qi (zb rR) m) := by
  refine T_of_V (by decide) (Nat.le_of_ble_eq_true rfl) ?_
  show V D 2 IX5_isOf 0 [(0, .ref a0), (1, .int p0)] [] m 0 0 (Qi (zb rR) m)
  unfold fX5_isOf at h
  refine V_aload_n (pc2 := 1) dX5_isOf_0 0 rfl rfl ?_
  obtain ⟨x1, e_x1, h⟩ := bS h
  refine V_gI (pc2 := 4) e_x1 dX5_isOf_1 wF_5_9 ?_
  obtain ⟨b2, e_b2, h⟩ := bS h
  refine V_cNi (pc2 := 7) [.int x1] (st := []) (tX7_isKind e_b2) dX5_isOf_4 wN_5_21 (by decide) rfl (Nat.le_of_ble_eq_true rfl) ?_
  obtain ⟨y5, hb, h⟩ := bS h
  have hJ27 : V D 2 IX5_isOf 27 [(0, .ref a0), (1, .int p0)] [.int y5] m 0 0 (Qi (zb rR) m) := by
    refine V_istore_n (pc2 := 28) (L2 := [(2, .int y5), (0, .ref a0), (1, .int p0)]) dX5_isOf_27 ?_ rfl rfl rfl
    refine V_iload_n (pc2 := 29) dX5_isOf_28 2 rfl rfl ?_
    refine V_aload_n (pc2 := 30) dX5_isOf_29 1 rfl rfl ?_
    obtain ⟨x6, e_x6, h⟩ := bS h
    refine V_gI (pc2 := 33) e_x6 dX5_isOf_30 wF_5_9 ?_
    refine V_icmp_eq (pc2 := 36) (tgt := 44) dX5_isOf_33 (fun c33 => ?_) (fun c33 => ?_)
    · replace h := iT c33 h
      refine V_iconst (v := 1) (pc2 := 45) dX5_isOf_44 (by decide) ?_
      refine V_goto (tgt := 49) dX5_isOf_45 ?_
      have e1 := inj1 h
      subst e1
      exact V_bret (b := true) dX5_isOf_49 rfl ⟨rfl, rfl⟩
    · replace h := iF c33 h
      refine V_iload_n (pc2 := 37) dX5_isOf_36 0 rfl rfl ?_
      refine V_if_ne (pc2 := 40) (tgt := 44) dX5_isOf_37 (fun c37 => ?_) (fun c37 => ?_)
      · replace h := iF c37 h
        refine V_iconst (v := 1) (pc2 := 45) dX5_isOf_44 (by decide) ?_
        refine V_goto (tgt := 49) dX5_isOf_45 ?_
        have e1 := inj1 h
        subst e1
        exact V_bret (b := true) dX5_isOf_49 rfl ⟨rfl, rfl⟩
      · replace h := iT c37 h
        refine V_iload_n (pc2 := 41) dX5_isOf_40 2 rfl rfl ?_
        refine V_if_ne (pc2 := 44) (tgt := 48) dX5_isOf_41 (fun c41 => ?_) (fun c41 => ?_)
        · replace h := iF c41 h
          refine V_iconst (v := 0) (pc2 := 49) dX5_isOf_48 (by decide) ?_
          have e1 := inj1 h
          subst e1
          exact V_bret (b := false) dX5_isOf_49 rfl ⟨rfl, rfl⟩
        · replace h := iT c41 h
          refine V_iconst (v := 1) (pc2 := 45) dX5_isOf_44 (by decide) ?_
          refine V_goto (tgt := 49) dX5_isOf_45 ?_
          have e1 := inj1 h
          subst e1
          exact V_bret (b := true) dX5_isOf_49 rfl ⟨rfl, rfl⟩
  clear h
  have h := hb
  clear hb
  refine V_ifb_eq (pc2 := 10) (tgt := 26) dX5_isOf_7 (fun c7 => ?_) (fun c7 => ?_)
  · replace h := iF c7 h
    refine V_iconst (v := 0) (pc2 := 27) dX5_isOf_26 (by decide) ?_
    have e1 := inj1 h
    subst e1
    exact hJ27
  · replace h := iT c7 h
    refine V_aboveN (pc2 := 13) dX5_isOf_10 (by decide +kernel) ?_
    refine V_aload_n (pc2 := 14) dX5_isOf_13 0 rfl rfl ?_
    obtain ⟨x3, e_x3, h⟩ := bS h
    refine V_gI (pc2 := 17) e_x3 dX5_isOf_14 wF_5_9 ?_
    obtain ⟨x4, e_x4, h⟩ := bS h
    refine V_ldA (pc2 := 18) e_x4 dX5_isOf_17 ?_
    refine V_iload_n (pc2 := 19) dX5_isOf_18 1 rfl rfl ?_
    refine V_icmp_ne (pc2 := 22) (tgt := 26) dX5_isOf_19 (fun c19 => ?_) (fun c19 => ?_)
    · replace h := iF c19 h
      refine V_iconst (v := 0) (pc2 := 27) dX5_isOf_26 (by decide) ?_
      have e1 := inj1 h
      subst e1
      exact hJ27
    · replace h := iT c19 h
      refine V_iconst (v := 1) (pc2 := 23) dX5_isOf_22 (by decide) ?_
      refine V_goto (tgt := 27) dX5_isOf_23 ?_
      have e1 := inj1 h
      subst e1
      exact hJ27
noncomputable def fX2_lastsBy (a0 : Nat) (p0 : Nat) (p1 : Int32) (m : Mem) : Option (Int32 × Mem) :=
  (cV m a0 2 (fX2_lawOf a0 (1 : Int32) m)).bind fun r1 =>
  (
    match r1 with
    | none =>
      (gI m p0 5 1).bind fun x3 =>
      some (x3, m)
    | some q2 =>
      (gI m p0 5 1).bind fun x4 =>
      (gI m a0 2 10).bind fun x5 =>
      (gI m a0 2 14).bind fun x6 =>
      (cV m q2 6 (fX6_value q2 x4 x5 x6 m)).bind fun (x7, m8) =>
      (fX7_heldWithin x7 (0 : Int32) (999 : Int32) m8).bind fun x9 =>
      some (x9, m8)).bind fun (y10, m11) =>
  (cV m11 p0 5 (fX5_isOf p0 (1 : Int32) m11)).bind fun b12 =>
  if b12 = true then
    some (y10 + p1, m11)
  else
    (gI m11 p0 5 0).bind fun x13 =>
    if x13 = (5 : Int32) then
      (fJ9_max_7cf53 (0 : Int32) (y10 - (1 : Int32)) m11).bind fun x14 =>
      some (x14, m11)
    else
      some (y10, m11)
set_option maxRecDepth 20000 in
theorem tX2_lastsBy {D : Dat} {a0 : Nat} {p0 : Nat} {p1 : Int32} {m : Mem} {rR : Int32} {mR : Mem} (h : fX2_lastsBy a0 p0 p1 m = some (rR, mR)) : T D 3 IX2_lastsBy [.ref a0, .ref p0, .int p1] m 0 0 (Qi rR mR) := by
  refine T_of_V (by decide) (Nat.le_of_ble_eq_true rfl) ?_
  show V D 3 IX2_lastsBy 0 [(0, .ref a0), (1, .ref p0), (2, .int p1)] [] m 0 0 (Qi rR mR)
  unfold fX2_lastsBy at h
  refine V_aload_n (pc2 := 1) dX2_lastsBy_0 0 rfl rfl ?_
  refine V_iconst (v := 1) (pc2 := 2) dX2_lastsBy_1 (by decide) ?_
  obtain ⟨r1, e_r1, h⟩ := bS h
  obtain ⟨⟨fs_r1, o_r1⟩, e_r1⟩ := cV_of e_r1
  refine V_cVq (pc2 := 5) [.int (1 : Int32)] (st := []) o_r1 (tX2_lawOf e_r1) dX2_lastsBy_2 wV_2_130 (by decide) rfl (Nat.le_of_ble_eq_true rfl) ?_
  refine V_astoreq_n (pc2 := 6) (L2 := [(3, va_rf r1), (0, .ref a0), (1, .ref p0), (2, .int p1)]) dX2_lastsBy_5 ?_ rfl rfl rfl
  refine V_aloadq_n (pc2 := 7) dX2_lastsBy_6 0 rfl rfl ?_
  obtain ⟨⟨y10, m11⟩, hb, h⟩ := bS h
  try dsimp only at h
  have hJ40 : V D 3 IX2_lastsBy 40 [(1, .ref p0), (2, .int p1)] [.int y10] m11 0 0 (Qi rR mR) := by
    refine V_istore (pc2 := 42) (L2 := [(4, .int y10), (1, .ref p0), (2, .int p1)]) dX2_lastsBy_40 ?_ rfl rfl
    refine V_aload_n (pc2 := 43) dX2_lastsBy_42 1 rfl rfl ?_
    refine V_iconst (v := 1) (pc2 := 44) dX2_lastsBy_43 (by decide) ?_
    obtain ⟨b12, e_b12, h⟩ := bS h
    obtain ⟨⟨fs_b12, o_b12⟩, e_b12⟩ := cV_of e_b12
    refine V_cVi (pc2 := 47) [.int (1 : Int32)] (st := []) o_b12 (tX5_isOf e_b12) dX2_lastsBy_44 wV_2_148 (by decide) rfl (Nat.le_of_ble_eq_true rfl) ?_
    refine V_ifb_eq (pc2 := 50) (tgt := 55) dX2_lastsBy_47 (fun c47 => ?_) (fun c47 => ?_)
    · replace h := iF c47 h
      refine V_aload_n (pc2 := 56) dX2_lastsBy_55 1 rfl rfl ?_
      obtain ⟨x13, e_x13, h⟩ := bS h
      refine V_gI (pc2 := 59) e_x13 dX2_lastsBy_56 wF_2_114 ?_
      refine V_iconst (v := 5) (pc2 := 60) dX2_lastsBy_59 (by decide) ?_
      refine V_icmp_ne (pc2 := 63) (tgt := 74) dX2_lastsBy_60 (fun c60 => ?_) (fun c60 => ?_)
      · replace h := iF c60 h
        refine V_iload (pc2 := 76) dX2_lastsBy_74 0 rfl ?_
        obtain ⟨e1, e2⟩ := inj2 h
        subst e1
        subst e2
        exact V_iret dX2_lastsBy_76 rfl ⟨rfl, rfl⟩
      · replace h := iT c60 h
        refine V_iconst (v := 0) (pc2 := 64) dX2_lastsBy_63 (by decide) ?_
        refine V_iload (pc2 := 66) dX2_lastsBy_64 0 rfl ?_
        refine V_iconst (v := 1) (pc2 := 67) dX2_lastsBy_66 (by decide) ?_
        refine V_isub (pc2 := 68) dX2_lastsBy_67 ?_
        obtain ⟨x14, e_x14, h⟩ := bS h
        refine V_cSi (pc2 := 71) [.int (0 : Int32), .int (y10 - (1 : Int32))] (st := []) (tJ9_max_7cf53 e_x14) dX2_lastsBy_68 wS_2_111 (by decide) rfl (Nat.le_of_ble_eq_true rfl) ?_
        refine V_goto (tgt := 76) dX2_lastsBy_71 ?_
        obtain ⟨e1, e2⟩ := inj2 h
        subst e1
        subst e2
        exact V_iret dX2_lastsBy_76 rfl ⟨rfl, rfl⟩
    · replace h := iT c47 h
      refine V_iload (pc2 := 52) dX2_lastsBy_50 0 rfl ?_
      refine V_iload_n (pc2 := 53) dX2_lastsBy_52 2 rfl rfl ?_
      refine V_iadd (pc2 := 54) dX2_lastsBy_53 ?_
      obtain ⟨e1, e2⟩ := inj2 h
      subst e1
      subst e2
      exact V_iret dX2_lastsBy_54 rfl ⟨rfl, rfl⟩
  clear h
  have h := hb
  clear hb
  refine V_ifnonnull (pc2 := 10) (tgt := 17) dX2_lastsBy_7 (fun q2 c => ?_) (fun c => ?_)
  · subst c
    try dsimp only at h
    refine V_aload_n (pc2 := 18) dX2_lastsBy_17 0 rfl rfl ?_
    refine V_aload_n (pc2 := 19) dX2_lastsBy_18 2 rfl rfl ?_
    obtain ⟨x4, e_x4, h⟩ := bS h
    refine V_gI (pc2 := 22) e_x4 dX2_lastsBy_19 wF_2_117 ?_
    refine V_aload_n (pc2 := 23) dX2_lastsBy_22 1 rfl rfl ?_
    obtain ⟨x5, e_x5, h⟩ := bS h
    refine V_gI (pc2 := 26) e_x5 dX2_lastsBy_23 wF_2_73 ?_
    refine V_aload_n (pc2 := 27) dX2_lastsBy_26 1 rfl rfl ?_
    obtain ⟨x6, e_x6, h⟩ := bS h
    refine V_gI (pc2 := 30) e_x6 dX2_lastsBy_27 wF_2_82 ?_
    obtain ⟨⟨x7, m8⟩, e_x7, h⟩ := bS h
    try dsimp only at h
    obtain ⟨⟨fs_x7, o_x7⟩, e_x7⟩ := cV_of e_x7
    refine V_cVi (pc2 := 33) [.int x4, .int x5, .int x6] (st := []) o_x7 (tX6_value e_x7) dX2_lastsBy_30 wV_2_141 (by decide) rfl (Nat.le_of_ble_eq_true rfl) ?_
    refine V_iconst (v := 0) (pc2 := 34) dX2_lastsBy_33 (by decide) ?_
    refine V_sipush (v := 999) (pc2 := 37) dX2_lastsBy_34 (by decide) ?_
    obtain ⟨x9, e_x9, h⟩ := bS h
    refine V_cNi (pc2 := 40) [.int x7, .int (0 : Int32), .int (999 : Int32)] (st := []) (tX7_heldWithin e_x9) dX2_lastsBy_37 wN_2_145 (by decide) rfl (Nat.le_of_ble_eq_true rfl) ?_
    obtain ⟨e1, e2⟩ := inj2 h
    subst e1
    subst e2
    exact V_lv hJ40 [2, 3] rfl
  · subst c
    try dsimp only at h
    refine V_aload_n (pc2 := 11) dX2_lastsBy_10 2 rfl rfl ?_
    obtain ⟨x3, e_x3, h⟩ := bS h
    refine V_gI (pc2 := 14) e_x3 dX2_lastsBy_11 wF_2_117 ?_
    refine V_goto (tgt := 40) dX2_lastsBy_14 ?_
    obtain ⟨e1, e2⟩ := inj2 h
    subst e1
    subst e2
    exact V_lv hJ40 [2, 3] rfl
noncomputable def fX5_worth (a0 : Nat) (m : Mem) : Option (Int32) :=
  (gI m a0 5 0).bind fun x1 =>
  if x1 = (1 : Int32) then
    (gI m a0 5 1).bind fun x2 =>
    some (x2 + (9 : Int32))
  else if x1 = (2 : Int32) then
    (gI m a0 5 1).bind fun x3 =>
    some ((99 : Int32) - x3)
  else if x1 = (3 : Int32) then
    (gI m a0 5 1).bind fun x4 =>
    some ((2 : Int32) * (x4 + (9 : Int32)))
  else if x1 = (4 : Int32) then
    (gI m a0 5 1).bind fun x5 =>
    some (((99 : Int32) - x5) - (5 : Int32))
  else if x1 = (5 : Int32) then
    some (4 : Int32)
  else 
    (gI m a0 5 1).bind fun x6 =>
    some x6
set_option maxRecDepth 20000 in
theorem tX5_worth {D : Dat} {a0 : Nat} {m : Mem} {rR : Int32} (h : fX5_worth a0 m = some rR) : T D 0 IX5_worth [.ref a0] m 0 0 (Qi rR m) := by
  refine T_of_V (by decide) (Nat.le_of_ble_eq_true rfl) ?_
  show V D 0 IX5_worth 0 [(0, .ref a0)] [] m 0 0 (Qi rR m)
  unfold fX5_worth at h
  refine V_aload_n (pc2 := 1) dX5_worth_0 0 rfl rfl ?_
  obtain ⟨x1, e_x1, h⟩ := bS h
  refine V_gI (pc2 := 4) e_x1 dX5_worth_1 wF_5_9 ?_
  by_cases c4_0 : x1 = (1 : Int32)
  · replace h := iT c4_0 h
    refine V_table (off := 36) (tgt := 40) dX5_worth_4 (by rw [c4_0]; decide) ?_
    refine V_aload_n (pc2 := 41) dX5_worth_40 0 rfl rfl ?_
    obtain ⟨x2, e_x2, h⟩ := bS h
    refine V_gI (pc2 := 44) e_x2 dX5_worth_41 wF_5_15 ?_
    refine V_bipush (v := 9) (pc2 := 46) dX5_worth_44 (by decide) ?_
    refine V_iadd (pc2 := 47) dX5_worth_46 ?_
    have e1 := inj1 h
    subst e1
    exact V_iret dX5_worth_47 rfl ⟨rfl, rfl⟩
  replace h := iF c4_0 h
  by_cases c4_1 : x1 = (2 : Int32)
  · replace h := iT c4_1 h
    refine V_table (off := 54) (tgt := 58) dX5_worth_4 (by rw [c4_1]; decide) ?_
    refine V_bipush (v := 99) (pc2 := 60) dX5_worth_58 (by decide) ?_
    refine V_aload_n (pc2 := 61) dX5_worth_60 0 rfl rfl ?_
    obtain ⟨x3, e_x3, h⟩ := bS h
    refine V_gI (pc2 := 64) e_x3 dX5_worth_61 wF_5_15 ?_
    refine V_isub (pc2 := 65) dX5_worth_64 ?_
    have e1 := inj1 h
    subst e1
    exact V_iret dX5_worth_65 rfl ⟨rfl, rfl⟩
  replace h := iF c4_1 h
  by_cases c4_2 : x1 = (3 : Int32)
  · replace h := iT c4_2 h
    refine V_table (off := 44) (tgt := 48) dX5_worth_4 (by rw [c4_2]; decide) ?_
    refine V_iconst (v := 2) (pc2 := 49) dX5_worth_48 (by decide) ?_
    refine V_aload_n (pc2 := 50) dX5_worth_49 0 rfl rfl ?_
    obtain ⟨x4, e_x4, h⟩ := bS h
    refine V_gI (pc2 := 53) e_x4 dX5_worth_50 wF_5_15 ?_
    refine V_bipush (v := 9) (pc2 := 55) dX5_worth_53 (by decide) ?_
    refine V_iadd (pc2 := 56) dX5_worth_55 ?_
    refine V_imul (pc2 := 57) dX5_worth_56 ?_
    have e1 := inj1 h
    subst e1
    exact V_iret dX5_worth_57 rfl ⟨rfl, rfl⟩
  replace h := iF c4_2 h
  by_cases c4_3 : x1 = (4 : Int32)
  · replace h := iT c4_3 h
    refine V_table (off := 62) (tgt := 66) dX5_worth_4 (by rw [c4_3]; decide) ?_
    refine V_bipush (v := 99) (pc2 := 68) dX5_worth_66 (by decide) ?_
    refine V_aload_n (pc2 := 69) dX5_worth_68 0 rfl rfl ?_
    obtain ⟨x5, e_x5, h⟩ := bS h
    refine V_gI (pc2 := 72) e_x5 dX5_worth_69 wF_5_15 ?_
    refine V_isub (pc2 := 73) dX5_worth_72 ?_
    refine V_iconst (v := 5) (pc2 := 74) dX5_worth_73 (by decide) ?_
    refine V_isub (pc2 := 75) dX5_worth_74 ?_
    have e1 := inj1 h
    subst e1
    exact V_iret dX5_worth_75 rfl ⟨rfl, rfl⟩
  replace h := iF c4_3 h
  by_cases c4_4 : x1 = (5 : Int32)
  · replace h := iT c4_4 h
    refine V_table (off := 72) (tgt := 76) dX5_worth_4 (by rw [c4_4]; decide) ?_
    refine V_iconst (v := 4) (pc2 := 77) dX5_worth_76 (by decide) ?_
    have e1 := inj1 h
    subst e1
    exact V_iret dX5_worth_77 rfl ⟨rfl, rfl⟩
  replace h := iF c4_4 h
  refine V_tableD (tgt := 78) dX5_worth_4 (by have g0 := lv_neT c4_0 (show (1 : Int32).toInt = 1 by decide); have g1 := lv_neT c4_1 (show (2 : Int32).toInt = 2 by decide); have g2 := lv_neT c4_2 (show (3 : Int32).toInt = 3 by decide); have g3 := lv_neT c4_3 (show (4 : Int32).toInt = 4 by decide); have g4 := lv_neT c4_4 (show (5 : Int32).toInt = 5 by decide); omega) ?_
  refine V_aload_n (pc2 := 79) dX5_worth_78 0 rfl rfl ?_
  obtain ⟨x6, e_x6, h⟩ := bS h
  refine V_gI (pc2 := 82) e_x6 dX5_worth_79 wF_5_15 ?_
  have e1 := inj1 h
  subst e1
  exact V_iret dX5_worth_82 rfl ⟨rfl, rfl⟩
noncomputable def fX7_told (a0 : Nat) (p0 : Int32) (p1 : Int32) (m : Mem) : Option (Int32 × Mem) :=
  (gR m a0 7 0).bind fun r1 =>
  (cV m r1 2 (fX2_isStop r1 p0 m)).bind fun b2 =>
  if b2 = true then
    (gR m a0 7 0).bind fun r3 =>
    (gR m r3 2 4).bind fun r4 =>
    (ldR m r4 2 p0).bind fun r5 =>
    if p1 = (0 : Int32) then
      (gI m r5 5 0).bind fun x6 =>
      some (x6, m)
    else if p1 = (1 : Int32) then
      (gI m r5 5 1).bind fun x7 =>
      some (x7, m)
    else if p1 = (2 : Int32) then
      (gI m r5 5 2).bind fun x8 =>
      some (x8, m)
    else if p1 = (3 : Int32) then
      (gR m a0 7 0).bind fun r9 =>
      (cV m r9 2 (fX2_lastsBy r9 r5 (0 : Int32) m)).bind fun (x10, m11) =>
      some (x10, m11)
    else if p1 = (4 : Int32) then
      (gR m a0 7 0).bind fun r12 =>
      (cV m r12 2 (fX2_lastsBy r12 r5 (9 : Int32) m)).bind fun (x13, m14) =>
      some (x13, m14)
    else if p1 = (5 : Int32) then
      (cV m r5 5 (fX5_worth r5 m)).bind fun x15 =>
      some (x15, m)
    else 
      some ((-1000000001 : Int32), m)
  else
    some ((-1000000001 : Int32), m)
set_option maxRecDepth 20000 in
theorem tX7_told {D : Dat} {a0 : Nat} {p0 : Int32} {p1 : Int32} {m : Mem} {rR : Int32} {mR : Mem} (h : fX7_told a0 p0 p1 m = some (rR, mR)) : T D 4 IX7_told [.ref a0, .int p0, .int p1] m 0 0 (Qi rR mR) := by
  refine T_of_V (by decide) (Nat.le_of_ble_eq_true rfl) ?_
  show V D 4 IX7_told 0 [(0, .ref a0), (1, .int p0), (2, .int p1)] [] m 0 0 (Qi rR mR)
  unfold fX7_told at h
  refine V_aload_n (pc2 := 1) dX7_told_0 0 rfl rfl ?_
  obtain ⟨r1, e_r1, h⟩ := bS h
  refine V_gR (pc2 := 4) e_r1 dX7_told_1 wF_7_10 ?_
  refine V_iload_n (pc2 := 5) dX7_told_4 1 rfl rfl ?_
  obtain ⟨b2, e_b2, h⟩ := bS h
  obtain ⟨⟨fs_b2, o_b2⟩, e_b2⟩ := cV_of e_b2
  refine V_cVi (pc2 := 8) [.int p0] (st := []) o_b2 (tX2_isStop e_b2) dX7_told_5 wV_7_112 (by decide) rfl (Nat.le_of_ble_eq_true rfl) ?_
  refine V_ifb_ne (pc2 := 11) (tgt := 14) dX7_told_8 (fun c8 => ?_) (fun c8 => ?_)
  · replace h := iT c8 h
    refine V_aload_n (pc2 := 15) dX7_told_14 0 rfl rfl ?_
    obtain ⟨r3, e_r3, h⟩ := bS h
    refine V_gR (pc2 := 18) e_r3 dX7_told_15 wF_7_10 ?_
    obtain ⟨r4, e_r4, h⟩ := bS h
    refine V_gR (pc2 := 21) e_r4 dX7_told_18 wF_7_115 ?_
    refine V_iload_n (pc2 := 22) dX7_told_21 1 rfl rfl ?_
    obtain ⟨r5, e_r5, h⟩ := bS h
    refine V_ldR (pc2 := 23) e_r5 dX7_told_22 rfl ?_
    refine V_astore_n (pc2 := 24) (L2 := [(3, .ref r5), (0, .ref a0), (1, .int p0), (2, .int p1)]) dX7_told_23 ?_ rfl rfl rfl
    refine V_iload_n (pc2 := 25) dX7_told_24 3 rfl rfl ?_
    by_cases c25_0 : p1 = (0 : Int32)
    · replace h := iT c25_0 h
      refine V_table (off := 39) (tgt := 64) dX7_told_25 (by rw [c25_0]; decide) ?_
      refine V_aload_n (pc2 := 65) dX7_told_64 0 rfl rfl ?_
      obtain ⟨x6, e_x6, h⟩ := bS h
      refine V_gI (pc2 := 68) e_x6 dX7_told_65 wF_7_119 ?_
      obtain ⟨e1, e2⟩ := inj2 h
      subst e1
      subst e2
      exact V_iret dX7_told_68 rfl ⟨rfl, rfl⟩
    replace h := iF c25_0 h
    by_cases c25_1 : p1 = (1 : Int32)
    · replace h := iT c25_1 h
      refine V_table (off := 44) (tgt := 69) dX7_told_25 (by rw [c25_1]; decide) ?_
      refine V_aload_n (pc2 := 70) dX7_told_69 0 rfl rfl ?_
      obtain ⟨x7, e_x7, h⟩ := bS h
      refine V_gI (pc2 := 73) e_x7 dX7_told_70 wF_7_124 ?_
      obtain ⟨e1, e2⟩ := inj2 h
      subst e1
      subst e2
      exact V_iret dX7_told_73 rfl ⟨rfl, rfl⟩
    replace h := iF c25_1 h
    by_cases c25_2 : p1 = (2 : Int32)
    · replace h := iT c25_2 h
      refine V_table (off := 49) (tgt := 74) dX7_told_25 (by rw [c25_2]; decide) ?_
      refine V_aload_n (pc2 := 75) dX7_told_74 0 rfl rfl ?_
      obtain ⟨x8, e_x8, h⟩ := bS h
      refine V_gI (pc2 := 78) e_x8 dX7_told_75 wF_7_127 ?_
      obtain ⟨e1, e2⟩ := inj2 h
      subst e1
      subst e2
      exact V_iret dX7_told_78 rfl ⟨rfl, rfl⟩
    replace h := iF c25_2 h
    by_cases c25_3 : p1 = (3 : Int32)
    · replace h := iT c25_3 h
      refine V_table (off := 54) (tgt := 79) dX7_told_25 (by rw [c25_3]; decide) ?_
      refine V_aload_n (pc2 := 80) dX7_told_79 1 rfl rfl ?_
      obtain ⟨r9, e_r9, h⟩ := bS h
      refine V_gR (pc2 := 83) e_r9 dX7_told_80 wF_7_10 ?_
      refine V_aload_n (pc2 := 84) dX7_told_83 0 rfl rfl ?_
      refine V_iconst (v := 0) (pc2 := 85) dX7_told_84 (by decide) ?_
      obtain ⟨⟨x10, m11⟩, e_x10, h⟩ := bS h
      try dsimp only at h
      obtain ⟨⟨fs_x10, o_x10⟩, e_x10⟩ := cV_of e_x10
      refine V_cVi (pc2 := 88) [.ref r5, .int (0 : Int32)] (st := []) o_x10 (tX2_lastsBy e_x10) dX7_told_85 wV_7_130 (by decide) rfl (Nat.le_of_ble_eq_true rfl) ?_
      obtain ⟨e1, e2⟩ := inj2 h
      subst e1
      subst e2
      exact V_iret dX7_told_88 rfl ⟨rfl, rfl⟩
    replace h := iF c25_3 h
    by_cases c25_4 : p1 = (4 : Int32)
    · replace h := iT c25_4 h
      refine V_table (off := 64) (tgt := 89) dX7_told_25 (by rw [c25_4]; decide) ?_
      refine V_aload_n (pc2 := 90) dX7_told_89 1 rfl rfl ?_
      obtain ⟨r12, e_r12, h⟩ := bS h
      refine V_gR (pc2 := 93) e_r12 dX7_told_90 wF_7_10 ?_
      refine V_aload_n (pc2 := 94) dX7_told_93 0 rfl rfl ?_
      refine V_bipush (v := 9) (pc2 := 96) dX7_told_94 (by decide) ?_
      obtain ⟨⟨x13, m14⟩, e_x13, h⟩ := bS h
      try dsimp only at h
      obtain ⟨⟨fs_x13, o_x13⟩, e_x13⟩ := cV_of e_x13
      refine V_cVi (pc2 := 99) [.ref r5, .int (9 : Int32)] (st := []) o_x13 (tX2_lastsBy e_x13) dX7_told_96 wV_7_130 (by decide) rfl (Nat.le_of_ble_eq_true rfl) ?_
      obtain ⟨e1, e2⟩ := inj2 h
      subst e1
      subst e2
      exact V_iret dX7_told_99 rfl ⟨rfl, rfl⟩
    replace h := iF c25_4 h
    by_cases c25_5 : p1 = (5 : Int32)
    · replace h := iT c25_5 h
      refine V_table (off := 75) (tgt := 100) dX7_told_25 (by rw [c25_5]; decide) ?_
      refine V_aload_n (pc2 := 101) dX7_told_100 0 rfl rfl ?_
      obtain ⟨x15, e_x15, h⟩ := bS h
      obtain ⟨⟨fs_x15, o_x15⟩, e_x15⟩ := cV_of e_x15
      refine V_cVi (pc2 := 104) [] (st := []) o_x15 (tX5_worth e_x15) dX7_told_101 wV_7_134 (by decide) rfl (Nat.le_of_ble_eq_true rfl) ?_
      obtain ⟨e1, e2⟩ := inj2 h
      subst e1
      subst e2
      exact V_iret dX7_told_104 rfl ⟨rfl, rfl⟩
    replace h := iF c25_5 h
    refine V_tableD (tgt := 105) dX7_told_25 (by have g0 := lv_neT c25_0 (show (0 : Int32).toInt = 0 by decide); have g1 := lv_neT c25_1 (show (1 : Int32).toInt = 1 by decide); have g2 := lv_neT c25_2 (show (2 : Int32).toInt = 2 by decide); have g3 := lv_neT c25_3 (show (3 : Int32).toInt = 3 by decide); have g4 := lv_neT c25_4 (show (4 : Int32).toInt = 4 by decide); have g5 := lv_neT c25_5 (show (5 : Int32).toInt = 5 by decide); omega) ?_
    refine V_ldc (v := -1000000001) (pc2 := 107) dX7_told_105 wconstant_7_51 ?_
    obtain ⟨e1, e2⟩ := inj2 h
    subst e1
    subst e2
    exact V_iret dX7_told_107 rfl ⟨rfl, rfl⟩
  · replace h := iF c8 h
    refine V_ldc (v := -1000000001) (pc2 := 13) dX7_told_11 wconstant_7_51 ?_
    obtain ⟨e1, e2⟩ := inj2 h
    subst e1
    subst e2
    exact V_iret dX7_told_13 rfl ⟨rfl, rfl⟩
noncomputable def fX7_as (a0 : Nat) (p0 : Int32) (p1 : Int32) (m : Mem) : Option (Int32) :=
  (gR m a0 7 0).bind fun r1 =>
  (cV m r1 2 (fX2_isStop r1 p0 m)).bind fun b2 =>
  if b2 = true then
    (fX7_isKind p1 m).bind fun b3 =>
    if b3 = true then
      (gR m a0 7 0).bind fun r4 =>
      (gR m r4 2 4).bind fun r5 =>
      (ldR m r5 2 p0).bind fun r6 =>
      (cV m r6 5 (fX5_isOf r6 p1 m)).bind fun b7 =>
      if b7 = true then
        (gI m r6 5 1).bind fun x8 =>
        some x8
      else
        some (-1000000012 : Int32)
    else
      some (-1000000001 : Int32)
  else
    some (-1000000001 : Int32)
set_option maxRecDepth 20000 in
theorem tX7_as {D : Dat} {a0 : Nat} {p0 : Int32} {p1 : Int32} {m : Mem} {rR : Int32} (h : fX7_as a0 p0 p1 m = some rR) : T D 3 IX7_as [.ref a0, .int p0, .int p1] m 0 0 (Qi rR m) := by
  refine T_of_V (by decide) (Nat.le_of_ble_eq_true rfl) ?_
  show V D 3 IX7_as 0 [(0, .ref a0), (1, .int p0), (2, .int p1)] [] m 0 0 (Qi rR m)
  unfold fX7_as at h
  refine V_aload_n (pc2 := 1) dX7_as_0 0 rfl rfl ?_
  obtain ⟨r1, e_r1, h⟩ := bS h
  refine V_gR (pc2 := 4) e_r1 dX7_as_1 wF_7_10 ?_
  refine V_iload_n (pc2 := 5) dX7_as_4 1 rfl rfl ?_
  obtain ⟨b2, e_b2, h⟩ := bS h
  obtain ⟨⟨fs_b2, o_b2⟩, e_b2⟩ := cV_of e_b2
  refine V_cVi (pc2 := 8) [.int p0] (st := []) o_b2 (tX2_isStop e_b2) dX7_as_5 wV_7_112 (by decide) rfl (Nat.le_of_ble_eq_true rfl) ?_
  refine V_ifb_eq (pc2 := 11) (tgt := 18) dX7_as_8 (fun c8 => ?_) (fun c8 => ?_)
  · replace h := iF c8 h
    refine V_ldc (v := -1000000001) (pc2 := 20) dX7_as_18 wconstant_7_51 ?_
    have e1 := inj1 h
    subst e1
    exact V_iret dX7_as_20 rfl ⟨rfl, rfl⟩
  · replace h := iT c8 h
    refine V_iload_n (pc2 := 12) dX7_as_11 2 rfl rfl ?_
    obtain ⟨b3, e_b3, h⟩ := bS h
    refine V_cSi (pc2 := 15) [.int p1] (st := []) (tX7_isKind e_b3) dX7_as_12 wS_7_102 (by decide) rfl (Nat.le_of_ble_eq_true rfl) ?_
    refine V_ifb_ne (pc2 := 18) (tgt := 21) dX7_as_15 (fun c15 => ?_) (fun c15 => ?_)
    · replace h := iT c15 h
      refine V_aload_n (pc2 := 22) dX7_as_21 0 rfl rfl ?_
      obtain ⟨r4, e_r4, h⟩ := bS h
      refine V_gR (pc2 := 25) e_r4 dX7_as_22 wF_7_10 ?_
      obtain ⟨r5, e_r5, h⟩ := bS h
      refine V_gR (pc2 := 28) e_r5 dX7_as_25 wF_7_115 ?_
      refine V_iload_n (pc2 := 29) dX7_as_28 1 rfl rfl ?_
      obtain ⟨r6, e_r6, h⟩ := bS h
      refine V_ldR (pc2 := 30) e_r6 dX7_as_29 rfl ?_
      refine V_astore_n (pc2 := 31) (L2 := [(3, .ref r6), (0, .ref a0), (1, .int p0), (2, .int p1)]) dX7_as_30 ?_ rfl rfl rfl
      refine V_aload_n (pc2 := 32) dX7_as_31 0 rfl rfl ?_
      refine V_iload_n (pc2 := 33) dX7_as_32 3 rfl rfl ?_
      obtain ⟨b7, e_b7, h⟩ := bS h
      obtain ⟨⟨fs_b7, o_b7⟩, e_b7⟩ := cV_of e_b7
      refine V_cVi (pc2 := 36) [.int p1] (st := []) o_b7 (tX5_isOf e_b7) dX7_as_33 wV_7_138 (by decide) rfl (Nat.le_of_ble_eq_true rfl) ?_
      refine V_ifb_eq (pc2 := 39) (tgt := 46) dX7_as_36 (fun c36 => ?_) (fun c36 => ?_)
      · replace h := iF c36 h
        refine V_ldc (v := -1000000012) (pc2 := 48) dX7_as_46 wconstant_7_141 ?_
        have e1 := inj1 h
        subst e1
        exact V_iret dX7_as_48 rfl ⟨rfl, rfl⟩
      · replace h := iT c36 h
        refine V_aload_n (pc2 := 40) dX7_as_39 0 rfl rfl ?_
        obtain ⟨x8, e_x8, h⟩ := bS h
        refine V_gI (pc2 := 43) e_x8 dX7_as_40 wF_7_124 ?_
        refine V_goto (tgt := 48) dX7_as_43 ?_
        have e1 := inj1 h
        subst e1
        exact V_iret dX7_as_48 rfl ⟨rfl, rfl⟩
    · replace h := iF c15 h
      refine V_ldc (v := -1000000001) (pc2 := 20) dX7_as_18 wconstant_7_51 ?_
      have e1 := inj1 h
      subst e1
      exact V_iret dX7_as_20 rfl ⟨rfl, rfl⟩
noncomputable def fX7_turns (a0 : Nat) (p0 : Int32) (p1 : Int32) (m : Mem) : Option (Int32 × Mem) :=
  (gR m a0 7 0).bind fun r1 =>
  (cV m r1 2 (fX2_isStop r1 p0 m)).bind fun b2 =>
  if b2 = true then
    (fX7_isKind p1 m).bind fun b3 =>
    if b3 = true then
      (gR m a0 7 0).bind fun r4 =>
      (gR m r4 2 4).bind fun r5 =>
      (ldR m r5 2 p0).bind fun r6 =>
      (gI m r6 5 0).bind fun x7 =>
      (gR m a0 7 0).bind fun r8 =>
      (gR m r8 2 4).bind fun r9 =>
      (ldR m r9 2 p0).bind fun r10 =>
      (pI m r10 5 0 p1).bind fun m11 =>
      some (x7, m11)
    else
      some ((-1000000001 : Int32), m)
  else
    some ((-1000000001 : Int32), m)
set_option maxRecDepth 20000 in
theorem tX7_turns {D : Dat} {a0 : Nat} {p0 : Int32} {p1 : Int32} {m : Mem} {rR : Int32} {mR : Mem} (h : fX7_turns a0 p0 p1 m = some (rR, mR)) : T D 2 IX7_turns [.ref a0, .int p0, .int p1] m 0 0 (Qi rR mR) := by
  refine T_of_V (by decide) (Nat.le_of_ble_eq_true rfl) ?_
  show V D 2 IX7_turns 0 [(0, .ref a0), (1, .int p0), (2, .int p1)] [] m 0 0 (Qi rR mR)
  unfold fX7_turns at h
  refine V_aload_n (pc2 := 1) dX7_turns_0 0 rfl rfl ?_
  obtain ⟨r1, e_r1, h⟩ := bS h
  refine V_gR (pc2 := 4) e_r1 dX7_turns_1 wF_7_10 ?_
  refine V_iload_n (pc2 := 5) dX7_turns_4 1 rfl rfl ?_
  obtain ⟨b2, e_b2, h⟩ := bS h
  obtain ⟨⟨fs_b2, o_b2⟩, e_b2⟩ := cV_of e_b2
  refine V_cVi (pc2 := 8) [.int p0] (st := []) o_b2 (tX2_isStop e_b2) dX7_turns_5 wV_7_112 (by decide) rfl (Nat.le_of_ble_eq_true rfl) ?_
  refine V_ifb_eq (pc2 := 11) (tgt := 18) dX7_turns_8 (fun c8 => ?_) (fun c8 => ?_)
  · replace h := iF c8 h
    refine V_ldc (v := -1000000001) (pc2 := 20) dX7_turns_18 wconstant_7_51 ?_
    obtain ⟨e1, e2⟩ := inj2 h
    subst e1
    subst e2
    exact V_iret dX7_turns_20 rfl ⟨rfl, rfl⟩
  · replace h := iT c8 h
    refine V_iload_n (pc2 := 12) dX7_turns_11 2 rfl rfl ?_
    obtain ⟨b3, e_b3, h⟩ := bS h
    refine V_cSi (pc2 := 15) [.int p1] (st := []) (tX7_isKind e_b3) dX7_turns_12 wS_7_102 (by decide) rfl (Nat.le_of_ble_eq_true rfl) ?_
    refine V_ifb_ne (pc2 := 18) (tgt := 21) dX7_turns_15 (fun c15 => ?_) (fun c15 => ?_)
    · replace h := iT c15 h
      refine V_aload_n (pc2 := 22) dX7_turns_21 0 rfl rfl ?_
      obtain ⟨r4, e_r4, h⟩ := bS h
      refine V_gR (pc2 := 25) e_r4 dX7_turns_22 wF_7_10 ?_
      obtain ⟨r5, e_r5, h⟩ := bS h
      refine V_gR (pc2 := 28) e_r5 dX7_turns_25 wF_7_115 ?_
      refine V_iload_n (pc2 := 29) dX7_turns_28 1 rfl rfl ?_
      obtain ⟨r6, e_r6, h⟩ := bS h
      refine V_ldR (pc2 := 30) e_r6 dX7_turns_29 rfl ?_
      obtain ⟨x7, e_x7, h⟩ := bS h
      refine V_gI (pc2 := 33) e_x7 dX7_turns_30 wF_7_119 ?_
      refine V_istore_n (pc2 := 34) (L2 := [(3, .int x7), (0, .ref a0), (1, .int p0), (2, .int p1)]) dX7_turns_33 ?_ rfl rfl rfl
      refine V_aload_n (pc2 := 35) dX7_turns_34 1 rfl rfl ?_
      obtain ⟨r8, e_r8, h⟩ := bS h
      refine V_gR (pc2 := 38) e_r8 dX7_turns_35 wF_7_10 ?_
      obtain ⟨r9, e_r9, h⟩ := bS h
      refine V_gR (pc2 := 41) e_r9 dX7_turns_38 wF_7_115 ?_
      refine V_iload_n (pc2 := 42) dX7_turns_41 2 rfl rfl ?_
      obtain ⟨r10, e_r10, h⟩ := bS h
      refine V_ldR (pc2 := 43) e_r10 dX7_turns_42 rfl ?_
      refine V_iload_n (pc2 := 44) dX7_turns_43 3 rfl rfl ?_
      obtain ⟨m11, e_m11, h⟩ := bS h
      refine V_pI (pc2 := 47) e_m11 dX7_turns_44 wP_7_119 rfl rfl ?_
      refine V_iload_n (pc2 := 48) dX7_turns_47 0 rfl rfl ?_
      obtain ⟨e1, e2⟩ := inj2 h
      subst e1
      subst e2
      exact V_iret dX7_turns_48 rfl ⟨rfl, rfl⟩
    · replace h := iF c15 h
      refine V_ldc (v := -1000000001) (pc2 := 20) dX7_turns_18 wconstant_7_51 ?_
      obtain ⟨e1, e2⟩ := inj2 h
      subst e1
      subst e2
      exact V_iret dX7_turns_20 rfl ⟨rfl, rfl⟩
noncomputable def fX7_set (a0 : Nat) (p0 : Int32) (p1 : Int32) (p2 : Int32) (m : Mem) : Option (Int32 × Mem) :=
  (gR m a0 7 0).bind fun r1 =>
  (cV m r1 2 (fX2_isStop r1 p0 m)).bind fun b2 =>
  if b2 = true then
    (gR m a0 7 0).bind fun r3 =>
    (gR m r3 2 4).bind fun r4 =>
    (ldR m r4 2 p0).bind fun r5 =>
    if p1 = (1 : Int32) then
      (fX7_within p2 (0 : Int32) (99 : Int32) m).bind fun b9 =>
      if b9 = true then
        (gI m r5 5 1).bind fun x13 =>
        (pI m r5 5 1 p2).bind fun m14 =>
        some (x13, m14)
      else
        if p1 = (2 : Int32) then
          (fX7_within p2 (0 : Int32) (9 : Int32) m).bind fun b10 =>
          if b10 = true then
            (gI m r5 5 2).bind fun x11 =>
            (pI m r5 5 2 p2).bind fun m12 =>
            some (x11, m12)
          else
            some ((-1000000001 : Int32), m)
        else
          some ((-1000000001 : Int32), m)
    else
      if p1 = (2 : Int32) then
        (fX7_within p2 (0 : Int32) (9 : Int32) m).bind fun b6 =>
        if b6 = true then
          (gI m r5 5 2).bind fun x7 =>
          (pI m r5 5 2 p2).bind fun m8 =>
          some (x7, m8)
        else
          some ((-1000000001 : Int32), m)
      else
        some ((-1000000001 : Int32), m)
  else
    some ((-1000000001 : Int32), m)
set_option maxRecDepth 20000 in
theorem tX7_set {D : Dat} {a0 : Nat} {p0 : Int32} {p1 : Int32} {p2 : Int32} {m : Mem} {rR : Int32} {mR : Mem} (h : fX7_set a0 p0 p1 p2 m = some (rR, mR)) : T D 2 IX7_set [.ref a0, .int p0, .int p1, .int p2] m 0 0 (Qi rR mR) := by
  refine T_of_V (by decide) (Nat.le_of_ble_eq_true rfl) ?_
  show V D 2 IX7_set 0 [(0, .ref a0), (1, .int p0), (2, .int p1), (3, .int p2)] [] m 0 0 (Qi rR mR)
  unfold fX7_set at h
  refine V_aload_n (pc2 := 1) dX7_set_0 0 rfl rfl ?_
  obtain ⟨r1, e_r1, h⟩ := bS h
  refine V_gR (pc2 := 4) e_r1 dX7_set_1 wF_7_10 ?_
  refine V_iload_n (pc2 := 5) dX7_set_4 1 rfl rfl ?_
  obtain ⟨b2, e_b2, h⟩ := bS h
  obtain ⟨⟨fs_b2, o_b2⟩, e_b2⟩ := cV_of e_b2
  refine V_cVi (pc2 := 8) [.int p0] (st := []) o_b2 (tX2_isStop e_b2) dX7_set_5 wV_7_112 (by decide) rfl (Nat.le_of_ble_eq_true rfl) ?_
  refine V_ifb_ne (pc2 := 11) (tgt := 14) dX7_set_8 (fun c8 => ?_) (fun c8 => ?_)
  · replace h := iT c8 h
    refine V_aload_n (pc2 := 15) dX7_set_14 0 rfl rfl ?_
    obtain ⟨r3, e_r3, h⟩ := bS h
    refine V_gR (pc2 := 18) e_r3 dX7_set_15 wF_7_10 ?_
    obtain ⟨r4, e_r4, h⟩ := bS h
    refine V_gR (pc2 := 21) e_r4 dX7_set_18 wF_7_115 ?_
    refine V_iload_n (pc2 := 22) dX7_set_21 1 rfl rfl ?_
    obtain ⟨r5, e_r5, h⟩ := bS h
    refine V_ldR (pc2 := 23) e_r5 dX7_set_22 rfl ?_
    refine V_astore (pc2 := 25) (L2 := [(4, .ref r5), (0, .ref a0), (1, .int p0), (2, .int p1), (3, .int p2)]) dX7_set_23 ?_ rfl rfl
    refine V_ldc (v := -1000000001) (pc2 := 27) dX7_set_25 wconstant_7_51 ?_
    refine V_istore (pc2 := 29) (L2 := [(5, .int (-1000000001 : Int32)), (4, .ref r5), (0, .ref a0), (1, .int p0), (2, .int p1), (3, .int p2)]) dX7_set_27 ?_ rfl rfl
    refine V_iload_n (pc2 := 30) dX7_set_29 4 rfl rfl ?_
    refine V_iconst (v := 1) (pc2 := 31) dX7_set_30 (by decide) ?_
    refine V_icmp_ne (pc2 := 34) (tgt := 60) dX7_set_31 (fun c31 => ?_) (fun c31 => ?_)
    · replace h := iF c31 h
      refine V_iload_n (pc2 := 61) dX7_set_60 4 rfl rfl ?_
      refine V_iconst (v := 2) (pc2 := 62) dX7_set_61 (by decide) ?_
      refine V_icmp_ne (pc2 := 65) (tgt := 88) dX7_set_62 (fun c62 => ?_) (fun c62 => ?_)
      · replace h := iF c62 h
        refine V_iload (pc2 := 90) dX7_set_88 0 rfl ?_
        obtain ⟨e1, e2⟩ := inj2 h
        subst e1
        subst e2
        exact V_iret dX7_set_90 rfl ⟨rfl, rfl⟩
      · replace h := iT c62 h
        refine V_iload_n (pc2 := 66) dX7_set_65 5 rfl rfl ?_
        refine V_iconst (v := 0) (pc2 := 67) dX7_set_66 (by decide) ?_
        refine V_bipush (v := 9) (pc2 := 69) dX7_set_67 (by decide) ?_
        obtain ⟨b6, e_b6, h⟩ := bS h
        refine V_cSi (pc2 := 72) [.int p2, .int (0 : Int32), .int (9 : Int32)] (st := []) (tX7_within e_b6) dX7_set_69 wS_7_47 (by decide) rfl (Nat.le_of_ble_eq_true rfl) ?_
        refine V_ifb_eq (pc2 := 75) (tgt := 88) dX7_set_72 (fun c72 => ?_) (fun c72 => ?_)
        · replace h := iF c72 h
          refine V_iload (pc2 := 90) dX7_set_88 0 rfl ?_
          obtain ⟨e1, e2⟩ := inj2 h
          subst e1
          subst e2
          exact V_iret dX7_set_90 rfl ⟨rfl, rfl⟩
        · replace h := iT c72 h
          refine V_aload (pc2 := 77) dX7_set_75 1 rfl ?_
          obtain ⟨x7, e_x7, h⟩ := bS h
          refine V_gI (pc2 := 80) e_x7 dX7_set_77 wF_7_127 ?_
          refine V_istore (pc2 := 82) (L2 := [(5, .int x7), (4, .ref r5), (0, .ref a0), (1, .int p0), (2, .int p1), (3, .int p2)]) dX7_set_80 ?_ rfl rfl
          refine V_aload (pc2 := 84) dX7_set_82 1 rfl ?_
          refine V_iload_n (pc2 := 85) dX7_set_84 5 rfl rfl ?_
          obtain ⟨m8, e_m8, h⟩ := bS h
          refine V_pI (pc2 := 88) e_m8 dX7_set_85 wP_7_127 rfl rfl ?_
          refine V_iload (pc2 := 90) dX7_set_88 0 rfl ?_
          obtain ⟨e1, e2⟩ := inj2 h
          subst e1
          subst e2
          exact V_iret dX7_set_90 rfl ⟨rfl, rfl⟩
    · replace h := iT c31 h
      refine V_iload_n (pc2 := 35) dX7_set_34 5 rfl rfl ?_
      refine V_iconst (v := 0) (pc2 := 36) dX7_set_35 (by decide) ?_
      refine V_bipush (v := 99) (pc2 := 38) dX7_set_36 (by decide) ?_
      obtain ⟨b9, e_b9, h⟩ := bS h
      refine V_cSi (pc2 := 41) [.int p2, .int (0 : Int32), .int (99 : Int32)] (st := []) (tX7_within e_b9) dX7_set_38 wS_7_47 (by decide) rfl (Nat.le_of_ble_eq_true rfl) ?_
      refine V_ifb_eq (pc2 := 44) (tgt := 60) dX7_set_41 (fun c41 => ?_) (fun c41 => ?_)
      · replace h := iF c41 h
        refine V_iload_n (pc2 := 61) dX7_set_60 4 rfl rfl ?_
        refine V_iconst (v := 2) (pc2 := 62) dX7_set_61 (by decide) ?_
        refine V_icmp_ne (pc2 := 65) (tgt := 88) dX7_set_62 (fun c62 => ?_) (fun c62 => ?_)
        · replace h := iF c62 h
          refine V_iload (pc2 := 90) dX7_set_88 0 rfl ?_
          obtain ⟨e1, e2⟩ := inj2 h
          subst e1
          subst e2
          exact V_iret dX7_set_90 rfl ⟨rfl, rfl⟩
        · replace h := iT c62 h
          refine V_iload_n (pc2 := 66) dX7_set_65 5 rfl rfl ?_
          refine V_iconst (v := 0) (pc2 := 67) dX7_set_66 (by decide) ?_
          refine V_bipush (v := 9) (pc2 := 69) dX7_set_67 (by decide) ?_
          obtain ⟨b10, e_b10, h⟩ := bS h
          refine V_cSi (pc2 := 72) [.int p2, .int (0 : Int32), .int (9 : Int32)] (st := []) (tX7_within e_b10) dX7_set_69 wS_7_47 (by decide) rfl (Nat.le_of_ble_eq_true rfl) ?_
          refine V_ifb_eq (pc2 := 75) (tgt := 88) dX7_set_72 (fun c72 => ?_) (fun c72 => ?_)
          · replace h := iF c72 h
            refine V_iload (pc2 := 90) dX7_set_88 0 rfl ?_
            obtain ⟨e1, e2⟩ := inj2 h
            subst e1
            subst e2
            exact V_iret dX7_set_90 rfl ⟨rfl, rfl⟩
          · replace h := iT c72 h
            refine V_aload (pc2 := 77) dX7_set_75 1 rfl ?_
            obtain ⟨x11, e_x11, h⟩ := bS h
            refine V_gI (pc2 := 80) e_x11 dX7_set_77 wF_7_127 ?_
            refine V_istore (pc2 := 82) (L2 := [(5, .int x11), (4, .ref r5), (0, .ref a0), (1, .int p0), (2, .int p1), (3, .int p2)]) dX7_set_80 ?_ rfl rfl
            refine V_aload (pc2 := 84) dX7_set_82 1 rfl ?_
            refine V_iload_n (pc2 := 85) dX7_set_84 5 rfl rfl ?_
            obtain ⟨m12, e_m12, h⟩ := bS h
            refine V_pI (pc2 := 88) e_m12 dX7_set_85 wP_7_127 rfl rfl ?_
            refine V_iload (pc2 := 90) dX7_set_88 0 rfl ?_
            obtain ⟨e1, e2⟩ := inj2 h
            subst e1
            subst e2
            exact V_iret dX7_set_90 rfl ⟨rfl, rfl⟩
      · replace h := iT c41 h
        refine V_aload (pc2 := 46) dX7_set_44 1 rfl ?_
        obtain ⟨x13, e_x13, h⟩ := bS h
        refine V_gI (pc2 := 49) e_x13 dX7_set_46 wF_7_124 ?_
        refine V_istore (pc2 := 51) (L2 := [(5, .int x13), (4, .ref r5), (0, .ref a0), (1, .int p0), (2, .int p1), (3, .int p2)]) dX7_set_49 ?_ rfl rfl
        refine V_aload (pc2 := 53) dX7_set_51 1 rfl ?_
        refine V_iload_n (pc2 := 54) dX7_set_53 5 rfl rfl ?_
        obtain ⟨m14, e_m14, h⟩ := bS h
        refine V_pI (pc2 := 57) e_m14 dX7_set_54 wP_7_124 rfl rfl ?_
        refine V_goto (tgt := 88) dX7_set_57 ?_
        refine V_iload (pc2 := 90) dX7_set_88 0 rfl ?_
        obtain ⟨e1, e2⟩ := inj2 h
        subst e1
        subst e2
        exact V_iret dX7_set_90 rfl ⟨rfl, rfl⟩
  · replace h := iF c8 h
    refine V_ldc (v := -1000000001) (pc2 := 13) dX7_set_11 wconstant_7_51 ?_
    obtain ⟨e1, e2⟩ := inj2 h
    subst e1
    subst e2
    exact V_iret dX7_set_13 rfl ⟨rfl, rfl⟩
noncomputable def fX2_draw (a0 : Nat) (m : Mem) : Option (Int32 × Mem) :=
  (gI m a0 2 17).bind fun x1 =>
  (pI m a0 2 17 ((x1 * (1103515245 : Int32)) + (12345 : Int32))).bind fun m2 =>
  (gI m2 a0 2 17).bind fun x3 =>
  some ((x3.toUInt32 >>> ((8 : Int32).toUInt32 &&& Int32.toUInt32 31)).toInt32, m2)
set_option maxRecDepth 20000 in
theorem tX2_draw {D : Dat} {a0 : Nat} {m : Mem} {rR : Int32} {mR : Mem} (h : fX2_draw a0 m = some (rR, mR)) : T D 0 IX2_draw [.ref a0] m 0 0 (Qi rR mR) := by
  refine T_of_V (by decide) (Nat.le_of_ble_eq_true rfl) ?_
  show V D 0 IX2_draw 0 [(0, .ref a0)] [] m 0 0 (Qi rR mR)
  unfold fX2_draw at h
  refine V_aload_n (pc2 := 1) dX2_draw_0 0 rfl rfl ?_
  refine V_aload_n (pc2 := 2) dX2_draw_1 0 rfl rfl ?_
  obtain ⟨x1, e_x1, h⟩ := bS h
  refine V_gI (pc2 := 5) e_x1 dX2_draw_2 wF_2_43 ?_
  refine V_ldc (v := 1103515245) (pc2 := 7) dX2_draw_5 wconstant_2_126 ?_
  refine V_imul (pc2 := 8) dX2_draw_7 ?_
  refine V_sipush (v := 12345) (pc2 := 11) dX2_draw_8 (by decide) ?_
  refine V_iadd (pc2 := 12) dX2_draw_11 ?_
  obtain ⟨m2, e_m2, h⟩ := bS h
  refine V_pI (pc2 := 15) e_m2 dX2_draw_12 wP_2_43 rfl rfl ?_
  refine V_aload_n (pc2 := 16) dX2_draw_15 0 rfl rfl ?_
  obtain ⟨x3, e_x3, h⟩ := bS h
  refine V_gI (pc2 := 19) e_x3 dX2_draw_16 wF_2_43 ?_
  refine V_bipush (v := 8) (pc2 := 21) dX2_draw_19 (by decide) ?_
  refine V_iushr (pc2 := 22) dX2_draw_21 rfl ?_
  obtain ⟨e1, e2⟩ := inj2 h
  subst e1
  subst e2
  exact V_iret dX2_draw_22 rfl ⟨rfl, rfl⟩
noncomputable def fX7_deal_b0 (a0 : Nat) (x4 : Int32) : Int32 × Mem → Option ((Int32 × Mem) ⊕ Mem) := fun (y5, m6) =>
  if x4 ≤ y5 then
    some (.inr m6)
  else
    (gR m6 a0 7 0).bind fun r7 =>
    (cV m6 r7 2 (fX2_draw r7 m6)).bind fun (x8, m9) =>
    (rmI x8 (6 : Int32)).bind fun x10 =>
    (gR m9 a0 7 0).bind fun r11 =>
    (cV m9 r11 2 (fX2_draw r11 m9)).bind fun (x12, m13) =>
    (rmI x12 (60 : Int32)).bind fun x14 =>
    (gR m13 a0 7 0).bind fun r15 =>
    (cV m13 r15 2 (fX2_draw r15 m13)).bind fun (x16, m17) =>
    (rmI x16 (10 : Int32)).bind fun x18 =>
    (gR m17 a0 7 0).bind fun r19 =>
    (cV m17 r19 2 (fX2_addStop r19 x10 x14 x18 m17)).bind fun m20 =>
    some (.inl (y5 + (1 : Int32), m20))
noncomputable def fX7_deal (a0 : Nat) (p0 : Int32) (m : Mem) : Option (Int32 × Mem) :=
  (fX7_within p0 (1 : Int32) (10 : Int32) m).bind fun b1 =>
  if b1 = true then
    (gR m a0 7 0).bind fun r2 =>
    (gI m r2 2 5).bind fun x3 =>
    (fJ9_min_7cf53 p0 ((10 : Int32) - x3) m).bind fun x4 =>
    (loopF (fX7_deal_b0 a0 x4) bigN ((0 : Int32), m)).bind fun m21 =>
    some (x4, m21)
  else
    some ((-1000000001 : Int32), m)
set_option maxRecDepth 20000 in
theorem tX7_deal {D : Dat} {a0 : Nat} {p0 : Int32} {m : Mem} {rR : Int32} {mR : Mem} (h : fX7_deal a0 p0 m = some (rR, mR)) : T D 1 IX7_deal [.ref a0, .int p0] m 0 0 (Qi rR mR) := by
  refine T_of_V (by decide) (Nat.le_of_ble_eq_true rfl) ?_
  show V D 1 IX7_deal 0 [(0, .ref a0), (1, .int p0)] [] m 0 0 (Qi rR mR)
  unfold fX7_deal at h
  refine V_iload_n (pc2 := 1) dX7_deal_0 1 rfl rfl ?_
  refine V_iconst (v := 1) (pc2 := 2) dX7_deal_1 (by decide) ?_
  refine V_bipush (v := 10) (pc2 := 4) dX7_deal_2 (by decide) ?_
  obtain ⟨b1, e_b1, h⟩ := bS h
  refine V_cSi (pc2 := 7) [.int p0, .int (1 : Int32), .int (10 : Int32)] (st := []) (tX7_within e_b1) dX7_deal_4 wS_7_47 (by decide) rfl (Nat.le_of_ble_eq_true rfl) ?_
  refine V_ifb_ne (pc2 := 10) (tgt := 13) dX7_deal_7 (fun c7 => ?_) (fun c7 => ?_)
  · replace h := iT c7 h
    refine V_iload_n (pc2 := 14) dX7_deal_13 1 rfl rfl ?_
    refine V_bipush (v := 10) (pc2 := 16) dX7_deal_14 (by decide) ?_
    refine V_aload_n (pc2 := 17) dX7_deal_16 0 rfl rfl ?_
    obtain ⟨r2, e_r2, h⟩ := bS h
    refine V_gR (pc2 := 20) e_r2 dX7_deal_17 wF_7_10 ?_
    obtain ⟨x3, e_x3, h⟩ := bS h
    refine V_gI (pc2 := 23) e_x3 dX7_deal_20 wF_7_105 ?_
    refine V_isub (pc2 := 24) dX7_deal_23 ?_
    obtain ⟨x4, e_x4, h⟩ := bS h
    refine V_cSi (pc2 := 27) [.int p0, .int ((10 : Int32) - x3)] (st := []) (tJ9_min_7cf53 e_x4) dX7_deal_24 wS_7_142 (by decide) rfl (Nat.le_of_ble_eq_true rfl) ?_
    refine V_istore_n (pc2 := 28) (L2 := [(2, .int x4), (0, .ref a0), (1, .int p0)]) dX7_deal_27 ?_ rfl rfl rfl
    refine V_iconst (v := 0) (pc2 := 29) dX7_deal_28 (by decide) ?_
    refine V_istore_n (pc2 := 30) (L2 := [(3, .int (0 : Int32)), (2, .int x4), (0, .ref a0), (1, .int p0)]) dX7_deal_29 ?_ rfl rfl rfl
    obtain ⟨m21, hl, h⟩ := bS h
    have hJ92 : V D 1 IX7_deal 92 [(2, .int x4)] [] m21 0 0 (Qi rR mR) := by
      refine V_iload_n (pc2 := 93) dX7_deal_92 0 rfl rfl ?_
      obtain ⟨e1, e2⟩ := inj2 h
      subst e1
      subst e2
      exact V_iret dX7_deal_93 rfl ⟨rfl, rfl⟩
    clear h
    have key30 : ∀ (n : Nat) (y5 : Int32) (m6 : Mem), loopF (fX7_deal_b0 a0 x4) n (y5, m6) = some m21 → V D 1 IX7_deal 30 [(0, .ref a0), (2, .int x4), (3, .int y5)] [] m6 0 0 (Qi rR mR) := by
      intro n
      induction n with
      | zero => intro y5 m6 h; cases h
      | succ n ih =>
        intro y5 m6 h
        obtain ⟨o, h, ho⟩ := loopF_inv h
        dsimp only [fX7_deal_b0] at h
        refine V_iload_n (pc2 := 31) dX7_deal_30 2 rfl rfl ?_
        refine V_iload_n (pc2 := 32) dX7_deal_31 1 rfl rfl ?_
        refine V_icmp_ge (pc2 := 35) (tgt := 92) dX7_deal_32 (fun c32 => ?_) (fun c32 => ?_)
        · replace h := iT c32 h
          have ee := inj1 h
          subst ee
          have e1 := pinj1 (loopF_e ho)
          subst e1
          exact V_lv hJ92 [1] rfl
        · replace h := iF c32 h
          refine V_aload_n (pc2 := 36) dX7_deal_35 0 rfl rfl ?_
          obtain ⟨r7, e_r7, h⟩ := bS h
          refine V_gR (pc2 := 39) e_r7 dX7_deal_36 wF_7_10 ?_
          obtain ⟨⟨x8, m9⟩, e_x8, h⟩ := bS h
          try dsimp only at h
          obtain ⟨⟨fs_x8, o_x8⟩, e_x8⟩ := cV_of e_x8
          refine V_cVi (pc2 := 42) [] (st := []) o_x8 (tX2_draw e_x8) dX7_deal_39 wV_7_148 (by decide) rfl (Nat.le_of_ble_eq_true rfl) ?_
          refine V_above (pc2 := 45) dX7_deal_42 wfieldLink_7_151 ?_
          refine V_ablen (pc2 := 46) dX7_deal_45 ?_
          obtain ⟨x10, e_x10, h⟩ := bS h
          refine V_rmI (pc2 := 47) e_x10 dX7_deal_46 ?_
          refine V_istore (pc2 := 49) (L2 := [(4, .int x10), (0, .ref a0), (2, .int x4), (3, .int y5)]) dX7_deal_47 ?_ rfl rfl
          refine V_aload_n (pc2 := 50) dX7_deal_49 1 rfl rfl ?_
          obtain ⟨r11, e_r11, h⟩ := bS h
          refine V_gR (pc2 := 53) e_r11 dX7_deal_50 wF_7_10 ?_
          obtain ⟨⟨x12, m13⟩, e_x12, h⟩ := bS h
          try dsimp only at h
          obtain ⟨⟨fs_x12, o_x12⟩, e_x12⟩ := cV_of e_x12
          refine V_cVi (pc2 := 56) [] (st := []) o_x12 (tX2_draw e_x12) dX7_deal_53 wV_7_148 (by decide) rfl (Nat.le_of_ble_eq_true rfl) ?_
          refine V_bipush (v := 60) (pc2 := 58) dX7_deal_56 (by decide) ?_
          obtain ⟨x14, e_x14, h⟩ := bS h
          refine V_rmI (pc2 := 59) e_x14 dX7_deal_58 ?_
          refine V_istore (pc2 := 61) (L2 := [(5, .int x14), (4, .int x10), (0, .ref a0), (2, .int x4), (3, .int y5)]) dX7_deal_59 ?_ rfl rfl
          refine V_aload_n (pc2 := 62) dX7_deal_61 2 rfl rfl ?_
          obtain ⟨r15, e_r15, h⟩ := bS h
          refine V_gR (pc2 := 65) e_r15 dX7_deal_62 wF_7_10 ?_
          obtain ⟨⟨x16, m17⟩, e_x16, h⟩ := bS h
          try dsimp only at h
          obtain ⟨⟨fs_x16, o_x16⟩, e_x16⟩ := cV_of e_x16
          refine V_cVi (pc2 := 68) [] (st := []) o_x16 (tX2_draw e_x16) dX7_deal_65 wV_7_148 (by decide) rfl (Nat.le_of_ble_eq_true rfl) ?_
          refine V_bipush (v := 10) (pc2 := 70) dX7_deal_68 (by decide) ?_
          obtain ⟨x18, e_x18, h⟩ := bS h
          refine V_rmI (pc2 := 71) e_x18 dX7_deal_70 ?_
          refine V_istore (pc2 := 73) (L2 := [(6, .int x18), (5, .int x14), (4, .int x10), (0, .ref a0), (2, .int x4), (3, .int y5)]) dX7_deal_71 ?_ rfl rfl
          refine V_aload_n (pc2 := 74) dX7_deal_73 3 rfl rfl ?_
          obtain ⟨r19, e_r19, h⟩ := bS h
          refine V_gR (pc2 := 77) e_r19 dX7_deal_74 wF_7_10 ?_
          refine V_iload (pc2 := 79) dX7_deal_77 2 rfl ?_
          refine V_iload (pc2 := 81) dX7_deal_79 1 rfl ?_
          refine V_iload (pc2 := 83) dX7_deal_81 0 rfl ?_
          obtain ⟨m20, e_m20, h⟩ := bS h
          obtain ⟨⟨fs_m20, o_m20⟩, e_m20⟩ := cV_of e_m20
          refine V_cVv (pc2 := 86) [.int x10, .int x14, .int x18] (st := []) o_m20 (tX2_addStop e_m20) dX7_deal_83 wV_7_108 (by decide) rfl (Nat.le_of_ble_eq_true rfl) ?_
          refine V_iinc (pc2 := 89) (v := y5 + (1 : Int32)) (L2 := [(3, .int (y5 + (1 : Int32))), (6, .int x18), (5, .int x14), (4, .int x10), (0, .ref a0), (2, .int x4)]) dX7_deal_86 5 rfl (by rfl) ?_ rfl rfl
          refine V_goto (tgt := 30) dX7_deal_89 ?_
          have ee := inj1 h
          subst ee
          exact V_lv (ih _ _ (loopF_c ho)) [4, 5, 0] rfl
    exact V_lv (key30 _ _ _ hl) [2, 1, 0] rfl
  · replace h := iF c7 h
    refine V_ldc (v := -1000000001) (pc2 := 12) dX7_deal_10 wconstant_7_51 ?_
    obtain ⟨e1, e2⟩ := inj2 h
    subst e1
    subst e2
    exact V_iret dX7_deal_12 rfl ⟨rfl, rfl⟩
noncomputable def fX7_seed (a0 : Nat) (p0 : Int32) (m : Mem) : Option (Int32 × Mem) :=
  (gR m a0 7 0).bind fun r1 =>
  (gI m r1 2 17).bind fun x2 =>
  (gR m a0 7 0).bind fun r3 =>
  (pI m r3 2 17 p0).bind fun m4 =>
  some (x2, m4)
set_option maxRecDepth 20000 in
theorem tX7_seed {D : Dat} {a0 : Nat} {p0 : Int32} {m : Mem} {rR : Int32} {mR : Mem} (h : fX7_seed a0 p0 m = some (rR, mR)) : T D 0 IX7_seed [.ref a0, .int p0] m 0 0 (Qi rR mR) := by
  refine T_of_V (by decide) (Nat.le_of_ble_eq_true rfl) ?_
  show V D 0 IX7_seed 0 [(0, .ref a0), (1, .int p0)] [] m 0 0 (Qi rR mR)
  unfold fX7_seed at h
  refine V_aload_n (pc2 := 1) dX7_seed_0 0 rfl rfl ?_
  obtain ⟨r1, e_r1, h⟩ := bS h
  refine V_gR (pc2 := 4) e_r1 dX7_seed_1 wF_7_10 ?_
  obtain ⟨x2, e_x2, h⟩ := bS h
  refine V_gI (pc2 := 7) e_x2 dX7_seed_4 wF_7_154 ?_
  refine V_istore_n (pc2 := 8) (L2 := [(2, .int x2), (0, .ref a0), (1, .int p0)]) dX7_seed_7 ?_ rfl rfl rfl
  refine V_aload_n (pc2 := 9) dX7_seed_8 1 rfl rfl ?_
  obtain ⟨r3, e_r3, h⟩ := bS h
  refine V_gR (pc2 := 12) e_r3 dX7_seed_9 wF_7_10 ?_
  refine V_iload_n (pc2 := 13) dX7_seed_12 2 rfl rfl ?_
  obtain ⟨m4, e_m4, h⟩ := bS h
  refine V_pI (pc2 := 16) e_m4 dX7_seed_13 wP_7_154 rfl rfl ?_
  refine V_iload_n (pc2 := 17) dX7_seed_16 0 rfl rfl ?_
  obtain ⟨e1, e2⟩ := inj2 h
  subst e1
  subst e2
  exact V_iret dX7_seed_17 rfl ⟨rfl, rfl⟩
noncomputable def fX2_landsBehind_b0 (a0 : Nat) (m : Mem) : Int32 × Int32 × Int32 → Option ((Int32 × Int32 × Int32) ⊕ Int32) := fun (y8, y9, y10) =>
  (gI m a0 2 1).bind fun x11 =>
  if x11 ≤ y10 then
    some (.inr y8)
  else
    (cV m a0 2 (fX2_isChild a0 y8 m)).bind fun b12 =>
    if b12 = true then
      (gR m a0 2 9).bind fun r13 =>
      (ldI m r13 y8).bind fun x14 =>
      if y9 < x14 then
        some (.inr y8)
      else
        (gR m a0 2 9).bind fun r15 =>
        (ldI m r15 y8).bind fun x16 =>
        (cV m a0 2 (fX2_nextOf a0 y8 m)).bind fun x17 =>
        some (.inl (x17, y9 - x16, y10 + (1 : Int32)))
    else
      some (.inr y8)
noncomputable def fX2_landsBehind (a0 : Nat) (p0 : Int32) (p1 : Int32) (m : Mem) : Option (Int32) :=
  if 0 < p1 then
    (gI m a0 2 12).bind fun x1 =>
    (cV m a0 2 (fX2_isIn a0 x1 m)).bind fun b2 =>
    (
      if b2 = true then
        (gI m a0 2 12).bind fun x5 =>
        some x5
      else
        (gI m a0 2 12).bind fun x3 =>
        (cV m a0 2 (fX2_nextOf a0 x3 m)).bind fun x4 =>
        some x4).bind fun y6 =>
    (rmI p0 p1).bind fun x7 =>
    (loopF (fX2_landsBehind_b0 a0 m) bigN (y6, x7, (0 : Int32))).bind fun y18 =>
    some y18
  else
    some (-1 : Int32)
set_option maxRecDepth 20000 in
theorem tX2_landsBehind {D : Dat} {a0 : Nat} {p0 : Int32} {p1 : Int32} {m : Mem} {rR : Int32} (h : fX2_landsBehind a0 p0 p1 m = some rR) : T D 3 IX2_landsBehind [.ref a0, .int p0, .int p1] m 0 0 (Qi rR m) := by
  refine T_of_V (by decide) (Nat.le_of_ble_eq_true rfl) ?_
  show V D 3 IX2_landsBehind 0 [(0, .ref a0), (1, .int p0), (2, .int p1)] [] m 0 0 (Qi rR m)
  unfold fX2_landsBehind at h
  refine V_iload_n (pc2 := 1) dX2_landsBehind_0 2 rfl rfl ?_
  refine V_if_gt (pc2 := 4) (tgt := 6) dX2_landsBehind_1 (fun c1 => ?_) (fun c1 => ?_)
  · replace h := iT c1 h
    refine V_aload_n (pc2 := 7) dX2_landsBehind_6 0 rfl rfl ?_
    refine V_aload_n (pc2 := 8) dX2_landsBehind_7 0 rfl rfl ?_
    obtain ⟨x1, e_x1, h⟩ := bS h
    refine V_gI (pc2 := 11) e_x1 dX2_landsBehind_8 wF_2_76 ?_
    obtain ⟨b2, e_b2, h⟩ := bS h
    obtain ⟨⟨fs_b2, o_b2⟩, e_b2⟩ := cV_of e_b2
    refine V_cVi (pc2 := 14) [.int x1] (st := []) o_b2 (tX2_isIn e_b2) dX2_landsBehind_11 wV_2_155 (by decide) rfl (Nat.le_of_ble_eq_true rfl) ?_
    obtain ⟨y6, hb, h⟩ := bS h
    have hJ32 : V D 3 IX2_landsBehind 32 [(0, .ref a0), (1, .int p0), (2, .int p1)] [.int y6] m 0 0 (Qi rR m) := by
      refine V_istore_n (pc2 := 33) (L2 := [(3, .int y6), (0, .ref a0), (1, .int p0), (2, .int p1)]) dX2_landsBehind_32 ?_ rfl rfl rfl
      refine V_iload_n (pc2 := 34) dX2_landsBehind_33 2 rfl rfl ?_
      refine V_iload_n (pc2 := 35) dX2_landsBehind_34 3 rfl rfl ?_
      obtain ⟨x7, e_x7, h⟩ := bS h
      refine V_rmI (pc2 := 36) e_x7 dX2_landsBehind_35 ?_
      refine V_istore (pc2 := 38) (L2 := [(4, .int x7), (3, .int y6), (0, .ref a0), (1, .int p0), (2, .int p1)]) dX2_landsBehind_36 ?_ rfl rfl
      refine V_iconst (v := 0) (pc2 := 39) dX2_landsBehind_38 (by decide) ?_
      refine V_istore (pc2 := 41) (L2 := [(5, .int (0 : Int32)), (4, .int x7), (3, .int y6), (0, .ref a0), (1, .int p0), (2, .int p1)]) dX2_landsBehind_39 ?_ rfl rfl
      obtain ⟨y18, hl, h⟩ := bS h
      have hJ92 : V D 3 IX2_landsBehind 92 [(3, .int y18)] [] m 0 0 (Qi rR m) := by
        refine V_iload_n (pc2 := 93) dX2_landsBehind_92 0 rfl rfl ?_
        have e1 := inj1 h
        subst e1
        exact V_iret dX2_landsBehind_93 rfl ⟨rfl, rfl⟩
      clear h
      have key41 : ∀ (n : Nat) (y8 : Int32) (y9 : Int32) (y10 : Int32), loopF (fX2_landsBehind_b0 a0 m) n (y8, y9, y10) = some y18 → V D 3 IX2_landsBehind 41 [(0, .ref a0), (3, .int y8), (4, .int y9), (5, .int y10)] [] m 0 0 (Qi rR m) := by
        intro n
        induction n with
        | zero => intro y8 y9 y10 h; cases h
        | succ n ih =>
          intro y8 y9 y10 h
          obtain ⟨o, h, ho⟩ := loopF_inv h
          dsimp only [fX2_landsBehind_b0] at h
          refine V_iload (pc2 := 43) dX2_landsBehind_41 3 rfl ?_
          refine V_aload_n (pc2 := 44) dX2_landsBehind_43 0 rfl rfl ?_
          obtain ⟨x11, e_x11, h⟩ := bS h
          refine V_gI (pc2 := 47) e_x11 dX2_landsBehind_44 wF_2_48 ?_
          refine V_icmp_ge (pc2 := 50) (tgt := 92) dX2_landsBehind_47 (fun c47 => ?_) (fun c47 => ?_)
          · replace h := iT c47 h
            have ee := inj1 h
            subst ee
            have e1 := pinj1 (loopF_e ho)
            subst e1
            exact V_lv hJ92 [1] rfl
          · replace h := iF c47 h
            refine V_aload_n (pc2 := 51) dX2_landsBehind_50 0 rfl rfl ?_
            refine V_iload_n (pc2 := 52) dX2_landsBehind_51 1 rfl rfl ?_
            obtain ⟨b12, e_b12, h⟩ := bS h
            obtain ⟨⟨fs_b12, o_b12⟩, e_b12⟩ := cV_of e_b12
            refine V_cVi (pc2 := 55) [.int y8] (st := []) o_b12 (tX2_isChild e_b12) dX2_landsBehind_52 wV_2_91 (by decide) rfl (Nat.le_of_ble_eq_true rfl) ?_
            refine V_ifb_eq (pc2 := 58) (tgt := 92) dX2_landsBehind_55 (fun c55 => ?_) (fun c55 => ?_)
            · replace h := iF c55 h
              have ee := inj1 h
              subst ee
              have e1 := pinj1 (loopF_e ho)
              subst e1
              exact V_lv hJ92 [1] rfl
            · replace h := iT c55 h
              refine V_iload (pc2 := 60) dX2_landsBehind_58 2 rfl ?_
              refine V_aload_n (pc2 := 61) dX2_landsBehind_60 0 rfl rfl ?_
              obtain ⟨r13, e_r13, h⟩ := bS h
              refine V_gR (pc2 := 64) e_r13 dX2_landsBehind_61 wF_2_36 ?_
              refine V_iload_n (pc2 := 65) dX2_landsBehind_64 1 rfl rfl ?_
              obtain ⟨x14, e_x14, h⟩ := bS h
              refine V_ldI (pc2 := 66) e_x14 dX2_landsBehind_65 ?_
              refine V_icmp_lt (pc2 := 69) (tgt := 92) dX2_landsBehind_66 (fun c66 => ?_) (fun c66 => ?_)
              · replace h := iT c66 h
                have ee := inj1 h
                subst ee
                have e1 := pinj1 (loopF_e ho)
                subst e1
                exact V_lv hJ92 [1] rfl
              · replace h := iF c66 h
                refine V_iload (pc2 := 71) dX2_landsBehind_69 2 rfl ?_
                refine V_aload_n (pc2 := 72) dX2_landsBehind_71 0 rfl rfl ?_
                obtain ⟨r15, e_r15, h⟩ := bS h
                refine V_gR (pc2 := 75) e_r15 dX2_landsBehind_72 wF_2_36 ?_
                refine V_iload_n (pc2 := 76) dX2_landsBehind_75 1 rfl rfl ?_
                obtain ⟨x16, e_x16, h⟩ := bS h
                refine V_ldI (pc2 := 77) e_x16 dX2_landsBehind_76 ?_
                refine V_isub (pc2 := 78) dX2_landsBehind_77 ?_
                refine V_istore (pc2 := 80) (L2 := [(4, .int (y9 - x16)), (0, .ref a0), (3, .int y8), (5, .int y10)]) dX2_landsBehind_78 ?_ rfl rfl
                refine V_aload_n (pc2 := 81) dX2_landsBehind_80 1 rfl rfl ?_
                refine V_iload_n (pc2 := 82) dX2_landsBehind_81 2 rfl rfl ?_
                obtain ⟨x17, e_x17, h⟩ := bS h
                obtain ⟨⟨fs_x17, o_x17⟩, e_x17⟩ := cV_of e_x17
                refine V_cVi (pc2 := 85) [.int y8] (st := []) o_x17 (tX2_nextOf e_x17) dX2_landsBehind_82 wV_2_162 (by decide) rfl (Nat.le_of_ble_eq_true rfl) ?_
                refine V_istore_n (pc2 := 86) (L2 := [(3, .int x17), (4, .int (y9 - x16)), (0, .ref a0), (5, .int y10)]) dX2_landsBehind_85 ?_ rfl rfl rfl
                refine V_iinc (pc2 := 89) (v := y10 + (1 : Int32)) (L2 := [(5, .int (y10 + (1 : Int32))), (3, .int x17), (4, .int (y9 - x16)), (0, .ref a0)]) dX2_landsBehind_86 3 rfl (by rfl) ?_ rfl rfl
                refine V_goto (tgt := 41) dX2_landsBehind_89 ?_
                have ee := inj1 h
                subst ee
                exact V_lv (ih _ _ _ (loopF_c ho)) [3, 1, 2, 0] rfl
      exact V_lv (key41 _ _ _ _ hl) [3, 2, 1, 0] rfl
    clear h
    have h := hb
    clear hb
    refine V_ifb_eq (pc2 := 17) (tgt := 24) dX2_landsBehind_14 (fun c14 => ?_) (fun c14 => ?_)
    · replace h := iF c14 h
      refine V_aload_n (pc2 := 25) dX2_landsBehind_24 0 rfl rfl ?_
      refine V_aload_n (pc2 := 26) dX2_landsBehind_25 0 rfl rfl ?_
      obtain ⟨x3, e_x3, h⟩ := bS h
      refine V_gI (pc2 := 29) e_x3 dX2_landsBehind_26 wF_2_76 ?_
      obtain ⟨x4, e_x4, h⟩ := bS h
      obtain ⟨⟨fs_x4, o_x4⟩, e_x4⟩ := cV_of e_x4
      refine V_cVi (pc2 := 32) [.int x3] (st := []) o_x4 (tX2_nextOf e_x4) dX2_landsBehind_29 wV_2_162 (by decide) rfl (Nat.le_of_ble_eq_true rfl) ?_
      have e1 := inj1 h
      subst e1
      exact hJ32
    · replace h := iT c14 h
      refine V_aload_n (pc2 := 18) dX2_landsBehind_17 0 rfl rfl ?_
      obtain ⟨x5, e_x5, h⟩ := bS h
      refine V_gI (pc2 := 21) e_x5 dX2_landsBehind_18 wF_2_76 ?_
      refine V_goto (tgt := 32) dX2_landsBehind_21 ?_
      have e1 := inj1 h
      subst e1
      exact hJ32
  · replace h := iF c1 h
    refine V_iconst (v := -1) (pc2 := 5) dX2_landsBehind_4 (by decide) ?_
    have e1 := inj1 h
    subst e1
    exact V_iret dX2_landsBehind_5 rfl ⟨rfl, rfl⟩
noncomputable def fX2_measureRound_b0 (a0 : Nat) : Int32 × Int32 × Mem → Option ((Int32 × Int32 × Mem) ⊕ (Int32 × Mem)) := fun (y1, y2, m3) =>
  (gI m3 a0 2 1).bind fun x4 =>
  if x4 ≤ y2 then
    some (.inr (y1, m3))
  else
    (gR m3 a0 2 9).bind fun r5 =>
    (cV m3 a0 2 (fX2_isIn a0 y2 m3)).bind fun b6 =>
    (
      if b6 = true then
        (gR m3 a0 2 0).bind fun r7 =>
        (ldR m3 r7 1 y2).bind fun r8 =>
        (cV m3 a0 2 (fX2_holdsOf a0 r8 m3)).bind fun (x9, m10) =>
        some (x9, m10)
      else
        some ((0 : Int32), m3)).bind fun (y11, m12) =>
    (stI m12 r5 y2 y11).bind fun m13 =>
    (gR m13 a0 2 9).bind fun r14 =>
    (ldI m13 r14 y2).bind fun x15 =>
    some (.inl (y1 + x15, y2 + (1 : Int32), m13))
noncomputable def fX2_measureRound (a0 : Nat) (m : Mem) : Option (Int32 × Mem) :=
  (loopF (fX2_measureRound_b0 a0) bigN ((0 : Int32), (0 : Int32), m)).bind fun (y16, m17) =>
  some (y16, m17)
set_option maxRecDepth 20000 in
theorem tX2_measureRound {D : Dat} {a0 : Nat} {m : Mem} {rR : Int32} {mR : Mem} (h : fX2_measureRound a0 m = some (rR, mR)) : T D 3 IX2_measureRound [.ref a0] m 0 0 (Qi rR mR) := by
  refine T_of_V (by decide) (Nat.le_of_ble_eq_true rfl) ?_
  show V D 3 IX2_measureRound 0 [(0, .ref a0)] [] m 0 0 (Qi rR mR)
  unfold fX2_measureRound at h
  refine V_iconst (v := 0) (pc2 := 1) dX2_measureRound_0 (by decide) ?_
  refine V_istore_n (pc2 := 2) (L2 := [(1, .int (0 : Int32)), (0, .ref a0)]) dX2_measureRound_1 ?_ rfl rfl rfl
  refine V_iconst (v := 0) (pc2 := 3) dX2_measureRound_2 (by decide) ?_
  refine V_istore_n (pc2 := 4) (L2 := [(2, .int (0 : Int32)), (1, .int (0 : Int32)), (0, .ref a0)]) dX2_measureRound_3 ?_ rfl rfl rfl
  obtain ⟨⟨y16, m17⟩, hl, h⟩ := bS h
  try dsimp only at h
  have hJ55 : V D 3 IX2_measureRound 55 [(1, .int y16)] [] m17 0 0 (Qi rR mR) := by
    refine V_iload_n (pc2 := 56) dX2_measureRound_55 0 rfl rfl ?_
    obtain ⟨e1, e2⟩ := inj2 h
    subst e1
    subst e2
    exact V_iret dX2_measureRound_56 rfl ⟨rfl, rfl⟩
  clear h
  have key4 : ∀ (n : Nat) (y1 : Int32) (y2 : Int32) (m3 : Mem), loopF (fX2_measureRound_b0 a0) n (y1, y2, m3) = some (y16, m17) → V D 3 IX2_measureRound 4 [(0, .ref a0), (1, .int y1), (2, .int y2)] [] m3 0 0 (Qi rR mR) := by
    intro n
    induction n with
    | zero => intro y1 y2 m3 h; cases h
    | succ n ih =>
      intro y1 y2 m3 h
      obtain ⟨o, h, ho⟩ := loopF_inv h
      dsimp only [fX2_measureRound_b0] at h
      refine V_iload_n (pc2 := 5) dX2_measureRound_4 2 rfl rfl ?_
      refine V_aload_n (pc2 := 6) dX2_measureRound_5 0 rfl rfl ?_
      obtain ⟨x4, e_x4, h⟩ := bS h
      refine V_gI (pc2 := 9) e_x4 dX2_measureRound_6 wF_2_48 ?_
      refine V_icmp_ge (pc2 := 12) (tgt := 55) dX2_measureRound_9 (fun c9 => ?_) (fun c9 => ?_)
      · replace h := iT c9 h
        have ee := inj1 h
        subst ee
        obtain ⟨e1, e2⟩ := pinj2 (loopF_e ho)
        subst e1
        subst e2
        exact V_lv hJ55 [1] rfl
      · replace h := iF c9 h
        refine V_aload_n (pc2 := 13) dX2_measureRound_12 0 rfl rfl ?_
        obtain ⟨r5, e_r5, h⟩ := bS h
        refine V_gR (pc2 := 16) e_r5 dX2_measureRound_13 wF_2_36 ?_
        refine V_iload_n (pc2 := 17) dX2_measureRound_16 2 rfl rfl ?_
        refine V_aload_n (pc2 := 18) dX2_measureRound_17 0 rfl rfl ?_
        refine V_iload_n (pc2 := 19) dX2_measureRound_18 2 rfl rfl ?_
        obtain ⟨b6, e_b6, h⟩ := bS h
        obtain ⟨⟨fs_b6, o_b6⟩, e_b6⟩ := cV_of e_b6
        refine V_cVi (pc2 := 22) [.int y2] (st := [.int y2, .ref r5]) o_b6 (tX2_isIn e_b6) dX2_measureRound_19 wV_2_155 (by decide) rfl (Nat.le_of_ble_eq_true rfl) ?_
        obtain ⟨⟨y11, m12⟩, hb, h⟩ := bS h
        try dsimp only at h
        have hJ39 : V D 3 IX2_measureRound 39 [(0, .ref a0), (1, .int y1), (2, .int y2)] [.int y11, .int y2, .ref r5] m12 0 0 (Qi rR mR) := by
          obtain ⟨m13, e_m13, h⟩ := bS h
          refine V_stI (pc2 := 40) e_m13 dX2_measureRound_39 ?_
          refine V_iload_n (pc2 := 41) dX2_measureRound_40 1 rfl rfl ?_
          refine V_aload_n (pc2 := 42) dX2_measureRound_41 0 rfl rfl ?_
          obtain ⟨r14, e_r14, h⟩ := bS h
          refine V_gR (pc2 := 45) e_r14 dX2_measureRound_42 wF_2_36 ?_
          refine V_iload_n (pc2 := 46) dX2_measureRound_45 2 rfl rfl ?_
          obtain ⟨x15, e_x15, h⟩ := bS h
          refine V_ldI (pc2 := 47) e_x15 dX2_measureRound_46 ?_
          refine V_iadd (pc2 := 48) dX2_measureRound_47 ?_
          refine V_istore_n (pc2 := 49) (L2 := [(1, .int (y1 + x15)), (0, .ref a0), (2, .int y2)]) dX2_measureRound_48 ?_ rfl rfl rfl
          refine V_iinc (pc2 := 52) (v := y2 + (1 : Int32)) (L2 := [(2, .int (y2 + (1 : Int32))), (1, .int (y1 + x15)), (0, .ref a0)]) dX2_measureRound_49 2 rfl (by rfl) ?_ rfl rfl
          refine V_goto (tgt := 4) dX2_measureRound_52 ?_
          have ee := inj1 h
          subst ee
          exact V_lv (ih _ _ _ (loopF_c ho)) [2, 1, 0] rfl
        clear h
        have h := hb
        clear hb
        refine V_ifb_eq (pc2 := 25) (tgt := 38) dX2_measureRound_22 (fun c22 => ?_) (fun c22 => ?_)
        · replace h := iF c22 h
          refine V_iconst (v := 0) (pc2 := 39) dX2_measureRound_38 (by decide) ?_
          obtain ⟨e1, e2⟩ := inj2 h
          subst e1
          subst e2
          exact hJ39
        · replace h := iT c22 h
          refine V_aload_n (pc2 := 26) dX2_measureRound_25 0 rfl rfl ?_
          refine V_aload_n (pc2 := 27) dX2_measureRound_26 0 rfl rfl ?_
          obtain ⟨r7, e_r7, h⟩ := bS h
          refine V_gR (pc2 := 30) e_r7 dX2_measureRound_27 wF_2_11 ?_
          refine V_iload_n (pc2 := 31) dX2_measureRound_30 2 rfl rfl ?_
          obtain ⟨r8, e_r8, h⟩ := bS h
          refine V_ldR (pc2 := 32) e_r8 dX2_measureRound_31 rfl ?_
          obtain ⟨⟨x9, m10⟩, e_x9, h⟩ := bS h
          try dsimp only at h
          obtain ⟨⟨fs_x9, o_x9⟩, e_x9⟩ := cV_of e_x9
          refine V_cVi (pc2 := 35) [.ref r8] (st := [.int y2, .ref r5]) o_x9 (tX2_holdsOf e_x9) dX2_measureRound_32 wV_2_158 (by decide) rfl (Nat.le_of_ble_eq_true rfl) ?_
          refine V_goto (tgt := 39) dX2_measureRound_35 ?_
          obtain ⟨e1, e2⟩ := inj2 h
          subst e1
          subst e2
          exact hJ39
  exact V_lv (key4 _ _ _ _ hl) [2, 1, 0] rfl
noncomputable def fX7_lands (a0 : Nat) (p0 : Int32) (m : Mem) : Option (Int32 × Mem) :=
  (fX7_within p0 (0 : Int32) (9999 : Int32) m).bind fun b1 =>
  if b1 = true then
    (gR m a0 7 0).bind fun r2 =>
    (gR m a0 7 0).bind fun r3 =>
    (cV m r3 2 (fX2_measureRound r3 m)).bind fun (x4, m5) =>
    (cV m5 r2 2 (fX2_landsBehind r2 p0 x4 m5)).bind fun x6 =>
    (fX7_orNone x6 m5).bind fun x7 =>
    some (x7, m5)
  else
    some ((-1000000001 : Int32), m)
set_option maxRecDepth 20000 in
theorem tX7_lands {D : Dat} {a0 : Nat} {p0 : Int32} {m : Mem} {rR : Int32} {mR : Mem} (h : fX7_lands a0 p0 m = some (rR, mR)) : T D 4 IX7_lands [.ref a0, .int p0] m 0 0 (Qi rR mR) := by
  refine T_of_V (by decide) (Nat.le_of_ble_eq_true rfl) ?_
  show V D 4 IX7_lands 0 [(0, .ref a0), (1, .int p0)] [] m 0 0 (Qi rR mR)
  unfold fX7_lands at h
  refine V_iload_n (pc2 := 1) dX7_lands_0 1 rfl rfl ?_
  refine V_iconst (v := 0) (pc2 := 2) dX7_lands_1 (by decide) ?_
  refine V_sipush (v := 9999) (pc2 := 5) dX7_lands_2 (by decide) ?_
  obtain ⟨b1, e_b1, h⟩ := bS h
  refine V_cSi (pc2 := 8) [.int p0, .int (0 : Int32), .int (9999 : Int32)] (st := []) (tX7_within e_b1) dX7_lands_5 wS_7_47 (by decide) rfl (Nat.le_of_ble_eq_true rfl) ?_
  refine V_ifb_eq (pc2 := 11) (tgt := 32) dX7_lands_8 (fun c8 => ?_) (fun c8 => ?_)
  · replace h := iF c8 h
    refine V_ldc (v := -1000000001) (pc2 := 34) dX7_lands_32 wconstant_7_51 ?_
    obtain ⟨e1, e2⟩ := inj2 h
    subst e1
    subst e2
    exact V_iret dX7_lands_34 rfl ⟨rfl, rfl⟩
  · replace h := iT c8 h
    refine V_aload_n (pc2 := 12) dX7_lands_11 0 rfl rfl ?_
    obtain ⟨r2, e_r2, h⟩ := bS h
    refine V_gR (pc2 := 15) e_r2 dX7_lands_12 wF_7_10 ?_
    refine V_iload_n (pc2 := 16) dX7_lands_15 1 rfl rfl ?_
    refine V_aload_n (pc2 := 17) dX7_lands_16 0 rfl rfl ?_
    obtain ⟨r3, e_r3, h⟩ := bS h
    refine V_gR (pc2 := 20) e_r3 dX7_lands_17 wF_7_10 ?_
    obtain ⟨⟨x4, m5⟩, e_x4, h⟩ := bS h
    try dsimp only at h
    obtain ⟨⟨fs_x4, o_x4⟩, e_x4⟩ := cV_of e_x4
    refine V_cVi (pc2 := 23) [] (st := [.int p0, .ref r2]) o_x4 (tX2_measureRound e_x4) dX7_lands_20 wV_7_157 (by decide) rfl (Nat.le_of_ble_eq_true rfl) ?_
    obtain ⟨x6, e_x6, h⟩ := bS h
    obtain ⟨⟨fs_x6, o_x6⟩, e_x6⟩ := cV_of e_x6
    refine V_cVi (pc2 := 26) [.int p0, .int x4] (st := []) o_x6 (tX2_landsBehind e_x6) dX7_lands_23 wV_7_160 (by decide) rfl (Nat.le_of_ble_eq_true rfl) ?_
    obtain ⟨x7, e_x7, h⟩ := bS h
    refine V_cSi (pc2 := 29) [.int x6] (st := []) (tX7_orNone e_x7) dX7_lands_26 wS_7_84 (by decide) rfl (Nat.le_of_ble_eq_true rfl) ?_
    refine V_goto (tgt := 34) dX7_lands_29 ?_
    obtain ⟨e1, e2⟩ := inj2 h
    subst e1
    subst e2
    exact V_iret dX7_lands_34 rfl ⟨rfl, rfl⟩
noncomputable def fX7_round (a0 : Nat) (m : Mem) : Option (Int32 × Mem) :=
  (gR m a0 7 0).bind fun r1 =>
  (cV m r1 2 (fX2_measureRound r1 m)).bind fun (x2, m3) =>
  some (x2, m3)
set_option maxRecDepth 20000 in
theorem tX7_round {D : Dat} {a0 : Nat} {m : Mem} {rR : Int32} {mR : Mem} (h : fX7_round a0 m = some (rR, mR)) : T D 4 IX7_round [.ref a0] m 0 0 (Qi rR mR) := by
  refine T_of_V (by decide) (Nat.le_of_ble_eq_true rfl) ?_
  show V D 4 IX7_round 0 [(0, .ref a0)] [] m 0 0 (Qi rR mR)
  unfold fX7_round at h
  refine V_aload_n (pc2 := 1) dX7_round_0 0 rfl rfl ?_
  obtain ⟨r1, e_r1, h⟩ := bS h
  refine V_gR (pc2 := 4) e_r1 dX7_round_1 wF_7_10 ?_
  obtain ⟨⟨x2, m3⟩, e_x2, h⟩ := bS h
  try dsimp only at h
  obtain ⟨⟨fs_x2, o_x2⟩, e_x2⟩ := cV_of e_x2
  refine V_cVi (pc2 := 7) [] (st := []) o_x2 (tX2_measureRound e_x2) dX7_round_4 wV_7_157 (by decide) rfl (Nat.le_of_ble_eq_true rfl) ?_
  obtain ⟨e1, e2⟩ := inj2 h
  subst e1
  subst e2
  exact V_iret dX7_round_7 rfl ⟨rfl, rfl⟩
noncomputable def fX2_inCount_b0 (a0 : Nat) (m : Mem) : Int32 × Int32 → Option ((Int32 × Int32) ⊕ Int32) := fun (y1, y2) =>
  (gI m a0 2 1).bind fun x3 =>
  if x3 ≤ y2 then
    some (.inr y1)
  else
    (gR m a0 2 0).bind fun r4 =>
    (ldR m r4 1 y2).bind fun r5 =>
    (gI m r5 0 2).bind fun x6 =>
    some (.inl (y1 + ((1 : Int32) - x6), y2 + (1 : Int32)))
noncomputable def fX2_inCount (a0 : Nat) (m : Mem) : Option (Int32) :=
  (loopF (fX2_inCount_b0 a0 m) bigN ((0 : Int32), (0 : Int32))).bind fun y7 =>
  some y7
set_option maxRecDepth 20000 in
theorem tX2_inCount {D : Dat} {a0 : Nat} {m : Mem} {rR : Int32} (h : fX2_inCount a0 m = some rR) : T D 0 IX2_inCount [.ref a0] m 0 0 (Qi rR m) := by
  refine T_of_V (by decide) (Nat.le_of_ble_eq_true rfl) ?_
  show V D 0 IX2_inCount 0 [(0, .ref a0)] [] m 0 0 (Qi rR m)
  unfold fX2_inCount at h
  refine V_iconst (v := 0) (pc2 := 1) dX2_inCount_0 (by decide) ?_
  refine V_istore_n (pc2 := 2) (L2 := [(1, .int (0 : Int32)), (0, .ref a0)]) dX2_inCount_1 ?_ rfl rfl rfl
  refine V_iconst (v := 0) (pc2 := 3) dX2_inCount_2 (by decide) ?_
  refine V_istore_n (pc2 := 4) (L2 := [(2, .int (0 : Int32)), (1, .int (0 : Int32)), (0, .ref a0)]) dX2_inCount_3 ?_ rfl rfl rfl
  obtain ⟨y7, hl, h⟩ := bS h
  have hJ32 : V D 0 IX2_inCount 32 [(1, .int y7)] [] m 0 0 (Qi rR m) := by
    refine V_iload_n (pc2 := 33) dX2_inCount_32 0 rfl rfl ?_
    have e1 := inj1 h
    subst e1
    exact V_iret dX2_inCount_33 rfl ⟨rfl, rfl⟩
  clear h
  have key4 : ∀ (n : Nat) (y1 : Int32) (y2 : Int32), loopF (fX2_inCount_b0 a0 m) n (y1, y2) = some y7 → V D 0 IX2_inCount 4 [(0, .ref a0), (1, .int y1), (2, .int y2)] [] m 0 0 (Qi rR m) := by
    intro n
    induction n with
    | zero => intro y1 y2 h; cases h
    | succ n ih =>
      intro y1 y2 h
      obtain ⟨o, h, ho⟩ := loopF_inv h
      dsimp only [fX2_inCount_b0] at h
      refine V_iload_n (pc2 := 5) dX2_inCount_4 2 rfl rfl ?_
      refine V_aload_n (pc2 := 6) dX2_inCount_5 0 rfl rfl ?_
      obtain ⟨x3, e_x3, h⟩ := bS h
      refine V_gI (pc2 := 9) e_x3 dX2_inCount_6 wF_2_48 ?_
      refine V_icmp_ge (pc2 := 12) (tgt := 32) dX2_inCount_9 (fun c9 => ?_) (fun c9 => ?_)
      · replace h := iT c9 h
        have ee := inj1 h
        subst ee
        have e1 := pinj1 (loopF_e ho)
        subst e1
        exact V_lv hJ32 [1] rfl
      · replace h := iF c9 h
        refine V_iload_n (pc2 := 13) dX2_inCount_12 1 rfl rfl ?_
        refine V_iconst (v := 1) (pc2 := 14) dX2_inCount_13 (by decide) ?_
        refine V_aload_n (pc2 := 15) dX2_inCount_14 0 rfl rfl ?_
        obtain ⟨r4, e_r4, h⟩ := bS h
        refine V_gR (pc2 := 18) e_r4 dX2_inCount_15 wF_2_11 ?_
        refine V_iload_n (pc2 := 19) dX2_inCount_18 2 rfl rfl ?_
        obtain ⟨r5, e_r5, h⟩ := bS h
        refine V_ldR (pc2 := 20) e_r5 dX2_inCount_19 rfl ?_
        obtain ⟨x6, e_x6, h⟩ := bS h
        refine V_gI (pc2 := 23) e_x6 dX2_inCount_20 wF_2_95 ?_
        refine V_isub (pc2 := 24) dX2_inCount_23 ?_
        refine V_iadd (pc2 := 25) dX2_inCount_24 ?_
        refine V_istore_n (pc2 := 26) (L2 := [(1, .int (y1 + ((1 : Int32) - x6))), (0, .ref a0), (2, .int y2)]) dX2_inCount_25 ?_ rfl rfl rfl
        refine V_iinc (pc2 := 29) (v := y2 + (1 : Int32)) (L2 := [(2, .int (y2 + (1 : Int32))), (1, .int (y1 + ((1 : Int32) - x6))), (0, .ref a0)]) dX2_inCount_26 2 rfl (by rfl) ?_ rfl rfl
        refine V_goto (tgt := 4) dX2_inCount_29 ?_
        have ee := inj1 h
        subst ee
        exact V_lv (ih _ _ (loopF_c ho)) [2, 1, 0] rfl
  exact V_lv (key4 _ _ _ hl) [2, 1, 0] rfl
noncomputable def fX2_give (a0 : Nat) (p0 : Int32) (m : Mem) : Option (Mem) :=
  (cV m a0 2 (fX2_isChild a0 p0 m)).bind fun b1 =>
  if b1 = true then
    (gR m a0 2 0).bind fun r2 =>
    (ldR m r2 1 p0).bind fun r3 =>
    (gI m r3 0 1).bind fun x4 =>
    (fJ9_min_7cf53 (99 : Int32) (x4 + (1 : Int32)) m).bind fun x5 =>
    (pI m r3 0 1 x5).bind fun m6 =>
    (pI m6 a0 2 12 p0).bind fun m7 =>
    (cV m7 a0 2 (fX2_sortNow a0 m7)).bind fun x8 =>
    (
      if x8 = (1 : Int32) then
        (gI m7 a0 2 15).bind fun x13 =>
        (pI m7 a0 2 15 (x13 + (1 : Int32))).bind fun m14 =>
        some m14
      else
        if x8 = (2 : Int32) then
          (gI m7 a0 2 16).bind fun x9 =>
          (pI m7 a0 2 16 (x9 + (1 : Int32))).bind fun m10 =>
          (gI m10 a0 2 11).bind fun x11 =>
          (pI m10 a0 2 11 ((1 : Int32) - x11)).bind fun m12 =>
          some m12
        else
          some m7).bind fun m15 =>
    (gI m15 a0 2 13).bind fun x16 =>
    if x16 = (1 : Int32) then
      (cV m15 a0 2 (fX2_inCount a0 m15)).bind fun x17 =>
      if x17 ≤ (2 : Int32) then
        some m15
      else
        (pI m15 r3 0 2 (1 : Int32)).bind fun m18 =>
        some m18
    else
      some m15
  else
    some m
set_option maxRecDepth 20000 in
theorem tX2_give {D : Dat} {a0 : Nat} {p0 : Int32} {m : Mem} {mR : Mem} (h : fX2_give a0 p0 m = some mR) : T D 2 IX2_give [.ref a0, .int p0] m 0 0 (Qv mR) := by
  refine T_of_V (by decide) (Nat.le_of_ble_eq_true rfl) ?_
  show V D 2 IX2_give 0 [(0, .ref a0), (1, .int p0)] [] m 0 0 (Qv mR)
  unfold fX2_give at h
  refine V_aload_n (pc2 := 1) dX2_give_0 0 rfl rfl ?_
  refine V_iload_n (pc2 := 2) dX2_give_1 1 rfl rfl ?_
  obtain ⟨b1, e_b1, h⟩ := bS h
  obtain ⟨⟨fs_b1, o_b1⟩, e_b1⟩ := cV_of e_b1
  refine V_cVi (pc2 := 5) [.int p0] (st := []) o_b1 (tX2_isChild e_b1) dX2_give_2 wV_2_91 (by decide) rfl (Nat.le_of_ble_eq_true rfl) ?_
  refine V_ifb_ne (pc2 := 8) (tgt := 9) dX2_give_5 (fun c5 => ?_) (fun c5 => ?_)
  · replace h := iT c5 h
    refine V_aload_n (pc2 := 10) dX2_give_9 0 rfl rfl ?_
    obtain ⟨r2, e_r2, h⟩ := bS h
    refine V_gR (pc2 := 13) e_r2 dX2_give_10 wF_2_11 ?_
    refine V_iload_n (pc2 := 14) dX2_give_13 1 rfl rfl ?_
    obtain ⟨r3, e_r3, h⟩ := bS h
    refine V_ldR (pc2 := 15) e_r3 dX2_give_14 rfl ?_
    refine V_astore_n (pc2 := 16) (L2 := [(2, .ref r3), (0, .ref a0), (1, .int p0)]) dX2_give_15 ?_ rfl rfl rfl
    refine V_aload_n (pc2 := 17) dX2_give_16 0 rfl rfl ?_
    refine V_bipush (v := 99) (pc2 := 19) dX2_give_17 (by decide) ?_
    refine V_aload_n (pc2 := 20) dX2_give_19 0 rfl rfl ?_
    obtain ⟨x4, e_x4, h⟩ := bS h
    refine V_gI (pc2 := 23) e_x4 dX2_give_20 wF_2_102 ?_
    refine V_iconst (v := 1) (pc2 := 24) dX2_give_23 (by decide) ?_
    refine V_iadd (pc2 := 25) dX2_give_24 ?_
    obtain ⟨x5, e_x5, h⟩ := bS h
    refine V_cSi (pc2 := 28) [.int (99 : Int32), .int (x4 + (1 : Int32))] (st := [.ref r3]) (tJ9_min_7cf53 e_x5) dX2_give_25 wS_2_105 (by decide) rfl (Nat.le_of_ble_eq_true rfl) ?_
    obtain ⟨m6, e_m6, h⟩ := bS h
    refine V_pI (pc2 := 31) e_m6 dX2_give_28 wP_2_102 rfl rfl ?_
    refine V_aload_n (pc2 := 32) dX2_give_31 1 rfl rfl ?_
    refine V_iload_n (pc2 := 33) dX2_give_32 2 rfl rfl ?_
    obtain ⟨m7, e_m7, h⟩ := bS h
    refine V_pI (pc2 := 36) e_m7 dX2_give_33 wP_2_76 rfl rfl ?_
    refine V_aload_n (pc2 := 37) dX2_give_36 1 rfl rfl ?_
    obtain ⟨x8, e_x8, h⟩ := bS h
    obtain ⟨⟨fs_x8, o_x8⟩, e_x8⟩ := cV_of e_x8
    refine V_cVi (pc2 := 40) [] (st := []) o_x8 (tX2_sortNow e_x8) dX2_give_37 wV_2_134 (by decide) rfl (Nat.le_of_ble_eq_true rfl) ?_
    refine V_istore_n (pc2 := 41) (L2 := [(3, .int x8), (2, .ref r3), (0, .ref a0), (1, .int p0)]) dX2_give_40 ?_ rfl rfl rfl
    refine V_iload_n (pc2 := 42) dX2_give_41 0 rfl rfl ?_
    refine V_iconst (v := 1) (pc2 := 43) dX2_give_42 (by decide) ?_
    obtain ⟨m15, hb, h⟩ := bS h
    have hJ84 : V D 2 IX2_give 84 [(0, .ref a0), (2, .ref r3)] [] m15 0 0 (Qv mR) := by
      refine V_aload_n (pc2 := 85) dX2_give_84 0 rfl rfl ?_
      obtain ⟨x16, e_x16, h⟩ := bS h
      refine V_gI (pc2 := 88) e_x16 dX2_give_85 wF_2_79 ?_
      refine V_iconst (v := 1) (pc2 := 89) dX2_give_88 (by decide) ?_
      refine V_icmp_ne (pc2 := 92) (tgt := 105) dX2_give_89 (fun c89 => ?_) (fun c89 => ?_)
      · replace h := iF c89 h
        have e1 := inj1 h
        subst e1
        exact V_vret dX2_give_105 rfl ⟨rfl, rfl⟩
      · replace h := iT c89 h
        refine V_aload_n (pc2 := 93) dX2_give_92 0 rfl rfl ?_
        obtain ⟨x17, e_x17, h⟩ := bS h
        obtain ⟨⟨fs_x17, o_x17⟩, e_x17⟩ := cV_of e_x17
        refine V_cVi (pc2 := 96) [] (st := []) o_x17 (tX2_inCount e_x17) dX2_give_93 wV_2_172 (by decide) rfl (Nat.le_of_ble_eq_true rfl) ?_
        refine V_iconst (v := 2) (pc2 := 97) dX2_give_96 (by decide) ?_
        refine V_icmp_le (pc2 := 100) (tgt := 105) dX2_give_97 (fun c97 => ?_) (fun c97 => ?_)
        · replace h := iT c97 h
          have e1 := inj1 h
          subst e1
          exact V_vret dX2_give_105 rfl ⟨rfl, rfl⟩
        · replace h := iF c97 h
          refine V_aload_n (pc2 := 101) dX2_give_100 1 rfl rfl ?_
          refine V_iconst (v := 1) (pc2 := 102) dX2_give_101 (by decide) ?_
          obtain ⟨m18, e_m18, h⟩ := bS h
          refine V_pI (pc2 := 105) e_m18 dX2_give_102 wP_2_95 rfl rfl ?_
          have e1 := inj1 h
          subst e1
          exact V_vret dX2_give_105 rfl ⟨rfl, rfl⟩
    clear h
    have h := hb
    clear hb
    refine V_icmp_ne (pc2 := 46) (tgt := 59) dX2_give_43 (fun c43 => ?_) (fun c43 => ?_)
    · replace h := iF c43 h
      refine V_iload_n (pc2 := 60) dX2_give_59 0 rfl rfl ?_
      refine V_iconst (v := 2) (pc2 := 61) dX2_give_60 (by decide) ?_
      refine V_icmp_ne (pc2 := 64) (tgt := 84) dX2_give_61 (fun c61 => ?_) (fun c61 => ?_)
      · replace h := iF c61 h
        have e1 := inj1 h
        subst e1
        exact V_lv hJ84 [2, 1] rfl
      · replace h := iT c61 h
        refine V_aload_n (pc2 := 65) dX2_give_64 2 rfl rfl ?_
        refine V_dup (pc2 := 66) dX2_give_65 rfl ?_
        obtain ⟨x9, e_x9, h⟩ := bS h
        refine V_gI (pc2 := 69) e_x9 dX2_give_66 wF_2_88 ?_
        refine V_iconst (v := 1) (pc2 := 70) dX2_give_69 (by decide) ?_
        refine V_iadd (pc2 := 71) dX2_give_70 ?_
        obtain ⟨m10, e_m10, h⟩ := bS h
        refine V_pI (pc2 := 74) e_m10 dX2_give_71 wP_2_88 rfl rfl ?_
        refine V_aload_n (pc2 := 75) dX2_give_74 2 rfl rfl ?_
        refine V_iconst (v := 1) (pc2 := 76) dX2_give_75 (by decide) ?_
        refine V_aload_n (pc2 := 77) dX2_give_76 2 rfl rfl ?_
        obtain ⟨x11, e_x11, h⟩ := bS h
        refine V_gI (pc2 := 80) e_x11 dX2_give_77 wF_2_39 ?_
        refine V_isub (pc2 := 81) dX2_give_80 ?_
        obtain ⟨m12, e_m12, h⟩ := bS h
        refine V_pI (pc2 := 84) e_m12 dX2_give_81 wP_2_39 rfl rfl ?_
        have e1 := inj1 h
        subst e1
        exact V_lv hJ84 [2, 1] rfl
    · replace h := iT c43 h
      refine V_aload_n (pc2 := 47) dX2_give_46 2 rfl rfl ?_
      refine V_dup (pc2 := 48) dX2_give_47 rfl ?_
      obtain ⟨x13, e_x13, h⟩ := bS h
      refine V_gI (pc2 := 51) e_x13 dX2_give_48 wF_2_85 ?_
      refine V_iconst (v := 1) (pc2 := 52) dX2_give_51 (by decide) ?_
      refine V_iadd (pc2 := 53) dX2_give_52 ?_
      obtain ⟨m14, e_m14, h⟩ := bS h
      refine V_pI (pc2 := 56) e_m14 dX2_give_53 wP_2_85 rfl rfl ?_
      refine V_goto (tgt := 84) dX2_give_56 ?_
      have e1 := inj1 h
      subst e1
      exact V_lv hJ84 [2, 1] rfl
  · replace h := iF c5 h
    have e1 := inj1 h
    subst e1
    exact V_vret dX2_give_8 rfl ⟨rfl, rfl⟩
noncomputable def fX2_fewestFrom_b0 (a0 : Nat) (m : Mem) : Int32 × Int32 × Int32 → Option ((Int32 × Int32 × Int32) ⊕ Int32) := fun (y1, y2, y3) =>
  (gI m a0 2 1).bind fun x4 =>
  if x4 ≤ y3 then
    some (.inr y1)
  else
    (cV m a0 2 (fX2_isChild a0 y1 m)).bind fun b5 =>
    if b5 = true then
      (cV m a0 2 (fX2_stepFrom a0 y2 m)).bind fun x6 =>
      (cV m a0 2 (fX2_isIn a0 x6 m)).bind fun b7 =>
      (
        if b7 = true then
          (gR m a0 2 0).bind fun r8 =>
          (ldR m r8 1 x6).bind fun r9 =>
          (gI m r9 0 1).bind fun x10 =>
          (gR m a0 2 0).bind fun r11 =>
          (ldR m r11 1 y1).bind fun r12 =>
          (gI m r12 0 1).bind fun x13 =>
          if x13 ≤ x10 then
            some y1
          else
            some x6
        else
          some y1).bind fun y14 =>
      some (.inl (y14, x6, y3 + (1 : Int32)))
    else
      some (.inr y1)
noncomputable def fX2_fewestFrom (a0 : Nat) (p0 : Int32) (m : Mem) : Option (Int32) :=
  (loopF (fX2_fewestFrom_b0 a0 m) bigN (p0, p0, (1 : Int32))).bind fun y15 =>
  some y15
set_option maxRecDepth 20000 in
theorem tX2_fewestFrom {D : Dat} {a0 : Nat} {p0 : Int32} {m : Mem} {rR : Int32} (h : fX2_fewestFrom a0 p0 m = some rR) : T D 2 IX2_fewestFrom [.ref a0, .int p0] m 0 0 (Qi rR m) := by
  refine T_of_V (by decide) (Nat.le_of_ble_eq_true rfl) ?_
  show V D 2 IX2_fewestFrom 0 [(0, .ref a0), (1, .int p0)] [] m 0 0 (Qi rR m)
  unfold fX2_fewestFrom at h
  refine V_iload_n (pc2 := 1) dX2_fewestFrom_0 1 rfl rfl ?_
  refine V_istore_n (pc2 := 2) (L2 := [(2, .int p0), (0, .ref a0), (1, .int p0)]) dX2_fewestFrom_1 ?_ rfl rfl rfl
  refine V_iload_n (pc2 := 3) dX2_fewestFrom_2 2 rfl rfl ?_
  refine V_istore_n (pc2 := 4) (L2 := [(3, .int p0), (2, .int p0), (0, .ref a0), (1, .int p0)]) dX2_fewestFrom_3 ?_ rfl rfl rfl
  refine V_iconst (v := 1) (pc2 := 5) dX2_fewestFrom_4 (by decide) ?_
  refine V_istore (pc2 := 7) (L2 := [(4, .int (1 : Int32)), (3, .int p0), (2, .int p0), (0, .ref a0), (1, .int p0)]) dX2_fewestFrom_5 ?_ rfl rfl
  obtain ⟨y15, hl, h⟩ := bS h
  have hJ67 : V D 2 IX2_fewestFrom 67 [(2, .int y15)] [] m 0 0 (Qi rR m) := by
    refine V_iload_n (pc2 := 68) dX2_fewestFrom_67 0 rfl rfl ?_
    have e1 := inj1 h
    subst e1
    exact V_iret dX2_fewestFrom_68 rfl ⟨rfl, rfl⟩
  clear h
  have key7 : ∀ (n : Nat) (y1 : Int32) (y2 : Int32) (y3 : Int32), loopF (fX2_fewestFrom_b0 a0 m) n (y1, y2, y3) = some y15 → V D 2 IX2_fewestFrom 7 [(0, .ref a0), (2, .int y1), (3, .int y2), (4, .int y3)] [] m 0 0 (Qi rR m) := by
    intro n
    induction n with
    | zero => intro y1 y2 y3 h; cases h
    | succ n ih =>
      intro y1 y2 y3 h
      obtain ⟨o, h, ho⟩ := loopF_inv h
      dsimp only [fX2_fewestFrom_b0] at h
      refine V_iload (pc2 := 9) dX2_fewestFrom_7 3 rfl ?_
      refine V_aload_n (pc2 := 10) dX2_fewestFrom_9 0 rfl rfl ?_
      obtain ⟨x4, e_x4, h⟩ := bS h
      refine V_gI (pc2 := 13) e_x4 dX2_fewestFrom_10 wF_2_48 ?_
      refine V_icmp_ge (pc2 := 16) (tgt := 67) dX2_fewestFrom_13 (fun c13 => ?_) (fun c13 => ?_)
      · replace h := iT c13 h
        have ee := inj1 h
        subst ee
        have e1 := pinj1 (loopF_e ho)
        subst e1
        exact V_lv hJ67 [1] rfl
      · replace h := iF c13 h
        refine V_aload_n (pc2 := 17) dX2_fewestFrom_16 0 rfl rfl ?_
        refine V_iload_n (pc2 := 18) dX2_fewestFrom_17 1 rfl rfl ?_
        obtain ⟨b5, e_b5, h⟩ := bS h
        obtain ⟨⟨fs_b5, o_b5⟩, e_b5⟩ := cV_of e_b5
        refine V_cVi (pc2 := 21) [.int y1] (st := []) o_b5 (tX2_isChild e_b5) dX2_fewestFrom_18 wV_2_91 (by decide) rfl (Nat.le_of_ble_eq_true rfl) ?_
        refine V_ifb_eq (pc2 := 24) (tgt := 67) dX2_fewestFrom_21 (fun c21 => ?_) (fun c21 => ?_)
        · replace h := iF c21 h
          have ee := inj1 h
          subst ee
          have e1 := pinj1 (loopF_e ho)
          subst e1
          exact V_lv hJ67 [1] rfl
        · replace h := iT c21 h
          refine V_aload_n (pc2 := 25) dX2_fewestFrom_24 0 rfl rfl ?_
          refine V_iload_n (pc2 := 26) dX2_fewestFrom_25 2 rfl rfl ?_
          obtain ⟨x6, e_x6, h⟩ := bS h
          obtain ⟨⟨fs_x6, o_x6⟩, e_x6⟩ := cV_of e_x6
          refine V_cVi (pc2 := 29) [.int y2] (st := []) o_x6 (tX2_stepFrom e_x6) dX2_fewestFrom_26 wV_2_151 (by decide) rfl (Nat.le_of_ble_eq_true rfl) ?_
          refine V_istore_n (pc2 := 30) (L2 := [(3, .int x6), (0, .ref a0), (2, .int y1), (4, .int y3)]) dX2_fewestFrom_29 ?_ rfl rfl rfl
          refine V_aload_n (pc2 := 31) dX2_fewestFrom_30 1 rfl rfl ?_
          refine V_iload_n (pc2 := 32) dX2_fewestFrom_31 0 rfl rfl ?_
          obtain ⟨b7, e_b7, h⟩ := bS h
          obtain ⟨⟨fs_b7, o_b7⟩, e_b7⟩ := cV_of e_b7
          refine V_cVi (pc2 := 35) [.int x6] (st := []) o_b7 (tX2_isIn e_b7) dX2_fewestFrom_32 wV_2_155 (by decide) rfl (Nat.le_of_ble_eq_true rfl) ?_
          obtain ⟨y14, hb, h⟩ := bS h
          have hJ61 : V D 2 IX2_fewestFrom 61 [(0, .ref a0), (2, .int y14), (3, .int x6), (4, .int y3)] [] m 0 0 (Qi rR m) := by
            refine V_iinc (pc2 := 64) (v := y3 + (1 : Int32)) (L2 := [(4, .int (y3 + (1 : Int32))), (0, .ref a0), (2, .int y14), (3, .int x6)]) dX2_fewestFrom_61 3 rfl (by rfl) ?_ rfl rfl
            refine V_goto (tgt := 7) dX2_fewestFrom_64 ?_
            have ee := inj1 h
            subst ee
            exact V_lv (ih _ _ _ (loopF_c ho)) [1, 2, 3, 0] rfl
          clear h
          have h := hb
          clear hb
          refine V_ifb_eq (pc2 := 38) (tgt := 61) dX2_fewestFrom_35 (fun c35 => ?_) (fun c35 => ?_)
          · replace h := iF c35 h
            have e1 := inj1 h
            subst e1
            exact V_lv hJ61 [1, 2, 0, 3] rfl
          · replace h := iT c35 h
            refine V_aload_n (pc2 := 39) dX2_fewestFrom_38 1 rfl rfl ?_
            obtain ⟨r8, e_r8, h⟩ := bS h
            refine V_gR (pc2 := 42) e_r8 dX2_fewestFrom_39 wF_2_11 ?_
            refine V_iload_n (pc2 := 43) dX2_fewestFrom_42 0 rfl rfl ?_
            obtain ⟨r9, e_r9, h⟩ := bS h
            refine V_ldR (pc2 := 44) e_r9 dX2_fewestFrom_43 rfl ?_
            obtain ⟨x10, e_x10, h⟩ := bS h
            refine V_gI (pc2 := 47) e_x10 dX2_fewestFrom_44 wF_2_102 ?_
            refine V_aload_n (pc2 := 48) dX2_fewestFrom_47 1 rfl rfl ?_
            obtain ⟨r11, e_r11, h⟩ := bS h
            refine V_gR (pc2 := 51) e_r11 dX2_fewestFrom_48 wF_2_11 ?_
            refine V_iload_n (pc2 := 52) dX2_fewestFrom_51 2 rfl rfl ?_
            obtain ⟨r12, e_r12, h⟩ := bS h
            refine V_ldR (pc2 := 53) e_r12 dX2_fewestFrom_52 rfl ?_
            obtain ⟨x13, e_x13, h⟩ := bS h
            refine V_gI (pc2 := 56) e_x13 dX2_fewestFrom_53 wF_2_102 ?_
            refine V_icmp_ge (pc2 := 59) (tgt := 61) dX2_fewestFrom_56 (fun c56 => ?_) (fun c56 => ?_)
            · replace h := iT c56 h
              have e1 := inj1 h
              subst e1
              exact V_lv hJ61 [1, 2, 0, 3] rfl
            · replace h := iF c56 h
              refine V_iload_n (pc2 := 60) dX2_fewestFrom_59 0 rfl rfl ?_
              refine V_istore_n (pc2 := 61) (L2 := [(2, .int x6), (3, .int x6), (0, .ref a0), (4, .int y3)]) dX2_fewestFrom_60 ?_ rfl rfl rfl
              have e1 := inj1 h
              subst e1
              exact V_lv hJ61 [2, 0, 1, 3] rfl
  exact V_lv (key7 _ _ _ _ hl) [3, 2, 1, 0] rfl
noncomputable def fX2_goesTo (a0 : Nat) (p0 : Nat) (p1 : Int32) (m : Mem) : Option (Int32) :=
  (gI m p0 5 0).bind fun x1 =>
  if x1 = (2 : Int32) then
    (cV m a0 2 (fX2_fewestFrom a0 p1 m)).bind fun x2 =>
    some x2
  else if x1 = (3 : Int32) then
    (cV m a0 2 (fX2_nextOf a0 p1 m)).bind fun x3 =>
    some x3
  else if x1 = (4 : Int32) then
    (gI m p0 5 2).bind fun x4 =>
    (cV m a0 2 (fX2_isIn a0 x4 m)).bind fun b5 =>
    if b5 = true then
      (gI m p0 5 2).bind fun x7 =>
      some x7
    else
      (cV m a0 2 (fX2_fewestFrom a0 p1 m)).bind fun x6 =>
      some x6
  else 
    some p1
set_option maxRecDepth 20000 in
theorem tX2_goesTo {D : Dat} {a0 : Nat} {p0 : Nat} {p1 : Int32} {m : Mem} {rR : Int32} (h : fX2_goesTo a0 p0 p1 m = some rR) : T D 3 IX2_goesTo [.ref a0, .ref p0, .int p1] m 0 0 (Qi rR m) := by
  refine T_of_V (by decide) (Nat.le_of_ble_eq_true rfl) ?_
  show V D 3 IX2_goesTo 0 [(0, .ref a0), (1, .ref p0), (2, .int p1)] [] m 0 0 (Qi rR m)
  unfold fX2_goesTo at h
  refine V_aload_n (pc2 := 1) dX2_goesTo_0 1 rfl rfl ?_
  obtain ⟨x1, e_x1, h⟩ := bS h
  refine V_gI (pc2 := 4) e_x1 dX2_goesTo_1 wF_2_114 ?_
  by_cases c4_0 : x1 = (2 : Int32)
  · replace h := iT c4_0 h
    refine V_table (off := 34) (tgt := 38) dX2_goesTo_4 (by rw [c4_0]; decide) ?_
    refine V_aload_n (pc2 := 39) dX2_goesTo_38 0 rfl rfl ?_
    refine V_iload_n (pc2 := 40) dX2_goesTo_39 2 rfl rfl ?_
    obtain ⟨x2, e_x2, h⟩ := bS h
    obtain ⟨⟨fs_x2, o_x2⟩, e_x2⟩ := cV_of e_x2
    refine V_cVi (pc2 := 43) [.int p1] (st := []) o_x2 (tX2_fewestFrom e_x2) dX2_goesTo_40 wV_2_165 (by decide) rfl (Nat.le_of_ble_eq_true rfl) ?_
    have e1 := inj1 h
    subst e1
    exact V_iret dX2_goesTo_43 rfl ⟨rfl, rfl⟩
  replace h := iF c4_0 h
  by_cases c4_1 : x1 = (3 : Int32)
  · replace h := iT c4_1 h
    refine V_table (off := 28) (tgt := 32) dX2_goesTo_4 (by rw [c4_1]; decide) ?_
    refine V_aload_n (pc2 := 33) dX2_goesTo_32 0 rfl rfl ?_
    refine V_iload_n (pc2 := 34) dX2_goesTo_33 2 rfl rfl ?_
    obtain ⟨x3, e_x3, h⟩ := bS h
    obtain ⟨⟨fs_x3, o_x3⟩, e_x3⟩ := cV_of e_x3
    refine V_cVi (pc2 := 37) [.int p1] (st := []) o_x3 (tX2_nextOf e_x3) dX2_goesTo_34 wV_2_162 (by decide) rfl (Nat.le_of_ble_eq_true rfl) ?_
    have e1 := inj1 h
    subst e1
    exact V_iret dX2_goesTo_37 rfl ⟨rfl, rfl⟩
  replace h := iF c4_1 h
  by_cases c4_2 : x1 = (4 : Int32)
  · replace h := iT c4_2 h
    refine V_table (off := 40) (tgt := 44) dX2_goesTo_4 (by rw [c4_2]; decide) ?_
    refine V_aload_n (pc2 := 45) dX2_goesTo_44 0 rfl rfl ?_
    refine V_aload_n (pc2 := 46) dX2_goesTo_45 1 rfl rfl ?_
    obtain ⟨x4, e_x4, h⟩ := bS h
    refine V_gI (pc2 := 49) e_x4 dX2_goesTo_46 wF_2_120 ?_
    obtain ⟨b5, e_b5, h⟩ := bS h
    obtain ⟨⟨fs_b5, o_b5⟩, e_b5⟩ := cV_of e_b5
    refine V_cVi (pc2 := 52) [.int x4] (st := []) o_b5 (tX2_isIn e_b5) dX2_goesTo_49 wV_2_155 (by decide) rfl (Nat.le_of_ble_eq_true rfl) ?_
    refine V_ifb_eq (pc2 := 55) (tgt := 62) dX2_goesTo_52 (fun c52 => ?_) (fun c52 => ?_)
    · replace h := iF c52 h
      refine V_aload_n (pc2 := 63) dX2_goesTo_62 0 rfl rfl ?_
      refine V_iload_n (pc2 := 64) dX2_goesTo_63 2 rfl rfl ?_
      obtain ⟨x6, e_x6, h⟩ := bS h
      obtain ⟨⟨fs_x6, o_x6⟩, e_x6⟩ := cV_of e_x6
      refine V_cVi (pc2 := 67) [.int p1] (st := []) o_x6 (tX2_fewestFrom e_x6) dX2_goesTo_64 wV_2_165 (by decide) rfl (Nat.le_of_ble_eq_true rfl) ?_
      have e1 := inj1 h
      subst e1
      exact V_iret dX2_goesTo_67 rfl ⟨rfl, rfl⟩
    · replace h := iT c52 h
      refine V_aload_n (pc2 := 56) dX2_goesTo_55 1 rfl rfl ?_
      obtain ⟨x7, e_x7, h⟩ := bS h
      refine V_gI (pc2 := 59) e_x7 dX2_goesTo_56 wF_2_120 ?_
      refine V_goto (tgt := 67) dX2_goesTo_59 ?_
      have e1 := inj1 h
      subst e1
      exact V_iret dX2_goesTo_67 rfl ⟨rfl, rfl⟩
  replace h := iF c4_2 h
  refine V_tableD (tgt := 68) dX2_goesTo_4 (by have g0 := lv_neT c4_0 (show (2 : Int32).toInt = 2 by decide); have g1 := lv_neT c4_1 (show (3 : Int32).toInt = 3 by decide); have g2 := lv_neT c4_2 (show (4 : Int32).toInt = 4 by decide); omega) ?_
  refine V_iload_n (pc2 := 69) dX2_goesTo_68 2 rfl rfl ?_
  have e1 := inj1 h
  subst e1
  exact V_iret dX2_goesTo_69 rfl ⟨rfl, rfl⟩
noncomputable def fJ9_floorMod_7cf53 (p0 : Int32) (p1 : Int32) (m : Mem) : Option (Int32) :=
  (rmI p0 p1).bind fun x1 =>
  if 0 ≤ (p0 ^^^ p1) then
    some x1
  else
    if x1 = 0 then
      some x1
    else
      some (x1 + p1)
set_option maxRecDepth 20000 in
theorem tJ9_floorMod_7cf53 {D : Dat} {p0 : Int32} {p1 : Int32} {m : Mem} {rR : Int32} (h : fJ9_floorMod_7cf53 p0 p1 m = some rR) : T D 0 IJ9_floorMod_7cf53 [.int p0, .int p1] m 0 0 (Qi rR m) := by
  refine T_of_VF (by decide +kernel) (Nat.le_of_ble_eq_true rfl) ?_
  show V D 0 IJ9_floorMod_7cf53 0 [(0, .int p0), (1, .int p1)] [] m 0 0 (Qi rR m)
  unfold fJ9_floorMod_7cf53 at h
  refine V_iload_n (pc2 := 1) dJ9_floorMod_7cf53_0 0 rfl rfl ?_
  refine V_iload_n (pc2 := 2) dJ9_floorMod_7cf53_1 1 rfl rfl ?_
  obtain ⟨x1, e_x1, h⟩ := bS h
  refine V_rmI (pc2 := 3) e_x1 dJ9_floorMod_7cf53_2 ?_
  refine V_istore_n (pc2 := 4) (L2 := [(2, .int x1), (0, .int p0), (1, .int p1)]) dJ9_floorMod_7cf53_3 ?_ rfl rfl rfl
  refine V_iload_n (pc2 := 5) dJ9_floorMod_7cf53_4 1 rfl rfl ?_
  refine V_iload_n (pc2 := 6) dJ9_floorMod_7cf53_5 2 rfl rfl ?_
  refine V_ixor (pc2 := 7) dJ9_floorMod_7cf53_6 ?_
  refine V_if_ge (pc2 := 10) (tgt := 18) dJ9_floorMod_7cf53_7 (fun c7 => ?_) (fun c7 => ?_)
  · replace h := iT c7 h
    refine V_iload_n (pc2 := 19) dJ9_floorMod_7cf53_18 0 rfl rfl ?_
    have e1 := inj1 h
    subst e1
    exact V_iret dJ9_floorMod_7cf53_19 rfl ⟨rfl, rfl⟩
  · replace h := iF c7 h
    refine V_iload_n (pc2 := 11) dJ9_floorMod_7cf53_10 0 rfl rfl ?_
    refine V_if_eq (pc2 := 14) (tgt := 18) dJ9_floorMod_7cf53_11 (fun c11 => ?_) (fun c11 => ?_)
    · replace h := iT c11 h
      refine V_iload_n (pc2 := 19) dJ9_floorMod_7cf53_18 0 rfl rfl ?_
      have e1 := inj1 h
      subst e1
      exact V_iret dJ9_floorMod_7cf53_19 rfl ⟨rfl, rfl⟩
    · replace h := iF c11 h
      refine V_iload_n (pc2 := 15) dJ9_floorMod_7cf53_14 0 rfl rfl ?_
      refine V_iload_n (pc2 := 16) dJ9_floorMod_7cf53_15 2 rfl rfl ?_
      refine V_iadd (pc2 := 17) dJ9_floorMod_7cf53_16 ?_
      have e1 := inj1 h
      subst e1
      exact V_iret dJ9_floorMod_7cf53_17 rfl ⟨rfl, rfl⟩
noncomputable def fX2_stopNow (a0 : Nat) (m : Mem) : Option ((Option Nat)) :=
  (gI m a0 2 5).bind fun x1 =>
  if x1 ≤ 0 then
    some none
  else
    (gR m a0 2 4).bind fun r2 =>
    (gI m a0 2 10).bind fun x3 =>
    (gI m a0 2 5).bind fun x4 =>
    (fJ9_floorMod_7cf53 x3 x4 m).bind fun x5 =>
    (ldR m r2 2 x5).bind fun r6 =>
    some (some r6)
set_option maxRecDepth 20000 in
theorem tX2_stopNow {D : Dat} {a0 : Nat} {m : Mem} {rR : Option Nat} (h : fX2_stopNow a0 m = some rR) : T D 1 IX2_stopNow [.ref a0] m 0 0 (Qq rR m) := by
  refine T_of_V (by decide) (Nat.le_of_ble_eq_true rfl) ?_
  show V D 1 IX2_stopNow 0 [(0, .ref a0)] [] m 0 0 (Qq rR m)
  unfold fX2_stopNow at h
  refine V_aload_n (pc2 := 1) dX2_stopNow_0 0 rfl rfl ?_
  obtain ⟨x1, e_x1, h⟩ := bS h
  refine V_gI (pc2 := 4) e_x1 dX2_stopNow_1 wF_2_64 ?_
  refine V_if_le (pc2 := 7) (tgt := 26) dX2_stopNow_4 (fun c4 => ?_) (fun c4 => ?_)
  · replace h := iT c4 h
    refine V_nullq (pc2 := 27) dX2_stopNow_26 ?_
    have e1 := inj1 h
    subst e1
    exact V_aret (x := none) dX2_stopNow_27 rfl (by first | exact Or.inl ⟨_, rfl⟩ | exact Or.inr ⟨_, rfl⟩) ⟨rfl, rfl⟩
  · replace h := iF c4 h
    refine V_aload_n (pc2 := 8) dX2_stopNow_7 0 rfl rfl ?_
    obtain ⟨r2, e_r2, h⟩ := bS h
    refine V_gR (pc2 := 11) e_r2 dX2_stopNow_8 wF_2_23 ?_
    refine V_aload_n (pc2 := 12) dX2_stopNow_11 0 rfl rfl ?_
    obtain ⟨x3, e_x3, h⟩ := bS h
    refine V_gI (pc2 := 15) e_x3 dX2_stopNow_12 wF_2_73 ?_
    refine V_aload_n (pc2 := 16) dX2_stopNow_15 0 rfl rfl ?_
    obtain ⟨x4, e_x4, h⟩ := bS h
    refine V_gI (pc2 := 19) e_x4 dX2_stopNow_16 wF_2_64 ?_
    obtain ⟨x5, e_x5, h⟩ := bS h
    refine V_cSi (pc2 := 22) [.int x3, .int x4] (st := [.ref r2]) (tJ9_floorMod_7cf53 e_x5) dX2_stopNow_19 wS_2_127 (by decide) rfl (Nat.le_of_ble_eq_true rfl) ?_
    obtain ⟨r6, e_r6, h⟩ := bS h
    refine V_ldR (pc2 := 23) e_r6 dX2_stopNow_22 rfl ?_
    refine V_goto (tgt := 27) dX2_stopNow_23 ?_
    have e1 := inj1 h
    subst e1
    exact V_aret (x := some r6) dX2_stopNow_27 rfl (by first | exact Or.inl ⟨_, rfl⟩ | exact Or.inr ⟨_, rfl⟩) ⟨rfl, rfl⟩
noncomputable def fX2_takeTurn (a0 : Nat) (m : Mem) : Option (Int32 × Mem) :=
  (cV m a0 2 (fX2_stopNow a0 m)).bind fun r1 =>
  (
    match r1 with
    | none =>
      some ((-1 : Int32), m)
    | some q2 =>
      (cV m a0 2 (fX2_inCount a0 m)).bind fun x3 =>
      if x3 ≤ 0 then
        some ((-1 : Int32), m)
      else
        (cV m q2 5 (fX5_isOf q2 (1 : Int32) m)).bind fun b4 =>
        (
          if b4 = true then
            (cV m a0 2 (fX2_draw a0 m)).bind fun (x5, m6) =>
            (rmI x5 (10 : Int32)).bind fun x7 =>
            some (x7, m6)
          else
            some ((0 : Int32), m)).bind fun (y8, m9) =>
        (cV m9 a0 2 (fX2_lastsBy a0 q2 y8 m9)).bind fun (x10, m11) =>
        (cV m11 a0 2 (fX2_measureRound a0 m11)).bind fun (x12, m13) =>
        (cV m13 a0 2 (fX2_landsBehind a0 x10 x12 m13)).bind fun x14 =>
        (cV m13 a0 2 (fX2_goesTo a0 q2 x14 m13)).bind fun x15 =>
        (gI m13 a0 2 14).bind fun x16 =>
        (pI m13 a0 2 14 (x16 + x10)).bind fun m17 =>
        (cV m17 a0 2 (fX2_give a0 x15 m17)).bind fun m18 =>
        some (x15, m18)).bind fun (y19, m20) =>
  (gI m20 a0 2 10).bind fun x21 =>
  (pI m20 a0 2 10 (x21 + (1 : Int32))).bind fun m22 =>
  some (y19, m22)
set_option maxRecDepth 20000 in
theorem tX2_takeTurn {D : Dat} {a0 : Nat} {m : Mem} {rR : Int32} {mR : Mem} (h : fX2_takeTurn a0 m = some (rR, mR)) : T D 4 IX2_takeTurn [.ref a0] m 0 0 (Qi rR mR) := by
  refine T_of_V (by decide) (Nat.le_of_ble_eq_true rfl) ?_
  show V D 4 IX2_takeTurn 0 [(0, .ref a0)] [] m 0 0 (Qi rR mR)
  unfold fX2_takeTurn at h
  refine V_iconst (v := -1) (pc2 := 1) dX2_takeTurn_0 (by decide) ?_
  refine V_istore_n (pc2 := 2) (L2 := [(1, .int (-1 : Int32)), (0, .ref a0)]) dX2_takeTurn_1 ?_ rfl rfl rfl
  refine V_aload_n (pc2 := 3) dX2_takeTurn_2 1 rfl rfl ?_
  obtain ⟨r1, e_r1, h⟩ := bS h
  obtain ⟨⟨fs_r1, o_r1⟩, e_r1⟩ := cV_of e_r1
  refine V_cVq (pc2 := 6) [] (st := []) o_r1 (tX2_stopNow e_r1) dX2_takeTurn_3 wV_2_168 (by decide) rfl (Nat.le_of_ble_eq_true rfl) ?_
  refine V_astoreq_n (pc2 := 7) (L2 := [(2, va_rf r1), (1, .int (-1 : Int32)), (0, .ref a0)]) dX2_takeTurn_6 ?_ rfl rfl rfl
  refine V_aloadq_n (pc2 := 8) dX2_takeTurn_7 0 rfl rfl ?_
  obtain ⟨⟨y19, m20⟩, hb, h⟩ := bS h
  try dsimp only at h
  have hJ78 : V D 4 IX2_takeTurn 78 [(0, .ref a0), (1, .int y19)] [] m20 0 0 (Qi rR mR) := by
    refine V_aload_n (pc2 := 79) dX2_takeTurn_78 0 rfl rfl ?_
    refine V_dup (pc2 := 80) dX2_takeTurn_79 rfl ?_
    obtain ⟨x21, e_x21, h⟩ := bS h
    refine V_gI (pc2 := 83) e_x21 dX2_takeTurn_80 wF_2_73 ?_
    refine V_iconst (v := 1) (pc2 := 84) dX2_takeTurn_83 (by decide) ?_
    refine V_iadd (pc2 := 85) dX2_takeTurn_84 ?_
    obtain ⟨m22, e_m22, h⟩ := bS h
    refine V_pI (pc2 := 88) e_m22 dX2_takeTurn_85 wP_2_73 rfl rfl ?_
    refine V_iload_n (pc2 := 89) dX2_takeTurn_88 1 rfl rfl ?_
    obtain ⟨e1, e2⟩ := inj2 h
    subst e1
    subst e2
    exact V_iret dX2_takeTurn_89 rfl ⟨rfl, rfl⟩
  clear h
  have h := hb
  clear hb
  refine V_ifnull (pc2 := 11) (tgt := 78) dX2_takeTurn_8 (fun c => ?_) (fun q2 c => ?_)
  · subst c
    try dsimp only at h
    obtain ⟨e1, e2⟩ := inj2 h
    subst e1
    subst e2
    exact V_lv hJ78 [2, 1] rfl
  · subst c
    try dsimp only at h
    refine V_aload_n (pc2 := 12) dX2_takeTurn_11 2 rfl rfl ?_
    obtain ⟨x3, e_x3, h⟩ := bS h
    obtain ⟨⟨fs_x3, o_x3⟩, e_x3⟩ := cV_of e_x3
    refine V_cVi (pc2 := 15) [] (st := []) o_x3 (tX2_inCount e_x3) dX2_takeTurn_12 wV_2_172 (by decide) rfl (Nat.le_of_ble_eq_true rfl) ?_
    refine V_if_le (pc2 := 18) (tgt := 78) dX2_takeTurn_15 (fun c15 => ?_) (fun c15 => ?_)
    · replace h := iT c15 h
      obtain ⟨e1, e2⟩ := inj2 h
      subst e1
      subst e2
      exact V_lv hJ78 [2, 1] rfl
    · replace h := iF c15 h
      refine V_aload_n (pc2 := 19) dX2_takeTurn_18 0 rfl rfl ?_
      refine V_iconst (v := 1) (pc2 := 20) dX2_takeTurn_19 (by decide) ?_
      obtain ⟨b4, e_b4, h⟩ := bS h
      obtain ⟨⟨fs_b4, o_b4⟩, e_b4⟩ := cV_of e_b4
      refine V_cVi (pc2 := 23) [.int (1 : Int32)] (st := []) o_b4 (tX5_isOf e_b4) dX2_takeTurn_20 wV_2_148 (by decide) rfl (Nat.le_of_ble_eq_true rfl) ?_
      obtain ⟨⟨y8, m9⟩, hb, h⟩ := bS h
      try dsimp only at h
      have hJ37 : V D 4 IX2_takeTurn 37 [(0, .ref a0), (2, .ref q2)] [.int y8] m9 0 0 (Qi rR mR) := by
        refine V_istore_n (pc2 := 38) (L2 := [(3, .int y8), (0, .ref a0), (2, .ref q2)]) dX2_takeTurn_37 ?_ rfl rfl rfl
        refine V_aload_n (pc2 := 39) dX2_takeTurn_38 1 rfl rfl ?_
        refine V_aload_n (pc2 := 40) dX2_takeTurn_39 2 rfl rfl ?_
        refine V_iload_n (pc2 := 41) dX2_takeTurn_40 0 rfl rfl ?_
        obtain ⟨⟨x10, m11⟩, e_x10, h⟩ := bS h
        try dsimp only at h
        obtain ⟨⟨fs_x10, o_x10⟩, e_x10⟩ := cV_of e_x10
        refine V_cVi (pc2 := 44) [.ref q2, .int y8] (st := []) o_x10 (tX2_lastsBy e_x10) dX2_takeTurn_41 wV_2_178 (by decide) rfl (Nat.le_of_ble_eq_true rfl) ?_
        refine V_istore (pc2 := 46) (L2 := [(4, .int x10), (3, .int y8), (0, .ref a0), (2, .ref q2)]) dX2_takeTurn_44 ?_ rfl rfl
        refine V_aload_n (pc2 := 47) dX2_takeTurn_46 2 rfl rfl ?_
        refine V_aload_n (pc2 := 48) dX2_takeTurn_47 3 rfl rfl ?_
        refine V_aload_n (pc2 := 49) dX2_takeTurn_48 2 rfl rfl ?_
        refine V_iload (pc2 := 51) dX2_takeTurn_49 0 rfl ?_
        refine V_aload_n (pc2 := 52) dX2_takeTurn_51 2 rfl rfl ?_
        obtain ⟨⟨x12, m13⟩, e_x12, h⟩ := bS h
        try dsimp only at h
        obtain ⟨⟨fs_x12, o_x12⟩, e_x12⟩ := cV_of e_x12
        refine V_cVi (pc2 := 55) [] (st := [.int x10, .ref a0, .ref q2, .ref a0]) o_x12 (tX2_measureRound e_x12) dX2_takeTurn_52 wV_2_182 (by decide) rfl (Nat.le_of_ble_eq_true rfl) ?_
        obtain ⟨x14, e_x14, h⟩ := bS h
        obtain ⟨⟨fs_x14, o_x14⟩, e_x14⟩ := cV_of e_x14
        refine V_cVi (pc2 := 58) [.int x10, .int x12] (st := [.ref q2, .ref a0]) o_x14 (tX2_landsBehind e_x14) dX2_takeTurn_55 wV_2_185 (by decide) rfl (Nat.le_of_ble_eq_true rfl) ?_
        obtain ⟨x15, e_x15, h⟩ := bS h
        obtain ⟨⟨fs_x15, o_x15⟩, e_x15⟩ := cV_of e_x15
        refine V_cVi (pc2 := 61) [.ref q2, .int x14] (st := []) o_x15 (tX2_goesTo e_x15) dX2_takeTurn_58 wV_2_188 (by decide) rfl (Nat.le_of_ble_eq_true rfl) ?_
        refine V_istore_n (pc2 := 62) (L2 := [(1, .int x15), (4, .int x10), (3, .int y8), (0, .ref a0), (2, .ref q2)]) dX2_takeTurn_61 ?_ rfl rfl rfl
        refine V_aload_n (pc2 := 63) dX2_takeTurn_62 3 rfl rfl ?_
        refine V_dup (pc2 := 64) dX2_takeTurn_63 rfl ?_
        obtain ⟨x16, e_x16, h⟩ := bS h
        refine V_gI (pc2 := 67) e_x16 dX2_takeTurn_64 wF_2_82 ?_
        refine V_iload (pc2 := 69) dX2_takeTurn_67 1 rfl ?_
        refine V_iadd (pc2 := 70) dX2_takeTurn_69 ?_
        obtain ⟨m17, e_m17, h⟩ := bS h
        refine V_pI (pc2 := 73) e_m17 dX2_takeTurn_70 wP_2_82 rfl rfl ?_
        refine V_aload_n (pc2 := 74) dX2_takeTurn_73 3 rfl rfl ?_
        refine V_iload_n (pc2 := 75) dX2_takeTurn_74 0 rfl rfl ?_
        obtain ⟨m18, e_m18, h⟩ := bS h
        obtain ⟨⟨fs_m18, o_m18⟩, e_m18⟩ := cV_of e_m18
        refine V_cVv (pc2 := 78) [.int x15] (st := []) o_m18 (tX2_give e_m18) dX2_takeTurn_75 wV_2_191 (by decide) rfl (Nat.le_of_ble_eq_true rfl) ?_
        obtain ⟨e1, e2⟩ := inj2 h
        subst e1
        subst e2
        exact V_lv hJ78 [3, 0] rfl
      clear h
      have h := hb
      clear hb
      refine V_ifb_eq (pc2 := 26) (tgt := 36) dX2_takeTurn_23 (fun c23 => ?_) (fun c23 => ?_)
      · replace h := iF c23 h
        refine V_iconst (v := 0) (pc2 := 37) dX2_takeTurn_36 (by decide) ?_
        obtain ⟨e1, e2⟩ := inj2 h
        subst e1
        subst e2
        exact V_lv hJ37 [2, 0] rfl
      · replace h := iT c23 h
        refine V_aload_n (pc2 := 27) dX2_takeTurn_26 2 rfl rfl ?_
        obtain ⟨⟨x5, m6⟩, e_x5, h⟩ := bS h
        try dsimp only at h
        obtain ⟨⟨fs_x5, o_x5⟩, e_x5⟩ := cV_of e_x5
        refine V_cVi (pc2 := 30) [] (st := []) o_x5 (tX2_draw e_x5) dX2_takeTurn_27 wV_2_175 (by decide) rfl (Nat.le_of_ble_eq_true rfl) ?_
        refine V_bipush (v := 10) (pc2 := 32) dX2_takeTurn_30 (by decide) ?_
        obtain ⟨x7, e_x7, h⟩ := bS h
        refine V_rmI (pc2 := 33) e_x7 dX2_takeTurn_32 ?_
        refine V_goto (tgt := 37) dX2_takeTurn_33 ?_
        obtain ⟨e1, e2⟩ := inj2 h
        subst e1
        subst e2
        exact V_lv hJ37 [2, 0] rfl
