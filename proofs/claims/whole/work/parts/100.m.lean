noncomputable def fX7_within (p0 : Int32) (p1 : Int32) (p2 : Int32) (m : Mem) : Option (Bool) :=
  if p0 < p1 then
    some false
  else
    if p2 < p0 then
      some false
    else
      some true
set_option maxRecDepth 20000 in
theorem tX7_within {D : Dat} {p0 : Int32} {p1 : Int32} {p2 : Int32} {m : Mem} {rR : Bool} (h : fX7_within p0 p1 p2 m = some rR) : T D 0 IX7_within [.int p0, .int p1, .int p2] m 0 0 (Qi (zb rR) m) := by
  refine T_of_V (by decide) (Nat.le_of_ble_eq_true rfl) ?_
  show V D 0 IX7_within 0 [(0, .int p0), (1, .int p1), (2, .int p2)] [] m 0 0 (Qi (zb rR) m)
  unfold fX7_within at h
  refine V_iload_n (pc2 := 1) dX7_within_0 0 rfl rfl ?_
  refine V_iload_n (pc2 := 2) dX7_within_1 1 rfl rfl ?_
  refine V_icmp_lt (pc2 := 5) (tgt := 14) dX7_within_2 (fun c2 => ?_) (fun c2 => ?_)
  · replace h := iT c2 h
    refine V_iconst (v := 0) (pc2 := 15) dX7_within_14 (by decide) ?_
    have e1 := inj1 h
    subst e1
    exact V_bret (b := false) dX7_within_15 rfl ⟨rfl, rfl⟩
  · replace h := iF c2 h
    refine V_iload_n (pc2 := 6) dX7_within_5 0 rfl rfl ?_
    refine V_iload_n (pc2 := 7) dX7_within_6 2 rfl rfl ?_
    refine V_icmp_gt (pc2 := 10) (tgt := 14) dX7_within_7 (fun c7 => ?_) (fun c7 => ?_)
    · replace h := iT c7 h
      refine V_iconst (v := 0) (pc2 := 15) dX7_within_14 (by decide) ?_
      have e1 := inj1 h
      subst e1
      exact V_bret (b := false) dX7_within_15 rfl ⟨rfl, rfl⟩
    · replace h := iF c7 h
      refine V_iconst (v := 1) (pc2 := 11) dX7_within_10 (by decide) ?_
      refine V_goto (tgt := 15) dX7_within_11 ?_
      have e1 := inj1 h
      subst e1
      exact V_bret (b := true) dX7_within_15 rfl ⟨rfl, rfl⟩
noncomputable def fX7_child (a0 : Nat) (p0 : Int32) (m : Mem) : Option (Int32 × Mem) :=
  (fX7_within p0 (1 : Int32) (9 : Int32) m).bind fun b1 =>
  if b1 = true then
    (gR m a0 7 0).bind fun r2 =>
    (gI m r2 2 1).bind fun x3 =>
    if x3 < (10 : Int32) then
      (gR m a0 7 0).bind fun r4 =>
      (gR m r4 2 0).bind fun r5 =>
      (gR m a0 7 0).bind fun r6 =>
      (gI m r6 2 1).bind fun x7 =>
      (ldR m r5 1 x7).bind fun r8 =>
      (pI m r8 0 0 p0).bind fun m9 =>
      (pI m9 r8 0 1 (0 : Int32)).bind fun m10 =>
      (pI m10 r8 0 2 (0 : Int32)).bind fun m11 =>
      (gR m11 a0 7 0).bind fun r12 =>
      (gI m11 r12 2 1).bind fun x13 =>
      (pI m11 r12 2 1 (x13 + (1 : Int32))).bind fun m14 =>
      (gR m14 a0 7 0).bind fun r15 =>
      (gI m14 r15 2 1).bind fun x16 =>
      some (x16 - (1 : Int32), m14)
    else
      some ((-1000000003 : Int32), m)
  else
    some ((-1000000001 : Int32), m)
set_option maxRecDepth 20000 in
theorem tX7_child {D : Dat} {a0 : Nat} {p0 : Int32} {m : Mem} {rR : Int32} {mR : Mem} (h : fX7_child a0 p0 m = some (rR, mR)) : T D 1 IX7_child [.ref a0, .int p0] m 0 0 (Qi rR mR) := by
  refine T_of_V (by decide) (Nat.le_of_ble_eq_true rfl) ?_
  show V D 1 IX7_child 0 [(0, .ref a0), (1, .int p0)] [] m 0 0 (Qi rR mR)
  unfold fX7_child at h
  refine V_iload_n (pc2 := 1) dX7_child_0 1 rfl rfl ?_
  refine V_iconst (v := 1) (pc2 := 2) dX7_child_1 (by decide) ?_
  refine V_bipush (v := 9) (pc2 := 4) dX7_child_2 (by decide) ?_
  obtain ⟨b1, e_b1, h⟩ := bS h
  refine V_cSi (pc2 := 7) [.int p0, .int (1 : Int32), .int (9 : Int32)] (st := []) (tX7_within e_b1) dX7_child_4 wS_7_47 (by decide) rfl (Nat.le_of_ble_eq_true rfl) ?_
  refine V_ifb_ne (pc2 := 10) (tgt := 13) dX7_child_7 (fun c7 => ?_) (fun c7 => ?_)
  · replace h := iT c7 h
    refine V_aload_n (pc2 := 14) dX7_child_13 0 rfl rfl ?_
    obtain ⟨r2, e_r2, h⟩ := bS h
    refine V_gR (pc2 := 17) e_r2 dX7_child_14 wF_7_10 ?_
    obtain ⟨x3, e_x3, h⟩ := bS h
    refine V_gI (pc2 := 20) e_x3 dX7_child_17 wF_7_52 ?_
    refine V_bipush (v := 10) (pc2 := 22) dX7_child_20 (by decide) ?_
    refine V_icmp_lt (pc2 := 25) (tgt := 28) dX7_child_22 (fun c22 => ?_) (fun c22 => ?_)
    · replace h := iT c22 h
      refine V_aload_n (pc2 := 29) dX7_child_28 0 rfl rfl ?_
      obtain ⟨r4, e_r4, h⟩ := bS h
      refine V_gR (pc2 := 32) e_r4 dX7_child_29 wF_7_10 ?_
      obtain ⟨r5, e_r5, h⟩ := bS h
      refine V_gR (pc2 := 35) e_r5 dX7_child_32 wF_7_57 ?_
      refine V_aload_n (pc2 := 36) dX7_child_35 0 rfl rfl ?_
      obtain ⟨r6, e_r6, h⟩ := bS h
      refine V_gR (pc2 := 39) e_r6 dX7_child_36 wF_7_10 ?_
      obtain ⟨x7, e_x7, h⟩ := bS h
      refine V_gI (pc2 := 42) e_x7 dX7_child_39 wF_7_52 ?_
      obtain ⟨r8, e_r8, h⟩ := bS h
      refine V_ldR (pc2 := 43) e_r8 dX7_child_42 rfl ?_
      refine V_astore_n (pc2 := 44) (L2 := [(2, .ref r8), (0, .ref a0), (1, .int p0)]) dX7_child_43 ?_ rfl rfl rfl
      refine V_aload_n (pc2 := 45) dX7_child_44 0 rfl rfl ?_
      refine V_iload_n (pc2 := 46) dX7_child_45 2 rfl rfl ?_
      obtain ⟨m9, e_m9, h⟩ := bS h
      refine V_pI (pc2 := 49) e_m9 dX7_child_46 wP_7_61 rfl rfl ?_
      refine V_aload_n (pc2 := 50) dX7_child_49 0 rfl rfl ?_
      refine V_iconst (v := 0) (pc2 := 51) dX7_child_50 (by decide) ?_
      obtain ⟨m10, e_m10, h⟩ := bS h
      refine V_pI (pc2 := 54) e_m10 dX7_child_51 wP_7_66 rfl rfl ?_
      refine V_aload_n (pc2 := 55) dX7_child_54 0 rfl rfl ?_
      refine V_iconst (v := 0) (pc2 := 56) dX7_child_55 (by decide) ?_
      obtain ⟨m11, e_m11, h⟩ := bS h
      refine V_pI (pc2 := 59) e_m11 dX7_child_56 wP_7_69 rfl rfl ?_
      refine V_aload_n (pc2 := 60) dX7_child_59 1 rfl rfl ?_
      obtain ⟨r12, e_r12, h⟩ := bS h
      refine V_gR (pc2 := 63) e_r12 dX7_child_60 wF_7_10 ?_
      refine V_dup (pc2 := 64) dX7_child_63 rfl ?_
      obtain ⟨x13, e_x13, h⟩ := bS h
      refine V_gI (pc2 := 67) e_x13 dX7_child_64 wF_7_52 ?_
      refine V_iconst (v := 1) (pc2 := 68) dX7_child_67 (by decide) ?_
      refine V_iadd (pc2 := 69) dX7_child_68 ?_
      obtain ⟨m14, e_m14, h⟩ := bS h
      refine V_pI (pc2 := 72) e_m14 dX7_child_69 wP_7_52 rfl rfl ?_
      refine V_aload_n (pc2 := 73) dX7_child_72 1 rfl rfl ?_
      obtain ⟨r15, e_r15, h⟩ := bS h
      refine V_gR (pc2 := 76) e_r15 dX7_child_73 wF_7_10 ?_
      obtain ⟨x16, e_x16, h⟩ := bS h
      refine V_gI (pc2 := 79) e_x16 dX7_child_76 wF_7_52 ?_
      refine V_iconst (v := 1) (pc2 := 80) dX7_child_79 (by decide) ?_
      refine V_isub (pc2 := 81) dX7_child_80 ?_
      obtain ⟨e1, e2⟩ := inj2 h
      subst e1
      subst e2
      exact V_iret dX7_child_81 rfl ⟨rfl, rfl⟩
    · replace h := iF c22 h
      refine V_ldc (v := -1000000003) (pc2 := 27) dX7_child_25 wconstant_7_56 ?_
      obtain ⟨e1, e2⟩ := inj2 h
      subst e1
      subst e2
      exact V_iret dX7_child_27 rfl ⟨rfl, rfl⟩
  · replace h := iF c7 h
    refine V_ldc (v := -1000000001) (pc2 := 12) dX7_child_10 wconstant_7_51 ?_
    obtain ⟨e1, e2⟩ := inj2 h
    subst e1
    subst e2
    exact V_iret dX7_child_12 rfl ⟨rfl, rfl⟩
noncomputable def fX2_lawOf (a0 : Nat) (p0 : Int32) (m : Mem) : Option ((Option Nat)) :=
  (gR m a0 2 8).bind fun r1 =>
  (ldI m r1 p0).bind fun x2 =>
  (gI m a0 2 7).bind fun x3 =>
  (fX7_within x2 (0 : Int32) (x3 - (1 : Int32)) m).bind fun b4 =>
  if b4 = true then
    (gR m a0 2 6).bind fun r5 =>
    (ldR m r5 3 x2).bind fun r6 =>
    some (some r6)
  else
    some none
set_option maxRecDepth 20000 in
theorem tX2_lawOf {D : Dat} {a0 : Nat} {p0 : Int32} {m : Mem} {rR : Option Nat} (h : fX2_lawOf a0 p0 m = some rR) : T D 1 IX2_lawOf [.ref a0, .int p0] m 0 0 (Qq rR m) := by
  refine T_of_V (by decide) (Nat.le_of_ble_eq_true rfl) ?_
  show V D 1 IX2_lawOf 0 [(0, .ref a0), (1, .int p0)] [] m 0 0 (Qq rR m)
  unfold fX2_lawOf at h
  refine V_aload_n (pc2 := 1) dX2_lawOf_0 0 rfl rfl ?_
  obtain ⟨r1, e_r1, h⟩ := bS h
  refine V_gR (pc2 := 4) e_r1 dX2_lawOf_1 wF_2_33 ?_
  refine V_iload_n (pc2 := 5) dX2_lawOf_4 1 rfl rfl ?_
  obtain ⟨x2, e_x2, h⟩ := bS h
  refine V_ldI (pc2 := 6) e_x2 dX2_lawOf_5 ?_
  refine V_istore_n (pc2 := 7) (L2 := [(2, .int x2), (0, .ref a0), (1, .int p0)]) dX2_lawOf_6 ?_ rfl rfl rfl
  refine V_iload_n (pc2 := 8) dX2_lawOf_7 0 rfl rfl ?_
  refine V_iconst (v := 0) (pc2 := 9) dX2_lawOf_8 (by decide) ?_
  refine V_aload_n (pc2 := 10) dX2_lawOf_9 1 rfl rfl ?_
  obtain ⟨x3, e_x3, h⟩ := bS h
  refine V_gI (pc2 := 13) e_x3 dX2_lawOf_10 wF_2_70 ?_
  refine V_iconst (v := 1) (pc2 := 14) dX2_lawOf_13 (by decide) ?_
  refine V_isub (pc2 := 15) dX2_lawOf_14 ?_
  obtain ⟨b4, e_b4, h⟩ := bS h
  refine V_cNi (pc2 := 18) [.int x2, .int (0 : Int32), .int (x3 - (1 : Int32))] (st := []) (tX7_within e_b4) dX2_lawOf_15 wN_2_98 (by decide) rfl (Nat.le_of_ble_eq_true rfl) ?_
  refine V_ifb_eq (pc2 := 21) (tgt := 30) dX2_lawOf_18 (fun c18 => ?_) (fun c18 => ?_)
  · replace h := iF c18 h
    refine V_nullq (pc2 := 31) dX2_lawOf_30 ?_
    have e1 := inj1 h
    subst e1
    exact V_aret (x := none) dX2_lawOf_31 rfl (by first | exact Or.inl ⟨_, rfl⟩ | exact Or.inr ⟨_, rfl⟩) ⟨rfl, rfl⟩
  · replace h := iT c18 h
    refine V_aload_n (pc2 := 22) dX2_lawOf_21 1 rfl rfl ?_
    obtain ⟨r5, e_r5, h⟩ := bS h
    refine V_gR (pc2 := 25) e_r5 dX2_lawOf_22 wF_2_29 ?_
    refine V_iload_n (pc2 := 26) dX2_lawOf_25 0 rfl rfl ?_
    obtain ⟨r6, e_r6, h⟩ := bS h
    refine V_ldR (pc2 := 27) e_r6 dX2_lawOf_26 rfl ?_
    refine V_goto (tgt := 31) dX2_lawOf_27 ?_
    have e1 := inj1 h
    subst e1
    exact V_aret (x := some r6) dX2_lawOf_31 rfl (by first | exact Or.inl ⟨_, rfl⟩ | exact Or.inr ⟨_, rfl⟩) ⟨rfl, rfl⟩
noncomputable def fX2_sortNow (a0 : Nat) (m : Mem) : Option (Int32) :=
  (gI m a0 2 10).bind fun x1 =>
  (gI m a0 2 3).bind fun x2 =>
  (fX7_within x1 (0 : Int32) (x2 - (1 : Int32)) m).bind fun b3 =>
  if b3 = true then
    (gR m a0 2 2).bind fun r4 =>
    (gI m a0 2 10).bind fun x5 =>
    (ldI m r4 x5).bind fun x6 =>
    some x6
  else
    some (0 : Int32)
set_option maxRecDepth 20000 in
theorem tX2_sortNow {D : Dat} {a0 : Nat} {m : Mem} {rR : Int32} (h : fX2_sortNow a0 m = some rR) : T D 1 IX2_sortNow [.ref a0] m 0 0 (Qi rR m) := by
  refine T_of_V (by decide) (Nat.le_of_ble_eq_true rfl) ?_
  show V D 1 IX2_sortNow 0 [(0, .ref a0)] [] m 0 0 (Qi rR m)
  unfold fX2_sortNow at h
  refine V_aload_n (pc2 := 1) dX2_sortNow_0 0 rfl rfl ?_
  obtain ⟨x1, e_x1, h⟩ := bS h
  refine V_gI (pc2 := 4) e_x1 dX2_sortNow_1 wF_2_73 ?_
  refine V_iconst (v := 0) (pc2 := 5) dX2_sortNow_4 (by decide) ?_
  refine V_aload_n (pc2 := 6) dX2_sortNow_5 0 rfl rfl ?_
  obtain ⟨x2, e_x2, h⟩ := bS h
  refine V_gI (pc2 := 9) e_x2 dX2_sortNow_6 wF_2_55 ?_
  refine V_iconst (v := 1) (pc2 := 10) dX2_sortNow_9 (by decide) ?_
  refine V_isub (pc2 := 11) dX2_sortNow_10 ?_
  obtain ⟨b3, e_b3, h⟩ := bS h
  refine V_cNi (pc2 := 14) [.int x1, .int (0 : Int32), .int (x2 - (1 : Int32))] (st := []) (tX7_within e_b3) dX2_sortNow_11 wN_2_98 (by decide) rfl (Nat.le_of_ble_eq_true rfl) ?_
  refine V_ifb_eq (pc2 := 17) (tgt := 29) dX2_sortNow_14 (fun c14 => ?_) (fun c14 => ?_)
  · replace h := iF c14 h
    refine V_iconst (v := 0) (pc2 := 30) dX2_sortNow_29 (by decide) ?_
    have e1 := inj1 h
    subst e1
    exact V_iret dX2_sortNow_30 rfl ⟨rfl, rfl⟩
  · replace h := iT c14 h
    refine V_aload_n (pc2 := 18) dX2_sortNow_17 0 rfl rfl ?_
    obtain ⟨r4, e_r4, h⟩ := bS h
    refine V_gR (pc2 := 21) e_r4 dX2_sortNow_18 wF_2_17 ?_
    refine V_aload_n (pc2 := 22) dX2_sortNow_21 0 rfl rfl ?_
    obtain ⟨x5, e_x5, h⟩ := bS h
    refine V_gI (pc2 := 25) e_x5 dX2_sortNow_22 wF_2_73 ?_
    obtain ⟨x6, e_x6, h⟩ := bS h
    refine V_ldI (pc2 := 26) e_x6 dX2_sortNow_25 ?_
    refine V_goto (tgt := 30) dX2_sortNow_26 ?_
    have e1 := inj1 h
    subst e1
    exact V_iret dX2_sortNow_30 rfl ⟨rfl, rfl⟩
noncomputable def fX6_joined (p0 : Int32) (p1 : Int32) (p2 : Int32) (m : Mem) : Option (Int32) :=
  if p0 = (38 : Int32) then
    if p1 = 0 then
      some (0 : Int32)
    else
      if p2 = 0 then
        some (0 : Int32)
      else
        some (1 : Int32)
  else if p0 = (42 : Int32) then
    some (p1 * p2)
  else if p0 = (43 : Int32) then
    some (p1 + p2)
  else if p0 = (45 : Int32) then
    some (p1 - p2)
  else if p0 = (60 : Int32) then
    if p2 ≤ p1 then
      some (0 : Int32)
    else
      some (1 : Int32)
  else if p0 = (61 : Int32) then
    if p1 = p2 then
      some (1 : Int32)
    else
      some (0 : Int32)
  else if p0 = (62 : Int32) then
    if p1 ≤ p2 then
      some (0 : Int32)
    else
      some (1 : Int32)
  else if p0 = (124 : Int32) then
    if p1 = 0 then
      if p2 = 0 then
        some (0 : Int32)
      else
        some (1 : Int32)
    else
      some (1 : Int32)
  else 
    if p2 = 0 then
      some (0 : Int32)
    else
      (dvI p1 p2).bind fun x1 =>
      some x1
set_option maxRecDepth 20000 in
theorem tX6_joined {D : Dat} {p0 : Int32} {p1 : Int32} {p2 : Int32} {m : Mem} {rR : Int32} (h : fX6_joined p0 p1 p2 m = some rR) : T D 0 IX6_joined [.int p0, .int p1, .int p2] m 0 0 (Qi rR m) := by
  refine T_of_V (by decide) (Nat.le_of_ble_eq_true rfl) ?_
  show V D 0 IX6_joined 0 [(0, .int p0), (1, .int p1), (2, .int p2)] [] m 0 0 (Qi rR m)
  unfold fX6_joined at h
  refine V_iload_n (pc2 := 1) dX6_joined_0 0 rfl rfl ?_
  by_cases c1_0 : p0 = (38 : Int32)
  · replace h := iT c1_0 h
    refine V_lookup (off := 89) (tgt := 90) dX6_joined_1 (by decide) (by rw [c1_0]; rfl) ?_
    refine V_iload_n (pc2 := 91) dX6_joined_90 1 rfl rfl ?_
    refine V_if_eq (pc2 := 94) (tgt := 102) dX6_joined_91 (fun c91 => ?_) (fun c91 => ?_)
    · replace h := iT c91 h
      refine V_iconst (v := 0) (pc2 := 103) dX6_joined_102 (by decide) ?_
      have e1 := inj1 h
      subst e1
      exact V_iret dX6_joined_103 rfl ⟨rfl, rfl⟩
    · replace h := iF c91 h
      refine V_iload_n (pc2 := 95) dX6_joined_94 2 rfl rfl ?_
      refine V_if_eq (pc2 := 98) (tgt := 102) dX6_joined_95 (fun c95 => ?_) (fun c95 => ?_)
      · replace h := iT c95 h
        refine V_iconst (v := 0) (pc2 := 103) dX6_joined_102 (by decide) ?_
        have e1 := inj1 h
        subst e1
        exact V_iret dX6_joined_103 rfl ⟨rfl, rfl⟩
      · replace h := iF c95 h
        refine V_iconst (v := 1) (pc2 := 99) dX6_joined_98 (by decide) ?_
        refine V_goto (tgt := 103) dX6_joined_99 ?_
        have e1 := inj1 h
        subst e1
        exact V_iret dX6_joined_103 rfl ⟨rfl, rfl⟩
  replace h := iF c1_0 h
  by_cases c1_1 : p0 = (42 : Int32)
  · replace h := iT c1_1 h
    refine V_lookup (off := 144) (tgt := 145) dX6_joined_1 (by decide) (by rw [c1_1]; rfl) ?_
    refine V_iload_n (pc2 := 146) dX6_joined_145 1 rfl rfl ?_
    refine V_iload_n (pc2 := 147) dX6_joined_146 2 rfl rfl ?_
    refine V_imul (pc2 := 148) dX6_joined_147 ?_
    have e1 := inj1 h
    subst e1
    exact V_iret dX6_joined_148 rfl ⟨rfl, rfl⟩
  replace h := iF c1_1 h
  by_cases c1_2 : p0 = (43 : Int32)
  · replace h := iT c1_2 h
    refine V_lookup (off := 136) (tgt := 137) dX6_joined_1 (by decide) (by rw [c1_2]; rfl) ?_
    refine V_iload_n (pc2 := 138) dX6_joined_137 1 rfl rfl ?_
    refine V_iload_n (pc2 := 139) dX6_joined_138 2 rfl rfl ?_
    refine V_iadd (pc2 := 140) dX6_joined_139 ?_
    have e1 := inj1 h
    subst e1
    exact V_iret dX6_joined_140 rfl ⟨rfl, rfl⟩
  replace h := iF c1_2 h
  by_cases c1_3 : p0 = (45 : Int32)
  · replace h := iT c1_3 h
    refine V_lookup (off := 140) (tgt := 141) dX6_joined_1 (by decide) (by rw [c1_3]; rfl) ?_
    refine V_iload_n (pc2 := 142) dX6_joined_141 1 rfl rfl ?_
    refine V_iload_n (pc2 := 143) dX6_joined_142 2 rfl rfl ?_
    refine V_isub (pc2 := 144) dX6_joined_143 ?_
    have e1 := inj1 h
    subst e1
    exact V_iret dX6_joined_144 rfl ⟨rfl, rfl⟩
  replace h := iF c1_3 h
  by_cases c1_4 : p0 = (60 : Int32)
  · replace h := iT c1_4 h
    refine V_lookup (off := 103) (tgt := 104) dX6_joined_1 (by decide) (by rw [c1_4]; rfl) ?_
    refine V_iload_n (pc2 := 105) dX6_joined_104 1 rfl rfl ?_
    refine V_iload_n (pc2 := 106) dX6_joined_105 2 rfl rfl ?_
    refine V_icmp_ge (pc2 := 109) (tgt := 113) dX6_joined_106 (fun c106 => ?_) (fun c106 => ?_)
    · replace h := iT c106 h
      refine V_iconst (v := 0) (pc2 := 114) dX6_joined_113 (by decide) ?_
      have e1 := inj1 h
      subst e1
      exact V_iret dX6_joined_114 rfl ⟨rfl, rfl⟩
    · replace h := iF c106 h
      refine V_iconst (v := 1) (pc2 := 110) dX6_joined_109 (by decide) ?_
      refine V_goto (tgt := 114) dX6_joined_110 ?_
      have e1 := inj1 h
      subst e1
      exact V_iret dX6_joined_114 rfl ⟨rfl, rfl⟩
  replace h := iF c1_4 h
  by_cases c1_5 : p0 = (61 : Int32)
  · replace h := iT c1_5 h
    refine V_lookup (off := 114) (tgt := 115) dX6_joined_1 (by decide) (by rw [c1_5]; rfl) ?_
    refine V_iload_n (pc2 := 116) dX6_joined_115 1 rfl rfl ?_
    refine V_iload_n (pc2 := 117) dX6_joined_116 2 rfl rfl ?_
    refine V_icmp_ne (pc2 := 120) (tgt := 124) dX6_joined_117 (fun c117 => ?_) (fun c117 => ?_)
    · replace h := iF c117 h
      refine V_iconst (v := 0) (pc2 := 125) dX6_joined_124 (by decide) ?_
      have e1 := inj1 h
      subst e1
      exact V_iret dX6_joined_125 rfl ⟨rfl, rfl⟩
    · replace h := iT c117 h
      refine V_iconst (v := 1) (pc2 := 121) dX6_joined_120 (by decide) ?_
      refine V_goto (tgt := 125) dX6_joined_121 ?_
      have e1 := inj1 h
      subst e1
      exact V_iret dX6_joined_125 rfl ⟨rfl, rfl⟩
  replace h := iF c1_5 h
  by_cases c1_6 : p0 = (62 : Int32)
  · replace h := iT c1_6 h
    refine V_lookup (off := 125) (tgt := 126) dX6_joined_1 (by decide) (by rw [c1_6]; rfl) ?_
    refine V_iload_n (pc2 := 127) dX6_joined_126 1 rfl rfl ?_
    refine V_iload_n (pc2 := 128) dX6_joined_127 2 rfl rfl ?_
    refine V_icmp_le (pc2 := 131) (tgt := 135) dX6_joined_128 (fun c128 => ?_) (fun c128 => ?_)
    · replace h := iT c128 h
      refine V_iconst (v := 0) (pc2 := 136) dX6_joined_135 (by decide) ?_
      have e1 := inj1 h
      subst e1
      exact V_iret dX6_joined_136 rfl ⟨rfl, rfl⟩
    · replace h := iF c128 h
      refine V_iconst (v := 1) (pc2 := 132) dX6_joined_131 (by decide) ?_
      refine V_goto (tgt := 136) dX6_joined_132 ?_
      have e1 := inj1 h
      subst e1
      exact V_iret dX6_joined_136 rfl ⟨rfl, rfl⟩
  replace h := iF c1_6 h
  by_cases c1_7 : p0 = (124 : Int32)
  · replace h := iT c1_7 h
    refine V_lookup (off := 75) (tgt := 76) dX6_joined_1 (by decide) (by rw [c1_7]; rfl) ?_
    refine V_iload_n (pc2 := 77) dX6_joined_76 1 rfl rfl ?_
    refine V_if_ne (pc2 := 80) (tgt := 84) dX6_joined_77 (fun c77 => ?_) (fun c77 => ?_)
    · replace h := iF c77 h
      refine V_iconst (v := 1) (pc2 := 85) dX6_joined_84 (by decide) ?_
      refine V_goto (tgt := 89) dX6_joined_85 ?_
      have e1 := inj1 h
      subst e1
      exact V_iret dX6_joined_89 rfl ⟨rfl, rfl⟩
    · replace h := iT c77 h
      refine V_iload_n (pc2 := 81) dX6_joined_80 2 rfl rfl ?_
      refine V_if_eq (pc2 := 84) (tgt := 88) dX6_joined_81 (fun c81 => ?_) (fun c81 => ?_)
      · replace h := iT c81 h
        refine V_iconst (v := 0) (pc2 := 89) dX6_joined_88 (by decide) ?_
        have e1 := inj1 h
        subst e1
        exact V_iret dX6_joined_89 rfl ⟨rfl, rfl⟩
      · replace h := iF c81 h
        refine V_iconst (v := 1) (pc2 := 85) dX6_joined_84 (by decide) ?_
        refine V_goto (tgt := 89) dX6_joined_85 ?_
        have e1 := inj1 h
        subst e1
        exact V_iret dX6_joined_89 rfl ⟨rfl, rfl⟩
  replace h := iF c1_7 h
  refine V_lookup (off := 148) (tgt := 149) dX6_joined_1 (by decide) ((lv_osw c1_0 (by decide)).trans ((lv_osw c1_1 (by decide)).trans ((lv_osw c1_2 (by decide)).trans ((lv_osw c1_3 (by decide)).trans ((lv_osw c1_4 (by decide)).trans ((lv_osw c1_5 (by decide)).trans ((lv_osw c1_6 (by decide)).trans ((lv_osw c1_7 (by decide)).trans (rfl))))))))) ?_
  refine V_iload_n (pc2 := 150) dX6_joined_149 2 rfl rfl ?_
  refine V_if_ne (pc2 := 153) (tgt := 157) dX6_joined_150 (fun c150 => ?_) (fun c150 => ?_)
  · replace h := iF c150 h
    refine V_iload_n (pc2 := 158) dX6_joined_157 1 rfl rfl ?_
    refine V_iload_n (pc2 := 159) dX6_joined_158 2 rfl rfl ?_
    obtain ⟨x1, e_x1, h⟩ := bS h
    refine V_dvI (pc2 := 160) e_x1 dX6_joined_159 ?_
    have e1 := inj1 h
    subst e1
    exact V_iret dX6_joined_160 rfl ⟨rfl, rfl⟩
  · replace h := iT c150 h
    refine V_iconst (v := 0) (pc2 := 154) dX6_joined_153 (by decide) ?_
    refine V_goto (tgt := 160) dX6_joined_154 ?_
    have e1 := inj1 h
    subst e1
    exact V_iret dX6_joined_160 rfl ⟨rfl, rfl⟩
noncomputable def fX6_value_b0 (a0 : Nat) (p0 : Int32) (p1 : Int32) (p2 : Int32) : Int32 × Int32 × Mem → Option ((Int32 × Int32 × Mem) ⊕ (Int32 × Mem)) := fun (y1, y2, m3) =>
  (gR m3 a0 6 2).bind fun r4 =>
  (alI m3 r4).bind fun x5 =>
  if x5 ≤ y2 then
    some (.inr (y1, m3))
  else
    (gR m3 a0 6 2).bind fun r6 =>
    (ldI m3 r6 y2).bind fun x7 =>
    (
      if x7 < 0 then
        if x7 = (-33 : Int32) then
          if y1 < 0 then
            if y1 < (1 : Int32) then
              some (y1, m3)
            else
              (gR m3 a0 6 3).bind fun r15 =>
              (gR m3 a0 6 3).bind fun r16 =>
              (ldI m3 r16 (y1 + (-1 : Int32))).bind fun x17 =>
              (gR m3 a0 6 3).bind fun r18 =>
              (ldI m3 r18 ((y1 + (-1 : Int32)) + (1 : Int32))).bind fun x19 =>
              (fX6_joined (-x7) x17 x19 m3).bind fun x20 =>
              (stI m3 r15 (y1 + (-1 : Int32)) x20).bind fun m21 =>
              some (y1 + (-1 : Int32), m21)
          else
            (gR m3 a0 6 3).bind fun r22 =>
            (gR m3 a0 6 3).bind fun r23 =>
            (ldI m3 r23 y1).bind fun x24 =>
            (
              if x24 = 0 then
                some (1 : Int32)
              else
                some (0 : Int32)).bind fun y25 =>
            (stI m3 r22 y1 y25).bind fun m26 =>
            some (y1, m26)
        else
          if y1 < (1 : Int32) then
            some (y1, m3)
          else
            (gR m3 a0 6 3).bind fun r8 =>
            (gR m3 a0 6 3).bind fun r9 =>
            (ldI m3 r9 (y1 + (-1 : Int32))).bind fun x10 =>
            (gR m3 a0 6 3).bind fun r11 =>
            (ldI m3 r11 ((y1 + (-1 : Int32)) + (1 : Int32))).bind fun x12 =>
            (fX6_joined (-x7) x10 x12 m3).bind fun x13 =>
            (stI m3 r8 (y1 + (-1 : Int32)) x13).bind fun m14 =>
            some (y1 + (-1 : Int32), m14)
      else
        (gR m3 a0 6 3).bind fun r27 =>
        (alI m3 r27).bind fun x28 =>
        if x28 ≤ (y1 + (1 : Int32)) then
          if x7 = (-33 : Int32) then
            if y1 < 0 then
              if y1 < (1 : Int32) then
                some (y1, m3)
              else
                (gR m3 a0 6 3).bind fun r36 =>
                (gR m3 a0 6 3).bind fun r37 =>
                (ldI m3 r37 (y1 + (-1 : Int32))).bind fun x38 =>
                (gR m3 a0 6 3).bind fun r39 =>
                (ldI m3 r39 ((y1 + (-1 : Int32)) + (1 : Int32))).bind fun x40 =>
                (fX6_joined (-x7) x38 x40 m3).bind fun x41 =>
                (stI m3 r36 (y1 + (-1 : Int32)) x41).bind fun m42 =>
                some (y1 + (-1 : Int32), m42)
            else
              (gR m3 a0 6 3).bind fun r43 =>
              (gR m3 a0 6 3).bind fun r44 =>
              (ldI m3 r44 y1).bind fun x45 =>
              (
                if x45 = 0 then
                  some (1 : Int32)
                else
                  some (0 : Int32)).bind fun y46 =>
              (stI m3 r43 y1 y46).bind fun m47 =>
              some (y1, m47)
          else
            if y1 < (1 : Int32) then
              some (y1, m3)
            else
              (gR m3 a0 6 3).bind fun r29 =>
              (gR m3 a0 6 3).bind fun r30 =>
              (ldI m3 r30 (y1 + (-1 : Int32))).bind fun x31 =>
              (gR m3 a0 6 3).bind fun r32 =>
              (ldI m3 r32 ((y1 + (-1 : Int32)) + (1 : Int32))).bind fun x33 =>
              (fX6_joined (-x7) x31 x33 m3).bind fun x34 =>
              (stI m3 r29 (y1 + (-1 : Int32)) x34).bind fun m35 =>
              some (y1 + (-1 : Int32), m35)
        else
          (gR m3 a0 6 3).bind fun r48 =>
          (
            if (10000 : Int32) ≤ x7 then
              if x7 = (10000 : Int32) then
                some p0
              else
                if x7 = (10001 : Int32) then
                  some p1
                else
                  some p2
            else
              some x7).bind fun y49 =>
          (stI m3 r48 (y1 + (1 : Int32)) y49).bind fun m50 =>
          some (y1 + (1 : Int32), m50)).bind fun (y51, m52) =>
    some (.inl (y51, y2 + (1 : Int32), m52))
noncomputable def fX6_value (a0 : Nat) (p0 : Int32) (p1 : Int32) (p2 : Int32) (m : Mem) : Option (Int32 × Mem) :=
  (loopF (fX6_value_b0 a0 p0 p1 p2) bigN ((-1 : Int32), (0 : Int32), m)).bind fun (y53, m54) =>
  if y53 < 0 then
    some ((0 : Int32), m54)
  else
    (gR m54 a0 6 3).bind fun r55 =>
    (ldI m54 r55 y53).bind fun x56 =>
    some (x56, m54)
set_option maxRecDepth 20000 in
theorem tX6_value {D : Dat} {a0 : Nat} {p0 : Int32} {p1 : Int32} {p2 : Int32} {m : Mem} {rR : Int32} {mR : Mem} (h : fX6_value a0 p0 p1 p2 m = some (rR, mR)) : T D 1 IX6_value [.ref a0, .int p0, .int p1, .int p2] m 0 0 (Qi rR mR) := by
  refine T_of_V (by decide) (Nat.le_of_ble_eq_true rfl) ?_
  show V D 1 IX6_value 0 [(0, .ref a0), (1, .int p0), (2, .int p1), (3, .int p2)] [] m 0 0 (Qi rR mR)
  unfold fX6_value at h
  refine V_iconst (v := -1) (pc2 := 1) dX6_value_0 (by decide) ?_
  refine V_istore (pc2 := 3) (L2 := [(4, .int (-1 : Int32)), (0, .ref a0), (1, .int p0), (2, .int p1), (3, .int p2)]) dX6_value_1 ?_ rfl rfl
  refine V_iconst (v := 0) (pc2 := 4) dX6_value_3 (by decide) ?_
  refine V_istore (pc2 := 6) (L2 := [(5, .int (0 : Int32)), (4, .int (-1 : Int32)), (0, .ref a0), (1, .int p0), (2, .int p1), (3, .int p2)]) dX6_value_4 ?_ rfl rfl
  obtain ⟨⟨y53, m54⟩, hl, h⟩ := bS h
  try dsimp only at h
  have hJ174 : V D 1 IX6_value 174 [(0, .ref a0), (4, .int y53)] [] m54 0 0 (Qi rR mR) := by
    refine V_iload (pc2 := 176) dX6_value_174 1 rfl ?_
    refine V_if_lt (pc2 := 179) (tgt := 189) dX6_value_176 (fun c176 => ?_) (fun c176 => ?_)
    · replace h := iT c176 h
      refine V_iconst (v := 0) (pc2 := 190) dX6_value_189 (by decide) ?_
      obtain ⟨e1, e2⟩ := inj2 h
      subst e1
      subst e2
      exact V_iret dX6_value_190 rfl ⟨rfl, rfl⟩
    · replace h := iF c176 h
      refine V_aload_n (pc2 := 180) dX6_value_179 0 rfl rfl ?_
      obtain ⟨r55, e_r55, h⟩ := bS h
      refine V_gR (pc2 := 183) e_r55 dX6_value_180 wF_6_20 ?_
      refine V_iload (pc2 := 185) dX6_value_183 1 rfl ?_
      obtain ⟨x56, e_x56, h⟩ := bS h
      refine V_ldI (pc2 := 186) e_x56 dX6_value_185 ?_
      refine V_goto (tgt := 190) dX6_value_186 ?_
      obtain ⟨e1, e2⟩ := inj2 h
      subst e1
      subst e2
      exact V_iret dX6_value_190 rfl ⟨rfl, rfl⟩
  clear h
  have key6 : ∀ (n : Nat) (y1 : Int32) (y2 : Int32) (m3 : Mem), loopF (fX6_value_b0 a0 p0 p1 p2) n (y1, y2, m3) = some (y53, m54) → V D 1 IX6_value 6 [(0, .ref a0), (1, .int p0), (2, .int p1), (3, .int p2), (4, .int y1), (5, .int y2)] [] m3 0 0 (Qi rR mR) := by
    intro n
    induction n with
    | zero => intro y1 y2 m3 h; cases h
    | succ n ih =>
      intro y1 y2 m3 h
      obtain ⟨o, h, ho⟩ := loopF_inv h
      dsimp only [fX6_value_b0] at h
      refine V_iload (pc2 := 8) dX6_value_6 5 rfl ?_
      refine V_aload_n (pc2 := 9) dX6_value_8 0 rfl rfl ?_
      obtain ⟨r4, e_r4, h⟩ := bS h
      refine V_gR (pc2 := 12) e_r4 dX6_value_9 wF_6_16 ?_
      obtain ⟨x5, e_x5, h⟩ := bS h
      refine V_alI (pc2 := 13) e_x5 dX6_value_12 ?_
      refine V_icmp_ge (pc2 := 16) (tgt := 174) dX6_value_13 (fun c13 => ?_) (fun c13 => ?_)
      · replace h := iT c13 h
        have ee := inj1 h
        subst ee
        obtain ⟨e1, e2⟩ := pinj2 (loopF_e ho)
        subst e1
        subst e2
        exact V_lv hJ174 [0, 4] rfl
      · replace h := iF c13 h
        refine V_aload_n (pc2 := 17) dX6_value_16 0 rfl rfl ?_
        obtain ⟨r6, e_r6, h⟩ := bS h
        refine V_gR (pc2 := 20) e_r6 dX6_value_17 wF_6_16 ?_
        refine V_iload (pc2 := 22) dX6_value_20 5 rfl ?_
        obtain ⟨x7, e_x7, h⟩ := bS h
        refine V_ldI (pc2 := 23) e_x7 dX6_value_22 ?_
        refine V_istore (pc2 := 25) (L2 := [(6, .int x7), (0, .ref a0), (1, .int p0), (2, .int p1), (3, .int p2), (4, .int y1), (5, .int y2)]) dX6_value_23 ?_ rfl rfl
        refine V_iload (pc2 := 27) dX6_value_25 0 rfl ?_
        obtain ⟨⟨y51, m52⟩, hb, h⟩ := bS h
        try dsimp only at h
        have hJ168 : V D 1 IX6_value 168 [(0, .ref a0), (1, .int p0), (2, .int p1), (3, .int p2), (4, .int y51), (5, .int y2)] [] m52 0 0 (Qi rR mR) := by
          refine V_iinc (pc2 := 171) (v := y2 + (1 : Int32)) (L2 := [(5, .int (y2 + (1 : Int32))), (0, .ref a0), (1, .int p0), (2, .int p1), (3, .int p2), (4, .int y51)]) dX6_value_168 5 rfl (by rfl) ?_ rfl rfl
          refine V_goto (tgt := 6) dX6_value_171 ?_
          have ee := inj1 h
          subst ee
          exact V_lv (ih _ _ _ (loopF_c ho)) [1, 2, 3, 4, 5, 0] rfl
        clear h
        have h := hb
        clear hb
        refine V_if_lt (pc2 := 30) (tgt := 93) dX6_value_27 (fun c27 => ?_) (fun c27 => ?_)
        · replace h := iT c27 h
          refine V_iload (pc2 := 95) dX6_value_93 0 rfl ?_
          refine V_bipush (v := -33) (pc2 := 97) dX6_value_95 (by decide) ?_
          refine V_icmp_ne (pc2 := 100) (tgt := 130) dX6_value_97 (fun c97 => ?_) (fun c97 => ?_)
          · replace h := iF c97 h
            refine V_iload (pc2 := 132) dX6_value_130 5 rfl ?_
            refine V_iconst (v := 1) (pc2 := 133) dX6_value_132 (by decide) ?_
            refine V_icmp_lt (pc2 := 136) (tgt := 168) dX6_value_133 (fun c133 => ?_) (fun c133 => ?_)
            · replace h := iT c133 h
              obtain ⟨e1, e2⟩ := inj2 h
              subst e1
              subst e2
              exact V_lv hJ168 [1, 2, 3, 4, 5, 6] rfl
            · replace h := iF c133 h
              refine V_iinc (pc2 := 139) (v := y1 + (-1 : Int32)) (L2 := [(4, .int (y1 + (-1 : Int32))), (6, .int x7), (0, .ref a0), (1, .int p0), (2, .int p1), (3, .int p2), (5, .int y2)]) dX6_value_136 5 rfl (by rfl) ?_ rfl rfl
              refine V_aload_n (pc2 := 140) dX6_value_139 2 rfl rfl ?_
              obtain ⟨r8, e_r8, h⟩ := bS h
              refine V_gR (pc2 := 143) e_r8 dX6_value_140 wF_6_20 ?_
              refine V_iload (pc2 := 145) dX6_value_143 0 rfl ?_
              refine V_iload (pc2 := 147) dX6_value_145 1 rfl ?_
              refine V_ineg (pc2 := 148) dX6_value_147 ?_
              refine V_aload_n (pc2 := 149) dX6_value_148 2 rfl rfl ?_
              obtain ⟨r9, e_r9, h⟩ := bS h
              refine V_gR (pc2 := 152) e_r9 dX6_value_149 wF_6_20 ?_
              refine V_iload (pc2 := 154) dX6_value_152 0 rfl ?_
              obtain ⟨x10, e_x10, h⟩ := bS h
              refine V_ldI (pc2 := 155) e_x10 dX6_value_154 ?_
              refine V_aload_n (pc2 := 156) dX6_value_155 2 rfl rfl ?_
              obtain ⟨r11, e_r11, h⟩ := bS h
              refine V_gR (pc2 := 159) e_r11 dX6_value_156 wF_6_20 ?_
              refine V_iload (pc2 := 161) dX6_value_159 0 rfl ?_
              refine V_iconst (v := 1) (pc2 := 162) dX6_value_161 (by decide) ?_
              refine V_iadd (pc2 := 163) dX6_value_162 ?_
              obtain ⟨x12, e_x12, h⟩ := bS h
              refine V_ldI (pc2 := 164) e_x12 dX6_value_163 ?_
              obtain ⟨x13, e_x13, h⟩ := bS h
              refine V_cSi (pc2 := 167) [.int (-x7), .int x10, .int x12] (st := [.int (y1 + (-1 : Int32)), .ref r8]) (tX6_joined e_x13) dX6_value_164 wS_6_23 (by decide) rfl (Nat.le_of_ble_eq_true rfl) ?_
              obtain ⟨m14, e_m14, h⟩ := bS h
              refine V_stI (pc2 := 168) e_m14 dX6_value_167 ?_
              obtain ⟨e1, e2⟩ := inj2 h
              subst e1
              subst e2
              exact V_lv hJ168 [2, 3, 4, 5, 0, 6] rfl
          · replace h := iT c97 h
            refine V_iload (pc2 := 102) dX6_value_100 5 rfl ?_
            refine V_if_lt (pc2 := 105) (tgt := 130) dX6_value_102 (fun c102 => ?_) (fun c102 => ?_)
            · replace h := iT c102 h
              refine V_iload (pc2 := 132) dX6_value_130 5 rfl ?_
              refine V_iconst (v := 1) (pc2 := 133) dX6_value_132 (by decide) ?_
              refine V_icmp_lt (pc2 := 136) (tgt := 168) dX6_value_133 (fun c133 => ?_) (fun c133 => ?_)
              · replace h := iT c133 h
                obtain ⟨e1, e2⟩ := inj2 h
                subst e1
                subst e2
                exact V_lv hJ168 [1, 2, 3, 4, 5, 6] rfl
              · replace h := iF c133 h
                refine V_iinc (pc2 := 139) (v := y1 + (-1 : Int32)) (L2 := [(4, .int (y1 + (-1 : Int32))), (6, .int x7), (0, .ref a0), (1, .int p0), (2, .int p1), (3, .int p2), (5, .int y2)]) dX6_value_136 5 rfl (by rfl) ?_ rfl rfl
                refine V_aload_n (pc2 := 140) dX6_value_139 2 rfl rfl ?_
                obtain ⟨r15, e_r15, h⟩ := bS h
                refine V_gR (pc2 := 143) e_r15 dX6_value_140 wF_6_20 ?_
                refine V_iload (pc2 := 145) dX6_value_143 0 rfl ?_
                refine V_iload (pc2 := 147) dX6_value_145 1 rfl ?_
                refine V_ineg (pc2 := 148) dX6_value_147 ?_
                refine V_aload_n (pc2 := 149) dX6_value_148 2 rfl rfl ?_
                obtain ⟨r16, e_r16, h⟩ := bS h
                refine V_gR (pc2 := 152) e_r16 dX6_value_149 wF_6_20 ?_
                refine V_iload (pc2 := 154) dX6_value_152 0 rfl ?_
                obtain ⟨x17, e_x17, h⟩ := bS h
                refine V_ldI (pc2 := 155) e_x17 dX6_value_154 ?_
                refine V_aload_n (pc2 := 156) dX6_value_155 2 rfl rfl ?_
                obtain ⟨r18, e_r18, h⟩ := bS h
                refine V_gR (pc2 := 159) e_r18 dX6_value_156 wF_6_20 ?_
                refine V_iload (pc2 := 161) dX6_value_159 0 rfl ?_
                refine V_iconst (v := 1) (pc2 := 162) dX6_value_161 (by decide) ?_
                refine V_iadd (pc2 := 163) dX6_value_162 ?_
                obtain ⟨x19, e_x19, h⟩ := bS h
                refine V_ldI (pc2 := 164) e_x19 dX6_value_163 ?_
                obtain ⟨x20, e_x20, h⟩ := bS h
                refine V_cSi (pc2 := 167) [.int (-x7), .int x17, .int x19] (st := [.int (y1 + (-1 : Int32)), .ref r15]) (tX6_joined e_x20) dX6_value_164 wS_6_23 (by decide) rfl (Nat.le_of_ble_eq_true rfl) ?_
                obtain ⟨m21, e_m21, h⟩ := bS h
                refine V_stI (pc2 := 168) e_m21 dX6_value_167 ?_
                obtain ⟨e1, e2⟩ := inj2 h
                subst e1
                subst e2
                exact V_lv hJ168 [2, 3, 4, 5, 0, 6] rfl
            · replace h := iF c102 h
              refine V_aload_n (pc2 := 106) dX6_value_105 1 rfl rfl ?_
              obtain ⟨r22, e_r22, h⟩ := bS h
              refine V_gR (pc2 := 109) e_r22 dX6_value_106 wF_6_20 ?_
              refine V_iload (pc2 := 111) dX6_value_109 5 rfl ?_
              refine V_aload_n (pc2 := 112) dX6_value_111 1 rfl rfl ?_
              obtain ⟨r23, e_r23, h⟩ := bS h
              refine V_gR (pc2 := 115) e_r23 dX6_value_112 wF_6_20 ?_
              refine V_iload (pc2 := 117) dX6_value_115 5 rfl ?_
              obtain ⟨x24, e_x24, h⟩ := bS h
              refine V_ldI (pc2 := 118) e_x24 dX6_value_117 ?_
              obtain ⟨y25, hb, h⟩ := bS h
              have hJ126 : V D 1 IX6_value 126 [(0, .ref a0), (1, .int p0), (2, .int p1), (3, .int p2), (4, .int y1), (5, .int y2)] [.int y25, .int y1, .ref r22] m3 0 0 (Qi rR mR) := by
                obtain ⟨m26, e_m26, h⟩ := bS h
                refine V_stI (pc2 := 127) e_m26 dX6_value_126 ?_
                refine V_goto (tgt := 168) dX6_value_127 ?_
                obtain ⟨e1, e2⟩ := inj2 h
                subst e1
                subst e2
                exact hJ168
              clear h
              have h := hb
              clear hb
              refine V_if_ne (pc2 := 121) (tgt := 125) dX6_value_118 (fun c118 => ?_) (fun c118 => ?_)
              · replace h := iF c118 h
                refine V_iconst (v := 0) (pc2 := 126) dX6_value_125 (by decide) ?_
                have e1 := inj1 h
                subst e1
                exact V_lv hJ126 [1, 2, 3, 4, 5, 6] rfl
              · replace h := iT c118 h
                refine V_iconst (v := 1) (pc2 := 122) dX6_value_121 (by decide) ?_
                refine V_goto (tgt := 126) dX6_value_122 ?_
                have e1 := inj1 h
                subst e1
                exact V_lv hJ126 [1, 2, 3, 4, 5, 6] rfl
        · replace h := iF c27 h
          refine V_iload (pc2 := 32) dX6_value_30 5 rfl ?_
          refine V_iconst (v := 1) (pc2 := 33) dX6_value_32 (by decide) ?_
          refine V_iadd (pc2 := 34) dX6_value_33 ?_
          refine V_aload_n (pc2 := 35) dX6_value_34 1 rfl rfl ?_
          obtain ⟨r27, e_r27, h⟩ := bS h
          refine V_gR (pc2 := 38) e_r27 dX6_value_35 wF_6_20 ?_
          obtain ⟨x28, e_x28, h⟩ := bS h
          refine V_alI (pc2 := 39) e_x28 dX6_value_38 ?_
          refine V_icmp_ge (pc2 := 42) (tgt := 93) dX6_value_39 (fun c39 => ?_) (fun c39 => ?_)
          · replace h := iT c39 h
            refine V_iload (pc2 := 95) dX6_value_93 0 rfl ?_
            refine V_bipush (v := -33) (pc2 := 97) dX6_value_95 (by decide) ?_
            refine V_icmp_ne (pc2 := 100) (tgt := 130) dX6_value_97 (fun c97 => ?_) (fun c97 => ?_)
            · replace h := iF c97 h
              refine V_iload (pc2 := 132) dX6_value_130 5 rfl ?_
              refine V_iconst (v := 1) (pc2 := 133) dX6_value_132 (by decide) ?_
              refine V_icmp_lt (pc2 := 136) (tgt := 168) dX6_value_133 (fun c133 => ?_) (fun c133 => ?_)
              · replace h := iT c133 h
                obtain ⟨e1, e2⟩ := inj2 h
                subst e1
                subst e2
                exact V_lv hJ168 [1, 2, 3, 4, 5, 6] rfl
              · replace h := iF c133 h
                refine V_iinc (pc2 := 139) (v := y1 + (-1 : Int32)) (L2 := [(4, .int (y1 + (-1 : Int32))), (6, .int x7), (0, .ref a0), (1, .int p0), (2, .int p1), (3, .int p2), (5, .int y2)]) dX6_value_136 5 rfl (by rfl) ?_ rfl rfl
                refine V_aload_n (pc2 := 140) dX6_value_139 2 rfl rfl ?_
                obtain ⟨r29, e_r29, h⟩ := bS h
                refine V_gR (pc2 := 143) e_r29 dX6_value_140 wF_6_20 ?_
                refine V_iload (pc2 := 145) dX6_value_143 0 rfl ?_
                refine V_iload (pc2 := 147) dX6_value_145 1 rfl ?_
                refine V_ineg (pc2 := 148) dX6_value_147 ?_
                refine V_aload_n (pc2 := 149) dX6_value_148 2 rfl rfl ?_
                obtain ⟨r30, e_r30, h⟩ := bS h
                refine V_gR (pc2 := 152) e_r30 dX6_value_149 wF_6_20 ?_
                refine V_iload (pc2 := 154) dX6_value_152 0 rfl ?_
                obtain ⟨x31, e_x31, h⟩ := bS h
                refine V_ldI (pc2 := 155) e_x31 dX6_value_154 ?_
                refine V_aload_n (pc2 := 156) dX6_value_155 2 rfl rfl ?_
                obtain ⟨r32, e_r32, h⟩ := bS h
                refine V_gR (pc2 := 159) e_r32 dX6_value_156 wF_6_20 ?_
                refine V_iload (pc2 := 161) dX6_value_159 0 rfl ?_
                refine V_iconst (v := 1) (pc2 := 162) dX6_value_161 (by decide) ?_
                refine V_iadd (pc2 := 163) dX6_value_162 ?_
                obtain ⟨x33, e_x33, h⟩ := bS h
                refine V_ldI (pc2 := 164) e_x33 dX6_value_163 ?_
                obtain ⟨x34, e_x34, h⟩ := bS h
                refine V_cSi (pc2 := 167) [.int (-x7), .int x31, .int x33] (st := [.int (y1 + (-1 : Int32)), .ref r29]) (tX6_joined e_x34) dX6_value_164 wS_6_23 (by decide) rfl (Nat.le_of_ble_eq_true rfl) ?_
                obtain ⟨m35, e_m35, h⟩ := bS h
                refine V_stI (pc2 := 168) e_m35 dX6_value_167 ?_
                obtain ⟨e1, e2⟩ := inj2 h
                subst e1
                subst e2
                exact V_lv hJ168 [2, 3, 4, 5, 0, 6] rfl
            · replace h := iT c97 h
              refine V_iload (pc2 := 102) dX6_value_100 5 rfl ?_
              refine V_if_lt (pc2 := 105) (tgt := 130) dX6_value_102 (fun c102 => ?_) (fun c102 => ?_)
              · replace h := iT c102 h
                refine V_iload (pc2 := 132) dX6_value_130 5 rfl ?_
                refine V_iconst (v := 1) (pc2 := 133) dX6_value_132 (by decide) ?_
                refine V_icmp_lt (pc2 := 136) (tgt := 168) dX6_value_133 (fun c133 => ?_) (fun c133 => ?_)
                · replace h := iT c133 h
                  obtain ⟨e1, e2⟩ := inj2 h
                  subst e1
                  subst e2
                  exact V_lv hJ168 [1, 2, 3, 4, 5, 6] rfl
                · replace h := iF c133 h
                  refine V_iinc (pc2 := 139) (v := y1 + (-1 : Int32)) (L2 := [(4, .int (y1 + (-1 : Int32))), (6, .int x7), (0, .ref a0), (1, .int p0), (2, .int p1), (3, .int p2), (5, .int y2)]) dX6_value_136 5 rfl (by rfl) ?_ rfl rfl
                  refine V_aload_n (pc2 := 140) dX6_value_139 2 rfl rfl ?_
                  obtain ⟨r36, e_r36, h⟩ := bS h
                  refine V_gR (pc2 := 143) e_r36 dX6_value_140 wF_6_20 ?_
                  refine V_iload (pc2 := 145) dX6_value_143 0 rfl ?_
                  refine V_iload (pc2 := 147) dX6_value_145 1 rfl ?_
                  refine V_ineg (pc2 := 148) dX6_value_147 ?_
                  refine V_aload_n (pc2 := 149) dX6_value_148 2 rfl rfl ?_
                  obtain ⟨r37, e_r37, h⟩ := bS h
                  refine V_gR (pc2 := 152) e_r37 dX6_value_149 wF_6_20 ?_
                  refine V_iload (pc2 := 154) dX6_value_152 0 rfl ?_
                  obtain ⟨x38, e_x38, h⟩ := bS h
                  refine V_ldI (pc2 := 155) e_x38 dX6_value_154 ?_
                  refine V_aload_n (pc2 := 156) dX6_value_155 2 rfl rfl ?_
                  obtain ⟨r39, e_r39, h⟩ := bS h
                  refine V_gR (pc2 := 159) e_r39 dX6_value_156 wF_6_20 ?_
                  refine V_iload (pc2 := 161) dX6_value_159 0 rfl ?_
                  refine V_iconst (v := 1) (pc2 := 162) dX6_value_161 (by decide) ?_
                  refine V_iadd (pc2 := 163) dX6_value_162 ?_
                  obtain ⟨x40, e_x40, h⟩ := bS h
                  refine V_ldI (pc2 := 164) e_x40 dX6_value_163 ?_
                  obtain ⟨x41, e_x41, h⟩ := bS h
                  refine V_cSi (pc2 := 167) [.int (-x7), .int x38, .int x40] (st := [.int (y1 + (-1 : Int32)), .ref r36]) (tX6_joined e_x41) dX6_value_164 wS_6_23 (by decide) rfl (Nat.le_of_ble_eq_true rfl) ?_
                  obtain ⟨m42, e_m42, h⟩ := bS h
                  refine V_stI (pc2 := 168) e_m42 dX6_value_167 ?_
                  obtain ⟨e1, e2⟩ := inj2 h
                  subst e1
                  subst e2
                  exact V_lv hJ168 [2, 3, 4, 5, 0, 6] rfl
              · replace h := iF c102 h
                refine V_aload_n (pc2 := 106) dX6_value_105 1 rfl rfl ?_
                obtain ⟨r43, e_r43, h⟩ := bS h
                refine V_gR (pc2 := 109) e_r43 dX6_value_106 wF_6_20 ?_
                refine V_iload (pc2 := 111) dX6_value_109 5 rfl ?_
                refine V_aload_n (pc2 := 112) dX6_value_111 1 rfl rfl ?_
                obtain ⟨r44, e_r44, h⟩ := bS h
                refine V_gR (pc2 := 115) e_r44 dX6_value_112 wF_6_20 ?_
                refine V_iload (pc2 := 117) dX6_value_115 5 rfl ?_
                obtain ⟨x45, e_x45, h⟩ := bS h
                refine V_ldI (pc2 := 118) e_x45 dX6_value_117 ?_
                obtain ⟨y46, hb, h⟩ := bS h
                have hJ126 : V D 1 IX6_value 126 [(0, .ref a0), (1, .int p0), (2, .int p1), (3, .int p2), (4, .int y1), (5, .int y2)] [.int y46, .int y1, .ref r43] m3 0 0 (Qi rR mR) := by
                  obtain ⟨m47, e_m47, h⟩ := bS h
                  refine V_stI (pc2 := 127) e_m47 dX6_value_126 ?_
                  refine V_goto (tgt := 168) dX6_value_127 ?_
                  obtain ⟨e1, e2⟩ := inj2 h
                  subst e1
                  subst e2
                  exact hJ168
                clear h
                have h := hb
                clear hb
                refine V_if_ne (pc2 := 121) (tgt := 125) dX6_value_118 (fun c118 => ?_) (fun c118 => ?_)
                · replace h := iF c118 h
                  refine V_iconst (v := 0) (pc2 := 126) dX6_value_125 (by decide) ?_
                  have e1 := inj1 h
                  subst e1
                  exact V_lv hJ126 [1, 2, 3, 4, 5, 6] rfl
                · replace h := iT c118 h
                  refine V_iconst (v := 1) (pc2 := 122) dX6_value_121 (by decide) ?_
                  refine V_goto (tgt := 126) dX6_value_122 ?_
                  have e1 := inj1 h
                  subst e1
                  exact V_lv hJ126 [1, 2, 3, 4, 5, 6] rfl
          · replace h := iF c39 h
            refine V_iinc (pc2 := 45) (v := y1 + (1 : Int32)) (L2 := [(4, .int (y1 + (1 : Int32))), (6, .int x7), (0, .ref a0), (1, .int p0), (2, .int p1), (3, .int p2), (5, .int y2)]) dX6_value_42 5 rfl (by rfl) ?_ rfl rfl
            refine V_aload_n (pc2 := 46) dX6_value_45 2 rfl rfl ?_
            obtain ⟨r48, e_r48, h⟩ := bS h
            refine V_gR (pc2 := 49) e_r48 dX6_value_46 wF_6_20 ?_
            refine V_iload (pc2 := 51) dX6_value_49 0 rfl ?_
            refine V_iload (pc2 := 53) dX6_value_51 1 rfl ?_
            refine V_sipush (v := 10000) (pc2 := 56) dX6_value_53 (by decide) ?_
            obtain ⟨y49, hb, h⟩ := bS h
            have hJ89 : V D 1 IX6_value 89 [(0, .ref a0), (1, .int p0), (2, .int p1), (3, .int p2), (4, .int (y1 + (1 : Int32))), (5, .int y2)] [.int y49, .int (y1 + (1 : Int32)), .ref r48] m3 0 0 (Qi rR mR) := by
              obtain ⟨m50, e_m50, h⟩ := bS h
              refine V_stI (pc2 := 90) e_m50 dX6_value_89 ?_
              refine V_goto (tgt := 168) dX6_value_90 ?_
              obtain ⟨e1, e2⟩ := inj2 h
              subst e1
              subst e2
              exact hJ168
            clear h
            have h := hb
            clear hb
            refine V_icmp_ge (pc2 := 59) (tgt := 64) dX6_value_56 (fun c56 => ?_) (fun c56 => ?_)
            · replace h := iT c56 h
              refine V_iload (pc2 := 66) dX6_value_64 1 rfl ?_
              refine V_sipush (v := 10000) (pc2 := 69) dX6_value_66 (by decide) ?_
              refine V_icmp_ne (pc2 := 72) (tgt := 76) dX6_value_69 (fun c69 => ?_) (fun c69 => ?_)
              · replace h := iF c69 h
                refine V_iload (pc2 := 78) dX6_value_76 1 rfl ?_
                refine V_sipush (v := 10001) (pc2 := 81) dX6_value_78 (by decide) ?_
                refine V_icmp_ne (pc2 := 84) (tgt := 88) dX6_value_81 (fun c81 => ?_) (fun c81 => ?_)
                · replace h := iF c81 h
                  refine V_iload_n (pc2 := 89) dX6_value_88 5 rfl rfl ?_
                  have e1 := inj1 h
                  subst e1
                  exact V_lv hJ89 [2, 3, 4, 5, 0, 6] rfl
                · replace h := iT c81 h
                  refine V_iload_n (pc2 := 85) dX6_value_84 4 rfl rfl ?_
                  refine V_goto (tgt := 89) dX6_value_85 ?_
                  have e1 := inj1 h
                  subst e1
                  exact V_lv hJ89 [2, 3, 4, 5, 0, 6] rfl
              · replace h := iT c69 h
                refine V_iload_n (pc2 := 73) dX6_value_72 3 rfl rfl ?_
                refine V_goto (tgt := 89) dX6_value_73 ?_
                have e1 := inj1 h
                subst e1
                exact V_lv hJ89 [2, 3, 4, 5, 0, 6] rfl
            · replace h := iF c56 h
              refine V_iload (pc2 := 61) dX6_value_59 1 rfl ?_
              refine V_goto (tgt := 89) dX6_value_61 ?_
              have e1 := inj1 h
              subst e1
              exact V_lv hJ89 [2, 3, 4, 5, 0, 6] rfl
  exact V_lv (key6 _ _ _ _ hl) [2, 3, 4, 5, 1, 0] rfl
noncomputable def fJ9_max_7cf53 (p0 : Int32) (p1 : Int32) (m : Mem) : Option (Int32) :=
  if p0 < p1 then
    some p1
  else
    some p0
set_option maxRecDepth 20000 in
theorem tJ9_max_7cf53 {D : Dat} {p0 : Int32} {p1 : Int32} {m : Mem} {rR : Int32} (h : fJ9_max_7cf53 p0 p1 m = some rR) : T D 0 IJ9_max_7cf53 [.int p0, .int p1] m 0 0 (Qi rR m) := by
  refine T_of_VF (by decide +kernel) (Nat.le_of_ble_eq_true rfl) ?_
  show V D 0 IJ9_max_7cf53 0 [(0, .int p0), (1, .int p1)] [] m 0 0 (Qi rR m)
  unfold fJ9_max_7cf53 at h
  refine V_iload_n (pc2 := 1) dJ9_max_7cf53_0 0 rfl rfl ?_
  refine V_iload_n (pc2 := 2) dJ9_max_7cf53_1 1 rfl rfl ?_
  refine V_icmp_lt (pc2 := 5) (tgt := 9) dJ9_max_7cf53_2 (fun c2 => ?_) (fun c2 => ?_)
  · replace h := iT c2 h
    refine V_iload_n (pc2 := 10) dJ9_max_7cf53_9 1 rfl rfl ?_
    have e1 := inj1 h
    subst e1
    exact V_iret dJ9_max_7cf53_10 rfl ⟨rfl, rfl⟩
  · replace h := iF c2 h
    refine V_iload_n (pc2 := 6) dJ9_max_7cf53_5 0 rfl rfl ?_
    refine V_goto (tgt := 10) dJ9_max_7cf53_6 ?_
    have e1 := inj1 h
    subst e1
    exact V_iret dJ9_max_7cf53_10 rfl ⟨rfl, rfl⟩
noncomputable def fJ9_min_7cf53 (p0 : Int32) (p1 : Int32) (m : Mem) : Option (Int32) :=
  if p1 < p0 then
    some p1
  else
    some p0
set_option maxRecDepth 20000 in
theorem tJ9_min_7cf53 {D : Dat} {p0 : Int32} {p1 : Int32} {m : Mem} {rR : Int32} (h : fJ9_min_7cf53 p0 p1 m = some rR) : T D 0 IJ9_min_7cf53 [.int p0, .int p1] m 0 0 (Qi rR m) := by
  refine T_of_VF (by decide +kernel) (Nat.le_of_ble_eq_true rfl) ?_
  show V D 0 IJ9_min_7cf53 0 [(0, .int p0), (1, .int p1)] [] m 0 0 (Qi rR m)
  unfold fJ9_min_7cf53 at h
  refine V_iload_n (pc2 := 1) dJ9_min_7cf53_0 0 rfl rfl ?_
  refine V_iload_n (pc2 := 2) dJ9_min_7cf53_1 1 rfl rfl ?_
  refine V_icmp_gt (pc2 := 5) (tgt := 9) dJ9_min_7cf53_2 (fun c2 => ?_) (fun c2 => ?_)
  · replace h := iT c2 h
    refine V_iload_n (pc2 := 10) dJ9_min_7cf53_9 1 rfl rfl ?_
    have e1 := inj1 h
    subst e1
    exact V_iret dJ9_min_7cf53_10 rfl ⟨rfl, rfl⟩
  · replace h := iF c2 h
    refine V_iload_n (pc2 := 6) dJ9_min_7cf53_5 0 rfl rfl ?_
    refine V_goto (tgt := 10) dJ9_min_7cf53_6 ?_
    have e1 := inj1 h
    subst e1
    exact V_iret dJ9_min_7cf53_10 rfl ⟨rfl, rfl⟩
noncomputable def fX7_heldWithin (p0 : Int32) (p1 : Int32) (p2 : Int32) (m : Mem) : Option (Int32) :=
  (fJ9_min_7cf53 p2 p0 m).bind fun x1 =>
  (fJ9_max_7cf53 p1 x1 m).bind fun x2 =>
  some x2
set_option maxRecDepth 20000 in
theorem tX7_heldWithin {D : Dat} {p0 : Int32} {p1 : Int32} {p2 : Int32} {m : Mem} {rR : Int32} (h : fX7_heldWithin p0 p1 p2 m = some rR) : T D 1 IX7_heldWithin [.int p0, .int p1, .int p2] m 0 0 (Qi rR m) := by
  refine T_of_V (by decide) (Nat.le_of_ble_eq_true rfl) ?_
  show V D 1 IX7_heldWithin 0 [(0, .int p0), (1, .int p1), (2, .int p2)] [] m 0 0 (Qi rR m)
  unfold fX7_heldWithin at h
  refine V_iload_n (pc2 := 1) dX7_heldWithin_0 1 rfl rfl ?_
  refine V_iload_n (pc2 := 2) dX7_heldWithin_1 2 rfl rfl ?_
  refine V_iload_n (pc2 := 3) dX7_heldWithin_2 0 rfl rfl ?_
  obtain ⟨x1, e_x1, h⟩ := bS h
  refine V_cSi (pc2 := 6) [.int p2, .int p0] (st := [.int p1]) (tJ9_min_7cf53 e_x1) dX7_heldWithin_3 wS_7_142 (by decide) rfl (Nat.le_of_ble_eq_true rfl) ?_
  obtain ⟨x2, e_x2, h⟩ := bS h
  refine V_cSi (pc2 := 9) [.int p1, .int x1] (st := []) (tJ9_max_7cf53 e_x2) dX7_heldWithin_6 wS_7_324 (by decide) rfl (Nat.le_of_ble_eq_true rfl) ?_
  have e1 := inj1 h
  subst e1
  exact V_iret dX7_heldWithin_9 rfl ⟨rfl, rfl⟩
noncomputable def fX2_holdsOf (a0 : Nat) (p0 : Nat) (m : Mem) : Option (Int32 × Mem) :=
  (cV m a0 2 (fX2_lawOf a0 (0 : Int32) m)).bind fun r1 =>
  match r1 with
  | none =>
    (cV m a0 2 (fX2_sortNow a0 m)).bind fun x3 =>
    if x3 = (2 : Int32) then
      some ((1 : Int32), m)
    else
      (gI m p0 0 0).bind fun x4 =>
      some (x4, m)
  | some q2 =>
    (gI m p0 0 0).bind fun x5 =>
    (gI m p0 0 1).bind fun x6 =>
    (cV m a0 2 (fX2_sortNow a0 m)).bind fun x7 =>
    (cV m q2 6 (fX6_value q2 x5 x6 x7 m)).bind fun (x8, m9) =>
    (fX7_heldWithin x8 (1 : Int32) (99 : Int32) m9).bind fun x10 =>
    some (x10, m9)
set_option maxRecDepth 20000 in
theorem tX2_holdsOf {D : Dat} {a0 : Nat} {p0 : Nat} {m : Mem} {rR : Int32} {mR : Mem} (h : fX2_holdsOf a0 p0 m = some (rR, mR)) : T D 2 IX2_holdsOf [.ref a0, .ref p0] m 0 0 (Qi rR mR) := by
  refine T_of_V (by decide) (Nat.le_of_ble_eq_true rfl) ?_
  show V D 2 IX2_holdsOf 0 [(0, .ref a0), (1, .ref p0)] [] m 0 0 (Qi rR mR)
  unfold fX2_holdsOf at h
  refine V_aload_n (pc2 := 1) dX2_holdsOf_0 0 rfl rfl ?_
  refine V_iconst (v := 0) (pc2 := 2) dX2_holdsOf_1 (by decide) ?_
  obtain ⟨r1, e_r1, h⟩ := bS h
  obtain ⟨⟨fs_r1, o_r1⟩, e_r1⟩ := cV_of e_r1
  refine V_cVq (pc2 := 5) [.int (0 : Int32)] (st := []) o_r1 (tX2_lawOf e_r1) dX2_holdsOf_2 wV_2_130 (by decide) rfl (Nat.le_of_ble_eq_true rfl) ?_
  refine V_astoreq_n (pc2 := 6) (L2 := [(2, va_rf r1), (0, .ref a0), (1, .ref p0)]) dX2_holdsOf_5 ?_ rfl rfl rfl
  refine V_aloadq_n (pc2 := 7) dX2_holdsOf_6 0 rfl rfl ?_
  refine V_ifnonnull (pc2 := 10) (tgt := 27) dX2_holdsOf_7 (fun q2 c => ?_) (fun c => ?_)
  · subst c
    try dsimp only at h
    refine V_aload_n (pc2 := 28) dX2_holdsOf_27 0 rfl rfl ?_
    refine V_aload_n (pc2 := 29) dX2_holdsOf_28 2 rfl rfl ?_
    obtain ⟨x5, e_x5, h⟩ := bS h
    refine V_gI (pc2 := 32) e_x5 dX2_holdsOf_29 wF_2_138 ?_
    refine V_aload_n (pc2 := 33) dX2_holdsOf_32 2 rfl rfl ?_
    obtain ⟨x6, e_x6, h⟩ := bS h
    refine V_gI (pc2 := 36) e_x6 dX2_holdsOf_33 wF_2_102 ?_
    refine V_aload_n (pc2 := 37) dX2_holdsOf_36 1 rfl rfl ?_
    obtain ⟨x7, e_x7, h⟩ := bS h
    obtain ⟨⟨fs_x7, o_x7⟩, e_x7⟩ := cV_of e_x7
    refine V_cVi (pc2 := 40) [] (st := [.int x6, .int x5, .ref q2]) o_x7 (tX2_sortNow e_x7) dX2_holdsOf_37 wV_2_134 (by decide) rfl (Nat.le_of_ble_eq_true rfl) ?_
    obtain ⟨⟨x8, m9⟩, e_x8, h⟩ := bS h
    try dsimp only at h
    obtain ⟨⟨fs_x8, o_x8⟩, e_x8⟩ := cV_of e_x8
    refine V_cVi (pc2 := 43) [.int x5, .int x6, .int x7] (st := []) o_x8 (tX6_value e_x8) dX2_holdsOf_40 wV_2_141 (by decide) rfl (Nat.le_of_ble_eq_true rfl) ?_
    refine V_iconst (v := 1) (pc2 := 44) dX2_holdsOf_43 (by decide) ?_
    refine V_bipush (v := 99) (pc2 := 46) dX2_holdsOf_44 (by decide) ?_
    obtain ⟨x10, e_x10, h⟩ := bS h
    refine V_cNi (pc2 := 49) [.int x8, .int (1 : Int32), .int (99 : Int32)] (st := []) (tX7_heldWithin e_x10) dX2_holdsOf_46 wN_2_145 (by decide) rfl (Nat.le_of_ble_eq_true rfl) ?_
    obtain ⟨e1, e2⟩ := inj2 h
    subst e1
    subst e2
    exact V_iret dX2_holdsOf_49 rfl ⟨rfl, rfl⟩
  · subst c
    try dsimp only at h
    refine V_aload_n (pc2 := 11) dX2_holdsOf_10 1 rfl rfl ?_
    obtain ⟨x3, e_x3, h⟩ := bS h
    obtain ⟨⟨fs_x3, o_x3⟩, e_x3⟩ := cV_of e_x3
    refine V_cVi (pc2 := 14) [] (st := []) o_x3 (tX2_sortNow e_x3) dX2_holdsOf_11 wV_2_134 (by decide) rfl (Nat.le_of_ble_eq_true rfl) ?_
    refine V_iconst (v := 2) (pc2 := 15) dX2_holdsOf_14 (by decide) ?_
    refine V_icmp_ne (pc2 := 18) (tgt := 22) dX2_holdsOf_15 (fun c15 => ?_) (fun c15 => ?_)
    · replace h := iF c15 h
      refine V_aload_n (pc2 := 23) dX2_holdsOf_22 2 rfl rfl ?_
      obtain ⟨x4, e_x4, h⟩ := bS h
      refine V_gI (pc2 := 26) e_x4 dX2_holdsOf_23 wF_2_138 ?_
      obtain ⟨e1, e2⟩ := inj2 h
      subst e1
      subst e2
      exact V_iret dX2_holdsOf_26 rfl ⟨rfl, rfl⟩
    · replace h := iT c15 h
      refine V_iconst (v := 1) (pc2 := 19) dX2_holdsOf_18 (by decide) ?_
      refine V_goto (tgt := 26) dX2_holdsOf_19 ?_
      obtain ⟨e1, e2⟩ := inj2 h
      subst e1
      subst e2
      exact V_iret dX2_holdsOf_26 rfl ⟨rfl, rfl⟩
noncomputable def fX2_isChild (a0 : Nat) (p0 : Int32) (m : Mem) : Option (Bool) :=
  if p0 < 0 then
    some false
  else
    (gI m a0 2 1).bind fun x1 =>
    if x1 ≤ p0 then
      some false
    else
      some true
set_option maxRecDepth 20000 in
theorem tX2_isChild {D : Dat} {a0 : Nat} {p0 : Int32} {m : Mem} {rR : Bool} (h : fX2_isChild a0 p0 m = some rR) : T D 0 IX2_isChild [.ref a0, .int p0] m 0 0 (Qi (zb rR) m) := by
  refine T_of_V (by decide) (Nat.le_of_ble_eq_true rfl) ?_
  show V D 0 IX2_isChild 0 [(0, .ref a0), (1, .int p0)] [] m 0 0 (Qi (zb rR) m)
  unfold fX2_isChild at h
  refine V_iload_n (pc2 := 1) dX2_isChild_0 1 rfl rfl ?_
  refine V_if_lt (pc2 := 4) (tgt := 16) dX2_isChild_1 (fun c1 => ?_) (fun c1 => ?_)
  · replace h := iT c1 h
    refine V_iconst (v := 0) (pc2 := 17) dX2_isChild_16 (by decide) ?_
    have e1 := inj1 h
    subst e1
    exact V_bret (b := false) dX2_isChild_17 rfl ⟨rfl, rfl⟩
  · replace h := iF c1 h
    refine V_iload_n (pc2 := 5) dX2_isChild_4 1 rfl rfl ?_
    refine V_aload_n (pc2 := 6) dX2_isChild_5 0 rfl rfl ?_
    obtain ⟨x1, e_x1, h⟩ := bS h
    refine V_gI (pc2 := 9) e_x1 dX2_isChild_6 wF_2_48 ?_
    refine V_icmp_ge (pc2 := 12) (tgt := 16) dX2_isChild_9 (fun c9 => ?_) (fun c9 => ?_)
    · replace h := iT c9 h
      refine V_iconst (v := 0) (pc2 := 17) dX2_isChild_16 (by decide) ?_
      have e1 := inj1 h
      subst e1
      exact V_bret (b := false) dX2_isChild_17 rfl ⟨rfl, rfl⟩
    · replace h := iF c9 h
      refine V_iconst (v := 1) (pc2 := 13) dX2_isChild_12 (by decide) ?_
      refine V_goto (tgt := 17) dX2_isChild_13 ?_
      have e1 := inj1 h
      subst e1
      exact V_bret (b := true) dX2_isChild_17 rfl ⟨rfl, rfl⟩
noncomputable def fX2_isIn (a0 : Nat) (p0 : Int32) (m : Mem) : Option (Bool) :=
  (cV m a0 2 (fX2_isChild a0 p0 m)).bind fun b1 =>
  if b1 = true then
    (gR m a0 2 0).bind fun r2 =>
    (ldR m r2 1 p0).bind fun r3 =>
    (gI m r3 0 2).bind fun x4 =>
    if x4 = 0 then
      some true
    else
      some false
  else
    some false
set_option maxRecDepth 20000 in
theorem tX2_isIn {D : Dat} {a0 : Nat} {p0 : Int32} {m : Mem} {rR : Bool} (h : fX2_isIn a0 p0 m = some rR) : T D 1 IX2_isIn [.ref a0, .int p0] m 0 0 (Qi (zb rR) m) := by
  refine T_of_V (by decide) (Nat.le_of_ble_eq_true rfl) ?_
  show V D 1 IX2_isIn 0 [(0, .ref a0), (1, .int p0)] [] m 0 0 (Qi (zb rR) m)
  unfold fX2_isIn at h
  refine V_aload_n (pc2 := 1) dX2_isIn_0 0 rfl rfl ?_
  refine V_iload_n (pc2 := 2) dX2_isIn_1 1 rfl rfl ?_
  obtain ⟨b1, e_b1, h⟩ := bS h
  obtain ⟨⟨fs_b1, o_b1⟩, e_b1⟩ := cV_of e_b1
  refine V_cVi (pc2 := 5) [.int p0] (st := []) o_b1 (tX2_isChild e_b1) dX2_isIn_2 wV_2_91 (by decide) rfl (Nat.le_of_ble_eq_true rfl) ?_
  refine V_ifb_eq (pc2 := 8) (tgt := 24) dX2_isIn_5 (fun c5 => ?_) (fun c5 => ?_)
  · replace h := iF c5 h
    refine V_iconst (v := 0) (pc2 := 25) dX2_isIn_24 (by decide) ?_
    have e1 := inj1 h
    subst e1
    exact V_bret (b := false) dX2_isIn_25 rfl ⟨rfl, rfl⟩
  · replace h := iT c5 h
    refine V_aload_n (pc2 := 9) dX2_isIn_8 0 rfl rfl ?_
    obtain ⟨r2, e_r2, h⟩ := bS h
    refine V_gR (pc2 := 12) e_r2 dX2_isIn_9 wF_2_11 ?_
    refine V_iload_n (pc2 := 13) dX2_isIn_12 1 rfl rfl ?_
    obtain ⟨r3, e_r3, h⟩ := bS h
    refine V_ldR (pc2 := 14) e_r3 dX2_isIn_13 rfl ?_
    obtain ⟨x4, e_x4, h⟩ := bS h
    refine V_gI (pc2 := 17) e_x4 dX2_isIn_14 wF_2_95 ?_
    refine V_if_ne (pc2 := 20) (tgt := 24) dX2_isIn_17 (fun c17 => ?_) (fun c17 => ?_)
    · replace h := iF c17 h
      refine V_iconst (v := 0) (pc2 := 25) dX2_isIn_24 (by decide) ?_
      have e1 := inj1 h
      subst e1
      exact V_bret (b := false) dX2_isIn_25 rfl ⟨rfl, rfl⟩
    · replace h := iT c17 h
      refine V_iconst (v := 1) (pc2 := 21) dX2_isIn_20 (by decide) ?_
      refine V_goto (tgt := 25) dX2_isIn_21 ?_
      have e1 := inj1 h
      subst e1
      exact V_bret (b := true) dX2_isIn_25 rfl ⟨rfl, rfl⟩
noncomputable def fX2_stepFrom (a0 : Nat) (p0 : Int32) (m : Mem) : Option (Int32) :=
  (gI m a0 2 11).bind fun x1 =>
  (
    if x1 = (1 : Int32) then
      some (p0 + (1 : Int32))
    else
      some (p0 - (1 : Int32))).bind fun y2 =>
  (gI m a0 2 1).bind fun x3 =>
  if y2 < x3 then
    if 0 ≤ y2 then
      some y2
    else
      (gI m a0 2 1).bind fun x4 =>
      some (x4 - (1 : Int32))
  else
    some (0 : Int32)
set_option maxRecDepth 20000 in
theorem tX2_stepFrom {D : Dat} {a0 : Nat} {p0 : Int32} {m : Mem} {rR : Int32} (h : fX2_stepFrom a0 p0 m = some rR) : T D 0 IX2_stepFrom [.ref a0, .int p0] m 0 0 (Qi rR m) := by
  refine T_of_V (by decide) (Nat.le_of_ble_eq_true rfl) ?_
  show V D 0 IX2_stepFrom 0 [(0, .ref a0), (1, .int p0)] [] m 0 0 (Qi rR m)
  unfold fX2_stepFrom at h
  refine V_aload_n (pc2 := 1) dX2_stepFrom_0 0 rfl rfl ?_
  obtain ⟨x1, e_x1, h⟩ := bS h
  refine V_gI (pc2 := 4) e_x1 dX2_stepFrom_1 wF_2_39 ?_
  refine V_iconst (v := 1) (pc2 := 5) dX2_stepFrom_4 (by decide) ?_
  obtain ⟨y2, hb, h⟩ := bS h
  have hJ17 : V D 0 IX2_stepFrom 17 [(0, .ref a0)] [.int y2] m 0 0 (Qi rR m) := by
    refine V_istore_n (pc2 := 18) (L2 := [(2, .int y2), (0, .ref a0)]) dX2_stepFrom_17 ?_ rfl rfl rfl
    refine V_iload_n (pc2 := 19) dX2_stepFrom_18 0 rfl rfl ?_
    refine V_aload_n (pc2 := 20) dX2_stepFrom_19 1 rfl rfl ?_
    obtain ⟨x3, e_x3, h⟩ := bS h
    refine V_gI (pc2 := 23) e_x3 dX2_stepFrom_20 wF_2_48 ?_
    refine V_icmp_lt (pc2 := 26) (tgt := 28) dX2_stepFrom_23 (fun c23 => ?_) (fun c23 => ?_)
    · replace h := iT c23 h
      refine V_iload_n (pc2 := 29) dX2_stepFrom_28 0 rfl rfl ?_
      refine V_if_ge (pc2 := 32) (tgt := 41) dX2_stepFrom_29 (fun c29 => ?_) (fun c29 => ?_)
      · replace h := iT c29 h
        refine V_iload_n (pc2 := 42) dX2_stepFrom_41 0 rfl rfl ?_
        have e1 := inj1 h
        subst e1
        exact V_iret dX2_stepFrom_42 rfl ⟨rfl, rfl⟩
      · replace h := iF c29 h
        refine V_aload_n (pc2 := 33) dX2_stepFrom_32 1 rfl rfl ?_
        obtain ⟨x4, e_x4, h⟩ := bS h
        refine V_gI (pc2 := 36) e_x4 dX2_stepFrom_33 wF_2_48 ?_
        refine V_iconst (v := 1) (pc2 := 37) dX2_stepFrom_36 (by decide) ?_
        refine V_isub (pc2 := 38) dX2_stepFrom_37 ?_
        refine V_goto (tgt := 42) dX2_stepFrom_38 ?_
        have e1 := inj1 h
        subst e1
        exact V_iret dX2_stepFrom_42 rfl ⟨rfl, rfl⟩
    · replace h := iF c23 h
      refine V_iconst (v := 0) (pc2 := 27) dX2_stepFrom_26 (by decide) ?_
      have e1 := inj1 h
      subst e1
      exact V_iret dX2_stepFrom_27 rfl ⟨rfl, rfl⟩
  clear h
  have h := hb
  clear hb
  refine V_icmp_ne (pc2 := 8) (tgt := 14) dX2_stepFrom_5 (fun c5 => ?_) (fun c5 => ?_)
  · replace h := iF c5 h
    refine V_iload_n (pc2 := 15) dX2_stepFrom_14 1 rfl rfl ?_
    refine V_iconst (v := 1) (pc2 := 16) dX2_stepFrom_15 (by decide) ?_
    refine V_isub (pc2 := 17) dX2_stepFrom_16 ?_
    have e1 := inj1 h
    subst e1
    exact V_lv hJ17 [0] rfl
  · replace h := iT c5 h
    refine V_iload_n (pc2 := 9) dX2_stepFrom_8 1 rfl rfl ?_
    refine V_iconst (v := 1) (pc2 := 10) dX2_stepFrom_9 (by decide) ?_
    refine V_iadd (pc2 := 11) dX2_stepFrom_10 ?_
    refine V_goto (tgt := 17) dX2_stepFrom_11 ?_
    have e1 := inj1 h
    subst e1
    exact V_lv hJ17 [0] rfl
noncomputable def fX2_nextOf_b0 (a0 : Nat) (m : Mem) : Int32 × Int32 → Option ((Int32 × Int32) ⊕ Int32) := fun (y1, y2) =>
  (gI m a0 2 1).bind fun x3 =>
  if x3 ≤ y2 then
    some (.inr (-1 : Int32))
  else
    (cV m a0 2 (fX2_stepFrom a0 y1 m)).bind fun x4 =>
    (cV m a0 2 (fX2_isIn a0 x4 m)).bind fun b5 =>
    if b5 = true then
      some (.inr x4)
    else
      some (.inl (x4, y2 + (1 : Int32)))
noncomputable def fX2_nextOf (a0 : Nat) (p0 : Int32) (m : Mem) : Option (Int32) :=
  loopF (fX2_nextOf_b0 a0 m) bigN (p0, (0 : Int32))
set_option maxRecDepth 20000 in
theorem tX2_nextOf {D : Dat} {a0 : Nat} {p0 : Int32} {m : Mem} {rR : Int32} (h : fX2_nextOf a0 p0 m = some rR) : T D 2 IX2_nextOf [.ref a0, .int p0] m 0 0 (Qi rR m) := by
  refine T_of_V (by decide) (Nat.le_of_ble_eq_true rfl) ?_
  show V D 2 IX2_nextOf 0 [(0, .ref a0), (1, .int p0)] [] m 0 0 (Qi rR m)
  unfold fX2_nextOf at h
  refine V_iload_n (pc2 := 1) dX2_nextOf_0 1 rfl rfl ?_
  refine V_istore_n (pc2 := 2) (L2 := [(2, .int p0), (0, .ref a0), (1, .int p0)]) dX2_nextOf_1 ?_ rfl rfl rfl
  refine V_iconst (v := 0) (pc2 := 3) dX2_nextOf_2 (by decide) ?_
  refine V_istore_n (pc2 := 4) (L2 := [(3, .int (0 : Int32)), (2, .int p0), (0, .ref a0), (1, .int p0)]) dX2_nextOf_3 ?_ rfl rfl rfl
  have hl := h
  clear h
  have key4 : ∀ (n : Nat) (y1 : Int32) (y2 : Int32), loopF (fX2_nextOf_b0 a0 m) n (y1, y2) = some rR → V D 2 IX2_nextOf 4 [(0, .ref a0), (2, .int y1), (3, .int y2)] [] m 0 0 (Qi rR m) := by
    intro n
    induction n with
    | zero => intro y1 y2 h; cases h
    | succ n ih =>
      intro y1 y2 h
      obtain ⟨o, h, ho⟩ := loopF_inv h
      dsimp only [fX2_nextOf_b0] at h
      refine V_iload_n (pc2 := 5) dX2_nextOf_4 2 rfl rfl ?_
      refine V_aload_n (pc2 := 6) dX2_nextOf_5 0 rfl rfl ?_
      obtain ⟨x3, e_x3, h⟩ := bS h
      refine V_gI (pc2 := 9) e_x3 dX2_nextOf_6 wF_2_48 ?_
      refine V_icmp_ge (pc2 := 12) (tgt := 34) dX2_nextOf_9 (fun c9 => ?_) (fun c9 => ?_)
      · replace h := iT c9 h
        refine V_iconst (v := -1) (pc2 := 35) dX2_nextOf_34 (by decide) ?_
        have ee := inj1 h
        subst ee
        have e1 := pinj1 (loopF_e ho)
        subst e1
        exact V_iret dX2_nextOf_35 rfl ⟨rfl, rfl⟩
      · replace h := iF c9 h
        refine V_aload_n (pc2 := 13) dX2_nextOf_12 0 rfl rfl ?_
        refine V_iload_n (pc2 := 14) dX2_nextOf_13 1 rfl rfl ?_
        obtain ⟨x4, e_x4, h⟩ := bS h
        obtain ⟨⟨fs_x4, o_x4⟩, e_x4⟩ := cV_of e_x4
        refine V_cVi (pc2 := 17) [.int y1] (st := []) o_x4 (tX2_stepFrom e_x4) dX2_nextOf_14 wV_2_151 (by decide) rfl (Nat.le_of_ble_eq_true rfl) ?_
        refine V_istore_n (pc2 := 18) (L2 := [(2, .int x4), (0, .ref a0), (3, .int y2)]) dX2_nextOf_17 ?_ rfl rfl rfl
        refine V_aload_n (pc2 := 19) dX2_nextOf_18 1 rfl rfl ?_
        refine V_iload_n (pc2 := 20) dX2_nextOf_19 0 rfl rfl ?_
        obtain ⟨b5, e_b5, h⟩ := bS h
        obtain ⟨⟨fs_b5, o_b5⟩, e_b5⟩ := cV_of e_b5
        refine V_cVi (pc2 := 23) [.int x4] (st := []) o_b5 (tX2_isIn e_b5) dX2_nextOf_20 wV_2_155 (by decide) rfl (Nat.le_of_ble_eq_true rfl) ?_
        refine V_ifb_eq (pc2 := 26) (tgt := 28) dX2_nextOf_23 (fun c23 => ?_) (fun c23 => ?_)
        · replace h := iF c23 h
          refine V_iinc (pc2 := 31) (v := y2 + (1 : Int32)) (L2 := [(3, .int (y2 + (1 : Int32))), (2, .int x4), (0, .ref a0)]) dX2_nextOf_28 2 rfl (by rfl) ?_ rfl rfl
          refine V_goto (tgt := 4) dX2_nextOf_31 ?_
          have ee := inj1 h
          subst ee
          exact V_lv (ih _ _ (loopF_c ho)) [2, 1, 0] rfl
        · replace h := iT c23 h
          refine V_iload_n (pc2 := 27) dX2_nextOf_26 0 rfl rfl ?_
          have ee := inj1 h
          subst ee
          have e1 := pinj1 (loopF_e ho)
          subst e1
          exact V_iret dX2_nextOf_27 rfl ⟨rfl, rfl⟩
  exact V_lv (key4 _ _ _ hl) [2, 1, 0] rfl
noncomputable def fX7_orNone (p0 : Int32) (m : Mem) : Option (Int32) :=
  if 0 ≤ p0 then
    some p0
  else
    some (-1000000005 : Int32)
set_option maxRecDepth 20000 in
theorem tX7_orNone {D : Dat} {p0 : Int32} {m : Mem} {rR : Int32} (h : fX7_orNone p0 m = some rR) : T D 0 IX7_orNone [.int p0] m 0 0 (Qi rR m) := by
  refine T_of_V (by decide) (Nat.le_of_ble_eq_true rfl) ?_
  show V D 0 IX7_orNone 0 [(0, .int p0)] [] m 0 0 (Qi rR m)
  unfold fX7_orNone at h
  refine V_iload_n (pc2 := 1) dX7_orNone_0 0 rfl rfl ?_
  refine V_if_ge (pc2 := 4) (tgt := 9) dX7_orNone_1 (fun c1 => ?_) (fun c1 => ?_)
  · replace h := iT c1 h
    refine V_iload_n (pc2 := 10) dX7_orNone_9 0 rfl rfl ?_
    have e1 := inj1 h
    subst e1
    exact V_iret dX7_orNone_10 rfl ⟨rfl, rfl⟩
  · replace h := iF c1 h
    refine V_ldc (v := -1000000005) (pc2 := 6) dX7_orNone_4 wconstant_7_202 ?_
    refine V_goto (tgt := 10) dX7_orNone_6 ?_
    have e1 := inj1 h
    subst e1
    exact V_iret dX7_orNone_10 rfl ⟨rfl, rfl⟩
noncomputable def fX7_childTold (a0 : Nat) (p0 : Int32) (p1 : Int32) (m : Mem) : Option (Int32 × Mem) :=
  (gR m a0 7 0).bind fun r1 =>
  (cV m r1 2 (fX2_isChild r1 p0 m)).bind fun b2 =>
  if b2 = true then
    (gR m a0 7 0).bind fun r3 =>
    (gR m r3 2 0).bind fun r4 =>
    (ldR m r4 1 p0).bind fun r5 =>
    if p1 = (0 : Int32) then
      (gI m r5 0 0).bind fun x6 =>
      some (x6, m)
    else if p1 = (1 : Int32) then
      (gI m r5 0 1).bind fun x7 =>
      some (x7, m)
    else if p1 = (2 : Int32) then
      (gI m r5 0 2).bind fun x8 =>
      some (x8, m)
    else if p1 = (3 : Int32) then
      (gR m a0 7 0).bind fun r9 =>
      (cV m r9 2 (fX2_holdsOf r9 r5 m)).bind fun (x10, m11) =>
      some (x10, m11)
    else if p1 = (4 : Int32) then
      (gR m a0 7 0).bind fun r12 =>
      (cV m r12 2 (fX2_nextOf r12 p0 m)).bind fun x13 =>
      (fX7_orNone x13 m).bind fun x14 =>
      some (x14, m)
    else 
      some ((-1000000001 : Int32), m)
  else
    some ((-1000000001 : Int32), m)
set_option maxRecDepth 20000 in
theorem tX7_childTold {D : Dat} {a0 : Nat} {p0 : Int32} {p1 : Int32} {m : Mem} {rR : Int32} {mR : Mem} (h : fX7_childTold a0 p0 p1 m = some (rR, mR)) : T D 3 IX7_childTold [.ref a0, .int p0, .int p1] m 0 0 (Qi rR mR) := by
  refine T_of_V (by decide) (Nat.le_of_ble_eq_true rfl) ?_
  show V D 3 IX7_childTold 0 [(0, .ref a0), (1, .int p0), (2, .int p1)] [] m 0 0 (Qi rR mR)
  unfold fX7_childTold at h
  refine V_aload_n (pc2 := 1) dX7_childTold_0 0 rfl rfl ?_
  obtain ⟨r1, e_r1, h⟩ := bS h
  refine V_gR (pc2 := 4) e_r1 dX7_childTold_1 wF_7_10 ?_
  refine V_iload_n (pc2 := 5) dX7_childTold_4 1 rfl rfl ?_
  obtain ⟨b2, e_b2, h⟩ := bS h
  obtain ⟨⟨fs_b2, o_b2⟩, e_b2⟩ := cV_of e_b2
  refine V_cVi (pc2 := 8) [.int p0] (st := []) o_b2 (tX2_isChild e_b2) dX7_childTold_5 wV_7_72 (by decide) rfl (Nat.le_of_ble_eq_true rfl) ?_
  refine V_ifb_ne (pc2 := 11) (tgt := 14) dX7_childTold_8 (fun c8 => ?_) (fun c8 => ?_)
  · replace h := iT c8 h
    refine V_aload_n (pc2 := 15) dX7_childTold_14 0 rfl rfl ?_
    obtain ⟨r3, e_r3, h⟩ := bS h
    refine V_gR (pc2 := 18) e_r3 dX7_childTold_15 wF_7_10 ?_
    obtain ⟨r4, e_r4, h⟩ := bS h
    refine V_gR (pc2 := 21) e_r4 dX7_childTold_18 wF_7_57 ?_
    refine V_iload_n (pc2 := 22) dX7_childTold_21 1 rfl rfl ?_
    obtain ⟨r5, e_r5, h⟩ := bS h
    refine V_ldR (pc2 := 23) e_r5 dX7_childTold_22 rfl ?_
    refine V_astore_n (pc2 := 24) (L2 := [(3, .ref r5), (0, .ref a0), (1, .int p0), (2, .int p1)]) dX7_childTold_23 ?_ rfl rfl rfl
    refine V_iload_n (pc2 := 25) dX7_childTold_24 3 rfl rfl ?_
    by_cases c25_0 : p1 = (0 : Int32)
    · replace h := iT c25_0 h
      refine V_table (off := 35) (tgt := 60) dX7_childTold_25 (by rw [c25_0]; decide) ?_
      refine V_aload_n (pc2 := 61) dX7_childTold_60 0 rfl rfl ?_
      obtain ⟨x6, e_x6, h⟩ := bS h
      refine V_gI (pc2 := 64) e_x6 dX7_childTold_61 wF_7_61 ?_
      obtain ⟨e1, e2⟩ := inj2 h
      subst e1
      subst e2
      exact V_iret dX7_childTold_64 rfl ⟨rfl, rfl⟩
    replace h := iF c25_0 h
    by_cases c25_1 : p1 = (1 : Int32)
    · replace h := iT c25_1 h
      refine V_table (off := 40) (tgt := 65) dX7_childTold_25 (by rw [c25_1]; decide) ?_
      refine V_aload_n (pc2 := 66) dX7_childTold_65 0 rfl rfl ?_
      obtain ⟨x7, e_x7, h⟩ := bS h
      refine V_gI (pc2 := 69) e_x7 dX7_childTold_66 wF_7_66 ?_
      obtain ⟨e1, e2⟩ := inj2 h
      subst e1
      subst e2
      exact V_iret dX7_childTold_69 rfl ⟨rfl, rfl⟩
    replace h := iF c25_1 h
    by_cases c25_2 : p1 = (2 : Int32)
    · replace h := iT c25_2 h
      refine V_table (off := 45) (tgt := 70) dX7_childTold_25 (by rw [c25_2]; decide) ?_
      refine V_aload_n (pc2 := 71) dX7_childTold_70 0 rfl rfl ?_
      obtain ⟨x8, e_x8, h⟩ := bS h
      refine V_gI (pc2 := 74) e_x8 dX7_childTold_71 wF_7_69 ?_
      obtain ⟨e1, e2⟩ := inj2 h
      subst e1
      subst e2
      exact V_iret dX7_childTold_74 rfl ⟨rfl, rfl⟩
    replace h := iF c25_2 h
    by_cases c25_3 : p1 = (3 : Int32)
    · replace h := iT c25_3 h
      refine V_table (off := 50) (tgt := 75) dX7_childTold_25 (by rw [c25_3]; decide) ?_
      refine V_aload_n (pc2 := 76) dX7_childTold_75 1 rfl rfl ?_
      obtain ⟨r9, e_r9, h⟩ := bS h
      refine V_gR (pc2 := 79) e_r9 dX7_childTold_76 wF_7_10 ?_
      refine V_aload_n (pc2 := 80) dX7_childTold_79 0 rfl rfl ?_
      obtain ⟨⟨x10, m11⟩, e_x10, h⟩ := bS h
      try dsimp only at h
      obtain ⟨⟨fs_x10, o_x10⟩, e_x10⟩ := cV_of e_x10
      refine V_cVi (pc2 := 83) [.ref r5] (st := []) o_x10 (tX2_holdsOf e_x10) dX7_childTold_80 wV_7_76 (by decide) rfl (Nat.le_of_ble_eq_true rfl) ?_
      obtain ⟨e1, e2⟩ := inj2 h
      subst e1
      subst e2
      exact V_iret dX7_childTold_83 rfl ⟨rfl, rfl⟩
    replace h := iF c25_3 h
    by_cases c25_4 : p1 = (4 : Int32)
    · replace h := iT c25_4 h
      refine V_table (off := 59) (tgt := 84) dX7_childTold_25 (by rw [c25_4]; decide) ?_
      refine V_aload_n (pc2 := 85) dX7_childTold_84 1 rfl rfl ?_
      obtain ⟨r12, e_r12, h⟩ := bS h
      refine V_gR (pc2 := 88) e_r12 dX7_childTold_85 wF_7_10 ?_
      refine V_iload_n (pc2 := 89) dX7_childTold_88 2 rfl rfl ?_
      obtain ⟨x13, e_x13, h⟩ := bS h
      obtain ⟨⟨fs_x13, o_x13⟩, e_x13⟩ := cV_of e_x13
      refine V_cVi (pc2 := 92) [.int p0] (st := []) o_x13 (tX2_nextOf e_x13) dX7_childTold_89 wV_7_80 (by decide) rfl (Nat.le_of_ble_eq_true rfl) ?_
      obtain ⟨x14, e_x14, h⟩ := bS h
      refine V_cSi (pc2 := 95) [.int x13] (st := []) (tX7_orNone e_x14) dX7_childTold_92 wS_7_84 (by decide) rfl (Nat.le_of_ble_eq_true rfl) ?_
      obtain ⟨e1, e2⟩ := inj2 h
      subst e1
      subst e2
      exact V_iret dX7_childTold_95 rfl ⟨rfl, rfl⟩
    replace h := iF c25_4 h
    refine V_tableD (tgt := 96) dX7_childTold_25 (by have g0 := lv_neT c25_0 (show (0 : Int32).toInt = 0 by decide); have g1 := lv_neT c25_1 (show (1 : Int32).toInt = 1 by decide); have g2 := lv_neT c25_2 (show (2 : Int32).toInt = 2 by decide); have g3 := lv_neT c25_3 (show (3 : Int32).toInt = 3 by decide); have g4 := lv_neT c25_4 (show (4 : Int32).toInt = 4 by decide); omega) ?_
    refine V_ldc (v := -1000000001) (pc2 := 98) dX7_childTold_96 wconstant_7_51 ?_
    obtain ⟨e1, e2⟩ := inj2 h
    subst e1
    subst e2
    exact V_iret dX7_childTold_98 rfl ⟨rfl, rfl⟩
  · replace h := iF c8 h
    refine V_ldc (v := -1000000001) (pc2 := 13) dX7_childTold_11 wconstant_7_51 ?_
    obtain ⟨e1, e2⟩ := inj2 h
    subst e1
    subst e2
    exact V_iret dX7_childTold_13 rfl ⟨rfl, rfl⟩
noncomputable def fX7_lays (a0 : Nat) (p0 : Int32) (p1 : Int32) (p2 : Int32) (m : Mem) : Option (Int32 × Mem) :=
  (gR m a0 7 0).bind fun r1 =>
  (cV m r1 2 (fX2_isChild r1 p0 m)).bind fun b2 =>
  if b2 = true then
    (gR m a0 7 0).bind fun r3 =>
    (gR m r3 2 0).bind fun r4 =>
    (ldR m r4 1 p0).bind fun r5 =>
    if p1 = 0 then
      (fX7_within p2 (1 : Int32) (9 : Int32) m).bind fun b15 =>
      if b15 = true then
        (gI m r5 0 0).bind fun x25 =>
        (pI m r5 0 0 p2).bind fun m26 =>
        some (x25, m26)
      else
        if p1 = (1 : Int32) then
          (fX7_within p2 (0 : Int32) (99 : Int32) m).bind fun b19 =>
          if b19 = true then
            (gI m r5 0 1).bind fun x23 =>
            (pI m r5 0 1 p2).bind fun m24 =>
            some (x23, m24)
          else
            if p1 = (2 : Int32) then
              (fX7_within p2 (0 : Int32) (1 : Int32) m).bind fun b20 =>
              if b20 = true then
                (gI m r5 0 2).bind fun x21 =>
                (pI m r5 0 2 p2).bind fun m22 =>
                some (x21, m22)
              else
                some ((-1000000001 : Int32), m)
            else
              some ((-1000000001 : Int32), m)
        else
          if p1 = (2 : Int32) then
            (fX7_within p2 (0 : Int32) (1 : Int32) m).bind fun b16 =>
            if b16 = true then
              (gI m r5 0 2).bind fun x17 =>
              (pI m r5 0 2 p2).bind fun m18 =>
              some (x17, m18)
            else
              some ((-1000000001 : Int32), m)
          else
            some ((-1000000001 : Int32), m)
    else
      if p1 = (1 : Int32) then
        (fX7_within p2 (0 : Int32) (99 : Int32) m).bind fun b9 =>
        if b9 = true then
          (gI m r5 0 1).bind fun x13 =>
          (pI m r5 0 1 p2).bind fun m14 =>
          some (x13, m14)
        else
          if p1 = (2 : Int32) then
            (fX7_within p2 (0 : Int32) (1 : Int32) m).bind fun b10 =>
            if b10 = true then
              (gI m r5 0 2).bind fun x11 =>
              (pI m r5 0 2 p2).bind fun m12 =>
              some (x11, m12)
            else
              some ((-1000000001 : Int32), m)
          else
            some ((-1000000001 : Int32), m)
      else
        if p1 = (2 : Int32) then
          (fX7_within p2 (0 : Int32) (1 : Int32) m).bind fun b6 =>
          if b6 = true then
            (gI m r5 0 2).bind fun x7 =>
            (pI m r5 0 2 p2).bind fun m8 =>
            some (x7, m8)
          else
            some ((-1000000001 : Int32), m)
        else
          some ((-1000000001 : Int32), m)
  else
    some ((-1000000001 : Int32), m)
set_option maxRecDepth 20000 in
theorem tX7_lays {D : Dat} {a0 : Nat} {p0 : Int32} {p1 : Int32} {p2 : Int32} {m : Mem} {rR : Int32} {mR : Mem} (h : fX7_lays a0 p0 p1 p2 m = some (rR, mR)) : T D 1 IX7_lays [.ref a0, .int p0, .int p1, .int p2] m 0 0 (Qi rR mR) := by
  refine T_of_V (by decide) (Nat.le_of_ble_eq_true rfl) ?_
  show V D 1 IX7_lays 0 [(0, .ref a0), (1, .int p0), (2, .int p1), (3, .int p2)] [] m 0 0 (Qi rR mR)
  unfold fX7_lays at h
  refine V_aload_n (pc2 := 1) dX7_lays_0 0 rfl rfl ?_
  obtain ⟨r1, e_r1, h⟩ := bS h
  refine V_gR (pc2 := 4) e_r1 dX7_lays_1 wF_7_10 ?_
  refine V_iload_n (pc2 := 5) dX7_lays_4 1 rfl rfl ?_
  obtain ⟨b2, e_b2, h⟩ := bS h
  obtain ⟨⟨fs_b2, o_b2⟩, e_b2⟩ := cV_of e_b2
  refine V_cVi (pc2 := 8) [.int p0] (st := []) o_b2 (tX2_isChild e_b2) dX7_lays_5 wV_7_72 (by decide) rfl (Nat.le_of_ble_eq_true rfl) ?_
  refine V_ifb_ne (pc2 := 11) (tgt := 14) dX7_lays_8 (fun c8 => ?_) (fun c8 => ?_)
  · replace h := iT c8 h
    refine V_aload_n (pc2 := 15) dX7_lays_14 0 rfl rfl ?_
    obtain ⟨r3, e_r3, h⟩ := bS h
    refine V_gR (pc2 := 18) e_r3 dX7_lays_15 wF_7_10 ?_
    obtain ⟨r4, e_r4, h⟩ := bS h
    refine V_gR (pc2 := 21) e_r4 dX7_lays_18 wF_7_57 ?_
    refine V_iload_n (pc2 := 22) dX7_lays_21 1 rfl rfl ?_
    obtain ⟨r5, e_r5, h⟩ := bS h
    refine V_ldR (pc2 := 23) e_r5 dX7_lays_22 rfl ?_
    refine V_astore (pc2 := 25) (L2 := [(4, .ref r5), (0, .ref a0), (1, .int p0), (2, .int p1), (3, .int p2)]) dX7_lays_23 ?_ rfl rfl
    refine V_ldc (v := -1000000001) (pc2 := 27) dX7_lays_25 wconstant_7_51 ?_
    refine V_istore (pc2 := 29) (L2 := [(5, .int (-1000000001 : Int32)), (4, .ref r5), (0, .ref a0), (1, .int p0), (2, .int p1), (3, .int p2)]) dX7_lays_27 ?_ rfl rfl
    refine V_iload_n (pc2 := 30) dX7_lays_29 4 rfl rfl ?_
    refine V_if_ne (pc2 := 33) (tgt := 59) dX7_lays_30 (fun c30 => ?_) (fun c30 => ?_)
    · replace h := iF c30 h
      refine V_iload_n (pc2 := 60) dX7_lays_59 4 rfl rfl ?_
      refine V_iconst (v := 1) (pc2 := 61) dX7_lays_60 (by decide) ?_
      refine V_icmp_ne (pc2 := 64) (tgt := 90) dX7_lays_61 (fun c61 => ?_) (fun c61 => ?_)
      · replace h := iF c61 h
        refine V_iload_n (pc2 := 91) dX7_lays_90 4 rfl rfl ?_
        refine V_iconst (v := 2) (pc2 := 92) dX7_lays_91 (by decide) ?_
        refine V_icmp_ne (pc2 := 95) (tgt := 117) dX7_lays_92 (fun c92 => ?_) (fun c92 => ?_)
        · replace h := iF c92 h
          refine V_iload (pc2 := 119) dX7_lays_117 0 rfl ?_
          obtain ⟨e1, e2⟩ := inj2 h
          subst e1
          subst e2
          exact V_iret dX7_lays_119 rfl ⟨rfl, rfl⟩
        · replace h := iT c92 h
          refine V_iload_n (pc2 := 96) dX7_lays_95 5 rfl rfl ?_
          refine V_iconst (v := 0) (pc2 := 97) dX7_lays_96 (by decide) ?_
          refine V_iconst (v := 1) (pc2 := 98) dX7_lays_97 (by decide) ?_
          obtain ⟨b6, e_b6, h⟩ := bS h
          refine V_cSi (pc2 := 101) [.int p2, .int (0 : Int32), .int (1 : Int32)] (st := []) (tX7_within e_b6) dX7_lays_98 wS_7_47 (by decide) rfl (Nat.le_of_ble_eq_true rfl) ?_
          refine V_ifb_eq (pc2 := 104) (tgt := 117) dX7_lays_101 (fun c101 => ?_) (fun c101 => ?_)
          · replace h := iF c101 h
            refine V_iload (pc2 := 119) dX7_lays_117 0 rfl ?_
            obtain ⟨e1, e2⟩ := inj2 h
            subst e1
            subst e2
            exact V_iret dX7_lays_119 rfl ⟨rfl, rfl⟩
          · replace h := iT c101 h
            refine V_aload (pc2 := 106) dX7_lays_104 1 rfl ?_
            obtain ⟨x7, e_x7, h⟩ := bS h
            refine V_gI (pc2 := 109) e_x7 dX7_lays_106 wF_7_69 ?_
            refine V_istore (pc2 := 111) (L2 := [(5, .int x7), (4, .ref r5), (0, .ref a0), (1, .int p0), (2, .int p1), (3, .int p2)]) dX7_lays_109 ?_ rfl rfl
            refine V_aload (pc2 := 113) dX7_lays_111 1 rfl ?_
            refine V_iload_n (pc2 := 114) dX7_lays_113 5 rfl rfl ?_
            obtain ⟨m8, e_m8, h⟩ := bS h
            refine V_pI (pc2 := 117) e_m8 dX7_lays_114 wP_7_69 rfl rfl ?_
            refine V_iload (pc2 := 119) dX7_lays_117 0 rfl ?_
            obtain ⟨e1, e2⟩ := inj2 h
            subst e1
            subst e2
            exact V_iret dX7_lays_119 rfl ⟨rfl, rfl⟩
      · replace h := iT c61 h
        refine V_iload_n (pc2 := 65) dX7_lays_64 5 rfl rfl ?_
        refine V_iconst (v := 0) (pc2 := 66) dX7_lays_65 (by decide) ?_
        refine V_bipush (v := 99) (pc2 := 68) dX7_lays_66 (by decide) ?_
        obtain ⟨b9, e_b9, h⟩ := bS h
        refine V_cSi (pc2 := 71) [.int p2, .int (0 : Int32), .int (99 : Int32)] (st := []) (tX7_within e_b9) dX7_lays_68 wS_7_47 (by decide) rfl (Nat.le_of_ble_eq_true rfl) ?_
        refine V_ifb_eq (pc2 := 74) (tgt := 90) dX7_lays_71 (fun c71 => ?_) (fun c71 => ?_)
        · replace h := iF c71 h
          refine V_iload_n (pc2 := 91) dX7_lays_90 4 rfl rfl ?_
          refine V_iconst (v := 2) (pc2 := 92) dX7_lays_91 (by decide) ?_
          refine V_icmp_ne (pc2 := 95) (tgt := 117) dX7_lays_92 (fun c92 => ?_) (fun c92 => ?_)
          · replace h := iF c92 h
            refine V_iload (pc2 := 119) dX7_lays_117 0 rfl ?_
            obtain ⟨e1, e2⟩ := inj2 h
            subst e1
            subst e2
            exact V_iret dX7_lays_119 rfl ⟨rfl, rfl⟩
          · replace h := iT c92 h
            refine V_iload_n (pc2 := 96) dX7_lays_95 5 rfl rfl ?_
            refine V_iconst (v := 0) (pc2 := 97) dX7_lays_96 (by decide) ?_
            refine V_iconst (v := 1) (pc2 := 98) dX7_lays_97 (by decide) ?_
            obtain ⟨b10, e_b10, h⟩ := bS h
            refine V_cSi (pc2 := 101) [.int p2, .int (0 : Int32), .int (1 : Int32)] (st := []) (tX7_within e_b10) dX7_lays_98 wS_7_47 (by decide) rfl (Nat.le_of_ble_eq_true rfl) ?_
            refine V_ifb_eq (pc2 := 104) (tgt := 117) dX7_lays_101 (fun c101 => ?_) (fun c101 => ?_)
            · replace h := iF c101 h
              refine V_iload (pc2 := 119) dX7_lays_117 0 rfl ?_
              obtain ⟨e1, e2⟩ := inj2 h
              subst e1
              subst e2
              exact V_iret dX7_lays_119 rfl ⟨rfl, rfl⟩
            · replace h := iT c101 h
              refine V_aload (pc2 := 106) dX7_lays_104 1 rfl ?_
              obtain ⟨x11, e_x11, h⟩ := bS h
              refine V_gI (pc2 := 109) e_x11 dX7_lays_106 wF_7_69 ?_
              refine V_istore (pc2 := 111) (L2 := [(5, .int x11), (4, .ref r5), (0, .ref a0), (1, .int p0), (2, .int p1), (3, .int p2)]) dX7_lays_109 ?_ rfl rfl
              refine V_aload (pc2 := 113) dX7_lays_111 1 rfl ?_
              refine V_iload_n (pc2 := 114) dX7_lays_113 5 rfl rfl ?_
              obtain ⟨m12, e_m12, h⟩ := bS h
              refine V_pI (pc2 := 117) e_m12 dX7_lays_114 wP_7_69 rfl rfl ?_
              refine V_iload (pc2 := 119) dX7_lays_117 0 rfl ?_
              obtain ⟨e1, e2⟩ := inj2 h
              subst e1
              subst e2
              exact V_iret dX7_lays_119 rfl ⟨rfl, rfl⟩
        · replace h := iT c71 h
          refine V_aload (pc2 := 76) dX7_lays_74 1 rfl ?_
          obtain ⟨x13, e_x13, h⟩ := bS h
          refine V_gI (pc2 := 79) e_x13 dX7_lays_76 wF_7_66 ?_
          refine V_istore (pc2 := 81) (L2 := [(5, .int x13), (4, .ref r5), (0, .ref a0), (1, .int p0), (2, .int p1), (3, .int p2)]) dX7_lays_79 ?_ rfl rfl
          refine V_aload (pc2 := 83) dX7_lays_81 1 rfl ?_
          refine V_iload_n (pc2 := 84) dX7_lays_83 5 rfl rfl ?_
          obtain ⟨m14, e_m14, h⟩ := bS h
          refine V_pI (pc2 := 87) e_m14 dX7_lays_84 wP_7_66 rfl rfl ?_
          refine V_goto (tgt := 117) dX7_lays_87 ?_
          refine V_iload (pc2 := 119) dX7_lays_117 0 rfl ?_
          obtain ⟨e1, e2⟩ := inj2 h
          subst e1
          subst e2
          exact V_iret dX7_lays_119 rfl ⟨rfl, rfl⟩
    · replace h := iT c30 h
      refine V_iload_n (pc2 := 34) dX7_lays_33 5 rfl rfl ?_
      refine V_iconst (v := 1) (pc2 := 35) dX7_lays_34 (by decide) ?_
      refine V_bipush (v := 9) (pc2 := 37) dX7_lays_35 (by decide) ?_
      obtain ⟨b15, e_b15, h⟩ := bS h
      refine V_cSi (pc2 := 40) [.int p2, .int (1 : Int32), .int (9 : Int32)] (st := []) (tX7_within e_b15) dX7_lays_37 wS_7_47 (by decide) rfl (Nat.le_of_ble_eq_true rfl) ?_
      refine V_ifb_eq (pc2 := 43) (tgt := 59) dX7_lays_40 (fun c40 => ?_) (fun c40 => ?_)
      · replace h := iF c40 h
        refine V_iload_n (pc2 := 60) dX7_lays_59 4 rfl rfl ?_
        refine V_iconst (v := 1) (pc2 := 61) dX7_lays_60 (by decide) ?_
        refine V_icmp_ne (pc2 := 64) (tgt := 90) dX7_lays_61 (fun c61 => ?_) (fun c61 => ?_)
        · replace h := iF c61 h
          refine V_iload_n (pc2 := 91) dX7_lays_90 4 rfl rfl ?_
          refine V_iconst (v := 2) (pc2 := 92) dX7_lays_91 (by decide) ?_
          refine V_icmp_ne (pc2 := 95) (tgt := 117) dX7_lays_92 (fun c92 => ?_) (fun c92 => ?_)
          · replace h := iF c92 h
            refine V_iload (pc2 := 119) dX7_lays_117 0 rfl ?_
            obtain ⟨e1, e2⟩ := inj2 h
            subst e1
            subst e2
            exact V_iret dX7_lays_119 rfl ⟨rfl, rfl⟩
          · replace h := iT c92 h
            refine V_iload_n (pc2 := 96) dX7_lays_95 5 rfl rfl ?_
            refine V_iconst (v := 0) (pc2 := 97) dX7_lays_96 (by decide) ?_
            refine V_iconst (v := 1) (pc2 := 98) dX7_lays_97 (by decide) ?_
            obtain ⟨b16, e_b16, h⟩ := bS h
            refine V_cSi (pc2 := 101) [.int p2, .int (0 : Int32), .int (1 : Int32)] (st := []) (tX7_within e_b16) dX7_lays_98 wS_7_47 (by decide) rfl (Nat.le_of_ble_eq_true rfl) ?_
            refine V_ifb_eq (pc2 := 104) (tgt := 117) dX7_lays_101 (fun c101 => ?_) (fun c101 => ?_)
            · replace h := iF c101 h
              refine V_iload (pc2 := 119) dX7_lays_117 0 rfl ?_
              obtain ⟨e1, e2⟩ := inj2 h
              subst e1
              subst e2
              exact V_iret dX7_lays_119 rfl ⟨rfl, rfl⟩
            · replace h := iT c101 h
              refine V_aload (pc2 := 106) dX7_lays_104 1 rfl ?_
              obtain ⟨x17, e_x17, h⟩ := bS h
              refine V_gI (pc2 := 109) e_x17 dX7_lays_106 wF_7_69 ?_
              refine V_istore (pc2 := 111) (L2 := [(5, .int x17), (4, .ref r5), (0, .ref a0), (1, .int p0), (2, .int p1), (3, .int p2)]) dX7_lays_109 ?_ rfl rfl
              refine V_aload (pc2 := 113) dX7_lays_111 1 rfl ?_
              refine V_iload_n (pc2 := 114) dX7_lays_113 5 rfl rfl ?_
              obtain ⟨m18, e_m18, h⟩ := bS h
              refine V_pI (pc2 := 117) e_m18 dX7_lays_114 wP_7_69 rfl rfl ?_
              refine V_iload (pc2 := 119) dX7_lays_117 0 rfl ?_
              obtain ⟨e1, e2⟩ := inj2 h
              subst e1
              subst e2
              exact V_iret dX7_lays_119 rfl ⟨rfl, rfl⟩
        · replace h := iT c61 h
          refine V_iload_n (pc2 := 65) dX7_lays_64 5 rfl rfl ?_
          refine V_iconst (v := 0) (pc2 := 66) dX7_lays_65 (by decide) ?_
          refine V_bipush (v := 99) (pc2 := 68) dX7_lays_66 (by decide) ?_
          obtain ⟨b19, e_b19, h⟩ := bS h
          refine V_cSi (pc2 := 71) [.int p2, .int (0 : Int32), .int (99 : Int32)] (st := []) (tX7_within e_b19) dX7_lays_68 wS_7_47 (by decide) rfl (Nat.le_of_ble_eq_true rfl) ?_
          refine V_ifb_eq (pc2 := 74) (tgt := 90) dX7_lays_71 (fun c71 => ?_) (fun c71 => ?_)
          · replace h := iF c71 h
            refine V_iload_n (pc2 := 91) dX7_lays_90 4 rfl rfl ?_
            refine V_iconst (v := 2) (pc2 := 92) dX7_lays_91 (by decide) ?_
            refine V_icmp_ne (pc2 := 95) (tgt := 117) dX7_lays_92 (fun c92 => ?_) (fun c92 => ?_)
            · replace h := iF c92 h
              refine V_iload (pc2 := 119) dX7_lays_117 0 rfl ?_
              obtain ⟨e1, e2⟩ := inj2 h
              subst e1
              subst e2
              exact V_iret dX7_lays_119 rfl ⟨rfl, rfl⟩
            · replace h := iT c92 h
              refine V_iload_n (pc2 := 96) dX7_lays_95 5 rfl rfl ?_
              refine V_iconst (v := 0) (pc2 := 97) dX7_lays_96 (by decide) ?_
              refine V_iconst (v := 1) (pc2 := 98) dX7_lays_97 (by decide) ?_
              obtain ⟨b20, e_b20, h⟩ := bS h
              refine V_cSi (pc2 := 101) [.int p2, .int (0 : Int32), .int (1 : Int32)] (st := []) (tX7_within e_b20) dX7_lays_98 wS_7_47 (by decide) rfl (Nat.le_of_ble_eq_true rfl) ?_
              refine V_ifb_eq (pc2 := 104) (tgt := 117) dX7_lays_101 (fun c101 => ?_) (fun c101 => ?_)
              · replace h := iF c101 h
                refine V_iload (pc2 := 119) dX7_lays_117 0 rfl ?_
                obtain ⟨e1, e2⟩ := inj2 h
                subst e1
                subst e2
                exact V_iret dX7_lays_119 rfl ⟨rfl, rfl⟩
              · replace h := iT c101 h
                refine V_aload (pc2 := 106) dX7_lays_104 1 rfl ?_
                obtain ⟨x21, e_x21, h⟩ := bS h
                refine V_gI (pc2 := 109) e_x21 dX7_lays_106 wF_7_69 ?_
                refine V_istore (pc2 := 111) (L2 := [(5, .int x21), (4, .ref r5), (0, .ref a0), (1, .int p0), (2, .int p1), (3, .int p2)]) dX7_lays_109 ?_ rfl rfl
                refine V_aload (pc2 := 113) dX7_lays_111 1 rfl ?_
                refine V_iload_n (pc2 := 114) dX7_lays_113 5 rfl rfl ?_
                obtain ⟨m22, e_m22, h⟩ := bS h
                refine V_pI (pc2 := 117) e_m22 dX7_lays_114 wP_7_69 rfl rfl ?_
                refine V_iload (pc2 := 119) dX7_lays_117 0 rfl ?_
                obtain ⟨e1, e2⟩ := inj2 h
                subst e1
                subst e2
                exact V_iret dX7_lays_119 rfl ⟨rfl, rfl⟩
          · replace h := iT c71 h
            refine V_aload (pc2 := 76) dX7_lays_74 1 rfl ?_
            obtain ⟨x23, e_x23, h⟩ := bS h
            refine V_gI (pc2 := 79) e_x23 dX7_lays_76 wF_7_66 ?_
            refine V_istore (pc2 := 81) (L2 := [(5, .int x23), (4, .ref r5), (0, .ref a0), (1, .int p0), (2, .int p1), (3, .int p2)]) dX7_lays_79 ?_ rfl rfl
            refine V_aload (pc2 := 83) dX7_lays_81 1 rfl ?_
            refine V_iload_n (pc2 := 84) dX7_lays_83 5 rfl rfl ?_
            obtain ⟨m24, e_m24, h⟩ := bS h
            refine V_pI (pc2 := 87) e_m24 dX7_lays_84 wP_7_66 rfl rfl ?_
            refine V_goto (tgt := 117) dX7_lays_87 ?_
            refine V_iload (pc2 := 119) dX7_lays_117 0 rfl ?_
            obtain ⟨e1, e2⟩ := inj2 h
            subst e1
            subst e2
            exact V_iret dX7_lays_119 rfl ⟨rfl, rfl⟩
      · replace h := iT c40 h
        refine V_aload (pc2 := 45) dX7_lays_43 1 rfl ?_
        obtain ⟨x25, e_x25, h⟩ := bS h
        refine V_gI (pc2 := 48) e_x25 dX7_lays_45 wF_7_61 ?_
        refine V_istore (pc2 := 50) (L2 := [(5, .int x25), (4, .ref r5), (0, .ref a0), (1, .int p0), (2, .int p1), (3, .int p2)]) dX7_lays_48 ?_ rfl rfl
        refine V_aload (pc2 := 52) dX7_lays_50 1 rfl ?_
        refine V_iload_n (pc2 := 53) dX7_lays_52 5 rfl rfl ?_
        obtain ⟨m26, e_m26, h⟩ := bS h
        refine V_pI (pc2 := 56) e_m26 dX7_lays_53 wP_7_61 rfl rfl ?_
        refine V_goto (tgt := 117) dX7_lays_56 ?_
        refine V_iload (pc2 := 119) dX7_lays_117 0 rfl ?_
        obtain ⟨e1, e2⟩ := inj2 h
        subst e1
        subst e2
        exact V_iret dX7_lays_119 rfl ⟨rfl, rfl⟩
  · replace h := iF c8 h
    refine V_ldc (v := -1000000001) (pc2 := 13) dX7_lays_11 wconstant_7_51 ?_
    obtain ⟨e1, e2⟩ := inj2 h
    subst e1
    subst e2
    exact V_iret dX7_lays_13 rfl ⟨rfl, rfl⟩
noncomputable def fX7_paper (a0 : Nat) (p0 : Int32) (m : Mem) : Option (Int32 × Mem) :=
  (fX7_within p0 (0 : Int32) (2 : Int32) m).bind fun b1 =>
  if b1 = true then
    (gR m a0 7 0).bind fun r2 =>
    (gI m r2 2 3).bind fun x3 =>
    if x3 < (20 : Int32) then
      (gR m a0 7 0).bind fun r4 =>
      (gR m r4 2 2).bind fun r5 =>
      (gR m a0 7 0).bind fun r6 =>
      (gI m r6 2 3).bind fun x7 =>
      (stI m r5 x7 p0).bind fun m8 =>
      (gR m8 a0 7 0).bind fun r9 =>
      (gI m8 r9 2 3).bind fun x10 =>
      (pI m8 r9 2 3 (x10 + (1 : Int32))).bind fun m11 =>
      (gR m11 a0 7 0).bind fun r12 =>
      (gI m11 r12 2 3).bind fun x13 =>
      some (x13 - (1 : Int32), m11)
    else
      some ((-1000000003 : Int32), m)
  else
    some ((-1000000001 : Int32), m)
set_option maxRecDepth 20000 in
theorem tX7_paper {D : Dat} {a0 : Nat} {p0 : Int32} {m : Mem} {rR : Int32} {mR : Mem} (h : fX7_paper a0 p0 m = some (rR, mR)) : T D 1 IX7_paper [.ref a0, .int p0] m 0 0 (Qi rR mR) := by
  refine T_of_V (by decide) (Nat.le_of_ble_eq_true rfl) ?_
  show V D 1 IX7_paper 0 [(0, .ref a0), (1, .int p0)] [] m 0 0 (Qi rR mR)
  unfold fX7_paper at h
  refine V_iload_n (pc2 := 1) dX7_paper_0 1 rfl rfl ?_
  refine V_iconst (v := 0) (pc2 := 2) dX7_paper_1 (by decide) ?_
  refine V_iconst (v := 2) (pc2 := 3) dX7_paper_2 (by decide) ?_
  obtain ⟨b1, e_b1, h⟩ := bS h
  refine V_cSi (pc2 := 6) [.int p0, .int (0 : Int32), .int (2 : Int32)] (st := []) (tX7_within e_b1) dX7_paper_3 wS_7_47 (by decide) rfl (Nat.le_of_ble_eq_true rfl) ?_
  refine V_ifb_ne (pc2 := 9) (tgt := 12) dX7_paper_6 (fun c6 => ?_) (fun c6 => ?_)
  · replace h := iT c6 h
    refine V_aload_n (pc2 := 13) dX7_paper_12 0 rfl rfl ?_
    obtain ⟨r2, e_r2, h⟩ := bS h
    refine V_gR (pc2 := 16) e_r2 dX7_paper_13 wF_7_10 ?_
    obtain ⟨x3, e_x3, h⟩ := bS h
    refine V_gI (pc2 := 19) e_x3 dX7_paper_16 wF_7_87 ?_
    refine V_bipush (v := 20) (pc2 := 21) dX7_paper_19 (by decide) ?_
    refine V_icmp_lt (pc2 := 24) (tgt := 27) dX7_paper_21 (fun c21 => ?_) (fun c21 => ?_)
    · replace h := iT c21 h
      refine V_aload_n (pc2 := 28) dX7_paper_27 0 rfl rfl ?_
      obtain ⟨r4, e_r4, h⟩ := bS h
      refine V_gR (pc2 := 31) e_r4 dX7_paper_28 wF_7_10 ?_
      obtain ⟨r5, e_r5, h⟩ := bS h
      refine V_gR (pc2 := 34) e_r5 dX7_paper_31 wF_7_90 ?_
      refine V_aload_n (pc2 := 35) dX7_paper_34 0 rfl rfl ?_
      obtain ⟨r6, e_r6, h⟩ := bS h
      refine V_gR (pc2 := 38) e_r6 dX7_paper_35 wF_7_10 ?_
      obtain ⟨x7, e_x7, h⟩ := bS h
      refine V_gI (pc2 := 41) e_x7 dX7_paper_38 wF_7_87 ?_
      refine V_iload_n (pc2 := 42) dX7_paper_41 1 rfl rfl ?_
      obtain ⟨m8, e_m8, h⟩ := bS h
      refine V_stI (pc2 := 43) e_m8 dX7_paper_42 ?_
      refine V_aload_n (pc2 := 44) dX7_paper_43 0 rfl rfl ?_
      obtain ⟨r9, e_r9, h⟩ := bS h
      refine V_gR (pc2 := 47) e_r9 dX7_paper_44 wF_7_10 ?_
      refine V_dup (pc2 := 48) dX7_paper_47 rfl ?_
      obtain ⟨x10, e_x10, h⟩ := bS h
      refine V_gI (pc2 := 51) e_x10 dX7_paper_48 wF_7_87 ?_
      refine V_iconst (v := 1) (pc2 := 52) dX7_paper_51 (by decide) ?_
      refine V_iadd (pc2 := 53) dX7_paper_52 ?_
      obtain ⟨m11, e_m11, h⟩ := bS h
      refine V_pI (pc2 := 56) e_m11 dX7_paper_53 wP_7_87 rfl rfl ?_
      refine V_aload_n (pc2 := 57) dX7_paper_56 0 rfl rfl ?_
      obtain ⟨r12, e_r12, h⟩ := bS h
      refine V_gR (pc2 := 60) e_r12 dX7_paper_57 wF_7_10 ?_
      obtain ⟨x13, e_x13, h⟩ := bS h
      refine V_gI (pc2 := 63) e_x13 dX7_paper_60 wF_7_87 ?_
      refine V_iconst (v := 1) (pc2 := 64) dX7_paper_63 (by decide) ?_
      refine V_isub (pc2 := 65) dX7_paper_64 ?_
      obtain ⟨e1, e2⟩ := inj2 h
      subst e1
      subst e2
      exact V_iret dX7_paper_65 rfl ⟨rfl, rfl⟩
    · replace h := iF c21 h
      refine V_ldc (v := -1000000003) (pc2 := 26) dX7_paper_24 wconstant_7_56 ?_
      obtain ⟨e1, e2⟩ := inj2 h
      subst e1
      subst e2
      exact V_iret dX7_paper_26 rfl ⟨rfl, rfl⟩
  · replace h := iF c6 h
    refine V_ldc (v := -1000000001) (pc2 := 11) dX7_paper_9 wconstant_7_51 ?_
    obtain ⟨e1, e2⟩ := inj2 h
    subst e1
    subst e2
    exact V_iret dX7_paper_11 rfl ⟨rfl, rfl⟩
noncomputable def fX7_sorts (a0 : Nat) (p0 : Int32) (p1 : Int32) (m : Mem) : Option (Int32 × Mem) :=
  (gR m a0 7 0).bind fun r1 =>
  (gI m r1 2 3).bind fun x2 =>
  (fX7_within p0 (0 : Int32) (x2 - (1 : Int32)) m).bind fun b3 =>
  if b3 = true then
    (fX7_within p1 (0 : Int32) (2 : Int32) m).bind fun b4 =>
    if b4 = true then
      (gR m a0 7 0).bind fun r5 =>
      (gR m r5 2 2).bind fun r6 =>
      (ldI m r6 p0).bind fun x7 =>
      (gR m a0 7 0).bind fun r8 =>
      (gR m r8 2 2).bind fun r9 =>
      (stI m r9 p0 p1).bind fun m10 =>
      some (x7, m10)
    else
      some ((-1000000001 : Int32), m)
  else
    some ((-1000000001 : Int32), m)
set_option maxRecDepth 20000 in
theorem tX7_sorts {D : Dat} {a0 : Nat} {p0 : Int32} {p1 : Int32} {m : Mem} {rR : Int32} {mR : Mem} (h : fX7_sorts a0 p0 p1 m = some (rR, mR)) : T D 1 IX7_sorts [.ref a0, .int p0, .int p1] m 0 0 (Qi rR mR) := by
  refine T_of_V (by decide) (Nat.le_of_ble_eq_true rfl) ?_
  show V D 1 IX7_sorts 0 [(0, .ref a0), (1, .int p0), (2, .int p1)] [] m 0 0 (Qi rR mR)
  unfold fX7_sorts at h
  refine V_iload_n (pc2 := 1) dX7_sorts_0 1 rfl rfl ?_
  refine V_iconst (v := 0) (pc2 := 2) dX7_sorts_1 (by decide) ?_
  refine V_aload_n (pc2 := 3) dX7_sorts_2 0 rfl rfl ?_
  obtain ⟨r1, e_r1, h⟩ := bS h
  refine V_gR (pc2 := 6) e_r1 dX7_sorts_3 wF_7_10 ?_
  obtain ⟨x2, e_x2, h⟩ := bS h
  refine V_gI (pc2 := 9) e_x2 dX7_sorts_6 wF_7_87 ?_
  refine V_iconst (v := 1) (pc2 := 10) dX7_sorts_9 (by decide) ?_
  refine V_isub (pc2 := 11) dX7_sorts_10 ?_
  obtain ⟨b3, e_b3, h⟩ := bS h
  refine V_cSi (pc2 := 14) [.int p0, .int (0 : Int32), .int (x2 - (1 : Int32))] (st := []) (tX7_within e_b3) dX7_sorts_11 wS_7_47 (by decide) rfl (Nat.le_of_ble_eq_true rfl) ?_
  refine V_ifb_eq (pc2 := 17) (tgt := 26) dX7_sorts_14 (fun c14 => ?_) (fun c14 => ?_)
  · replace h := iF c14 h
    refine V_ldc (v := -1000000001) (pc2 := 28) dX7_sorts_26 wconstant_7_51 ?_
    obtain ⟨e1, e2⟩ := inj2 h
    subst e1
    subst e2
    exact V_iret dX7_sorts_28 rfl ⟨rfl, rfl⟩
  · replace h := iT c14 h
    refine V_iload_n (pc2 := 18) dX7_sorts_17 2 rfl rfl ?_
    refine V_iconst (v := 0) (pc2 := 19) dX7_sorts_18 (by decide) ?_
    refine V_iconst (v := 2) (pc2 := 20) dX7_sorts_19 (by decide) ?_
    obtain ⟨b4, e_b4, h⟩ := bS h
    refine V_cSi (pc2 := 23) [.int p1, .int (0 : Int32), .int (2 : Int32)] (st := []) (tX7_within e_b4) dX7_sorts_20 wS_7_47 (by decide) rfl (Nat.le_of_ble_eq_true rfl) ?_
    refine V_ifb_ne (pc2 := 26) (tgt := 29) dX7_sorts_23 (fun c23 => ?_) (fun c23 => ?_)
    · replace h := iT c23 h
      refine V_aload_n (pc2 := 30) dX7_sorts_29 0 rfl rfl ?_
      obtain ⟨r5, e_r5, h⟩ := bS h
      refine V_gR (pc2 := 33) e_r5 dX7_sorts_30 wF_7_10 ?_
      obtain ⟨r6, e_r6, h⟩ := bS h
      refine V_gR (pc2 := 36) e_r6 dX7_sorts_33 wF_7_90 ?_
      refine V_iload_n (pc2 := 37) dX7_sorts_36 1 rfl rfl ?_
      obtain ⟨x7, e_x7, h⟩ := bS h
      refine V_ldI (pc2 := 38) e_x7 dX7_sorts_37 ?_
      refine V_istore_n (pc2 := 39) (L2 := [(3, .int x7), (0, .ref a0), (1, .int p0), (2, .int p1)]) dX7_sorts_38 ?_ rfl rfl rfl
      refine V_aload_n (pc2 := 40) dX7_sorts_39 1 rfl rfl ?_
      obtain ⟨r8, e_r8, h⟩ := bS h
      refine V_gR (pc2 := 43) e_r8 dX7_sorts_40 wF_7_10 ?_
      obtain ⟨r9, e_r9, h⟩ := bS h
      refine V_gR (pc2 := 46) e_r9 dX7_sorts_43 wF_7_90 ?_
      refine V_iload_n (pc2 := 47) dX7_sorts_46 2 rfl rfl ?_
      refine V_iload_n (pc2 := 48) dX7_sorts_47 3 rfl rfl ?_
      obtain ⟨m10, e_m10, h⟩ := bS h
      refine V_stI (pc2 := 49) e_m10 dX7_sorts_48 ?_
      refine V_iload_n (pc2 := 50) dX7_sorts_49 0 rfl rfl ?_
      obtain ⟨e1, e2⟩ := inj2 h
      subst e1
      subst e2
      exact V_iret dX7_sorts_50 rfl ⟨rfl, rfl⟩
    · replace h := iF c23 h
      refine V_ldc (v := -1000000001) (pc2 := 28) dX7_sorts_26 wconstant_7_51 ?_
      obtain ⟨e1, e2⟩ := inj2 h
      subst e1
      subst e2
      exact V_iret dX7_sorts_28 rfl ⟨rfl, rfl⟩
noncomputable def fX7_rule (a0 : Nat) (p0 : Int32) (p1 : Int32) (m : Mem) : Option (Int32 × Mem) :=
  if p0 = 0 then
    (fX7_within p1 (0 : Int32) (1 : Int32) m).bind fun b18 =>
    if b18 = true then
      (gR m a0 7 0).bind fun r36 =>
      (gI m r36 2 13).bind fun x37 =>
      (gR m a0 7 0).bind fun r38 =>
      (pI m r38 2 13 p1).bind fun m39 =>
      some (x37, m39)
    else
      if p0 = (1 : Int32) then
        (fX7_within p1 (0 : Int32) (1 : Int32) m).bind fun b25 =>
        if b25 = true then
          (gR m a0 7 0).bind fun r32 =>
          (gI m r32 2 11).bind fun x33 =>
          (gR m a0 7 0).bind fun r34 =>
          (pI m r34 2 11 p1).bind fun m35 =>
          some (x33, m35)
        else
          if p0 = (2 : Int32) then
            (gR m a0 7 0).bind fun r26 =>
            (cV m r26 2 (fX2_isChild r26 p1 m)).bind fun b27 =>
            if b27 = true then
              (gR m a0 7 0).bind fun r28 =>
              (gI m r28 2 12).bind fun x29 =>
              (gR m a0 7 0).bind fun r30 =>
              (pI m r30 2 12 p1).bind fun m31 =>
              some (x29, m31)
            else
              some ((-1000000001 : Int32), m)
          else
            some ((-1000000001 : Int32), m)
      else
        if p0 = (2 : Int32) then
          (gR m a0 7 0).bind fun r19 =>
          (cV m r19 2 (fX2_isChild r19 p1 m)).bind fun b20 =>
          if b20 = true then
            (gR m a0 7 0).bind fun r21 =>
            (gI m r21 2 12).bind fun x22 =>
            (gR m a0 7 0).bind fun r23 =>
            (pI m r23 2 12 p1).bind fun m24 =>
            some (x22, m24)
          else
            some ((-1000000001 : Int32), m)
        else
          some ((-1000000001 : Int32), m)
  else
    if p0 = (1 : Int32) then
      (fX7_within p1 (0 : Int32) (1 : Int32) m).bind fun b7 =>
      if b7 = true then
        (gR m a0 7 0).bind fun r14 =>
        (gI m r14 2 11).bind fun x15 =>
        (gR m a0 7 0).bind fun r16 =>
        (pI m r16 2 11 p1).bind fun m17 =>
        some (x15, m17)
      else
        if p0 = (2 : Int32) then
          (gR m a0 7 0).bind fun r8 =>
          (cV m r8 2 (fX2_isChild r8 p1 m)).bind fun b9 =>
          if b9 = true then
            (gR m a0 7 0).bind fun r10 =>
            (gI m r10 2 12).bind fun x11 =>
            (gR m a0 7 0).bind fun r12 =>
            (pI m r12 2 12 p1).bind fun m13 =>
            some (x11, m13)
          else
            some ((-1000000001 : Int32), m)
        else
          some ((-1000000001 : Int32), m)
    else
      if p0 = (2 : Int32) then
        (gR m a0 7 0).bind fun r1 =>
        (cV m r1 2 (fX2_isChild r1 p1 m)).bind fun b2 =>
        if b2 = true then
          (gR m a0 7 0).bind fun r3 =>
          (gI m r3 2 12).bind fun x4 =>
          (gR m a0 7 0).bind fun r5 =>
          (pI m r5 2 12 p1).bind fun m6 =>
          some (x4, m6)
        else
          some ((-1000000001 : Int32), m)
      else
        some ((-1000000001 : Int32), m)
set_option maxRecDepth 20000 in
theorem tX7_rule {D : Dat} {a0 : Nat} {p0 : Int32} {p1 : Int32} {m : Mem} {rR : Int32} {mR : Mem} (h : fX7_rule a0 p0 p1 m = some (rR, mR)) : T D 1 IX7_rule [.ref a0, .int p0, .int p1] m 0 0 (Qi rR mR) := by
  refine T_of_V (by decide) (Nat.le_of_ble_eq_true rfl) ?_
  show V D 1 IX7_rule 0 [(0, .ref a0), (1, .int p0), (2, .int p1)] [] m 0 0 (Qi rR mR)
  unfold fX7_rule at h
  refine V_ldc (v := -1000000001) (pc2 := 2) dX7_rule_0 wconstant_7_51 ?_
  refine V_istore_n (pc2 := 3) (L2 := [(3, .int (-1000000001 : Int32)), (0, .ref a0), (1, .int p0), (2, .int p1)]) dX7_rule_2 ?_ rfl rfl rfl
  refine V_iload_n (pc2 := 4) dX7_rule_3 2 rfl rfl ?_
  refine V_if_ne (pc2 := 7) (tgt := 35) dX7_rule_4 (fun c4 => ?_) (fun c4 => ?_)
  · replace h := iF c4 h
    refine V_iload_n (pc2 := 36) dX7_rule_35 2 rfl rfl ?_
    refine V_iconst (v := 1) (pc2 := 37) dX7_rule_36 (by decide) ?_
    refine V_icmp_ne (pc2 := 40) (tgt := 68) dX7_rule_37 (fun c37 => ?_) (fun c37 => ?_)
    · replace h := iF c37 h
      refine V_iload_n (pc2 := 69) dX7_rule_68 2 rfl rfl ?_
      refine V_iconst (v := 2) (pc2 := 70) dX7_rule_69 (by decide) ?_
      refine V_icmp_ne (pc2 := 73) (tgt := 100) dX7_rule_70 (fun c70 => ?_) (fun c70 => ?_)
      · replace h := iF c70 h
        refine V_iload_n (pc2 := 101) dX7_rule_100 0 rfl rfl ?_
        obtain ⟨e1, e2⟩ := inj2 h
        subst e1
        subst e2
        exact V_iret dX7_rule_101 rfl ⟨rfl, rfl⟩
      · replace h := iT c70 h
        refine V_aload_n (pc2 := 74) dX7_rule_73 1 rfl rfl ?_
        obtain ⟨r1, e_r1, h⟩ := bS h
        refine V_gR (pc2 := 77) e_r1 dX7_rule_74 wF_7_10 ?_
        refine V_iload_n (pc2 := 78) dX7_rule_77 3 rfl rfl ?_
        obtain ⟨b2, e_b2, h⟩ := bS h
        obtain ⟨⟨fs_b2, o_b2⟩, e_b2⟩ := cV_of e_b2
        refine V_cVi (pc2 := 81) [.int p1] (st := []) o_b2 (tX2_isChild e_b2) dX7_rule_78 wV_7_72 (by decide) rfl (Nat.le_of_ble_eq_true rfl) ?_
        refine V_ifb_eq (pc2 := 84) (tgt := 100) dX7_rule_81 (fun c81 => ?_) (fun c81 => ?_)
        · replace h := iF c81 h
          refine V_iload_n (pc2 := 101) dX7_rule_100 0 rfl rfl ?_
          obtain ⟨e1, e2⟩ := inj2 h
          subst e1
          subst e2
          exact V_iret dX7_rule_101 rfl ⟨rfl, rfl⟩
        · replace h := iT c81 h
          refine V_aload_n (pc2 := 85) dX7_rule_84 1 rfl rfl ?_
          obtain ⟨r3, e_r3, h⟩ := bS h
          refine V_gR (pc2 := 88) e_r3 dX7_rule_85 wF_7_10 ?_
          obtain ⟨x4, e_x4, h⟩ := bS h
          refine V_gI (pc2 := 91) e_x4 dX7_rule_88 wF_7_99 ?_
          refine V_istore_n (pc2 := 92) (L2 := [(3, .int x4), (0, .ref a0), (1, .int p0), (2, .int p1)]) dX7_rule_91 ?_ rfl rfl rfl
          refine V_aload_n (pc2 := 93) dX7_rule_92 1 rfl rfl ?_
          obtain ⟨r5, e_r5, h⟩ := bS h
          refine V_gR (pc2 := 96) e_r5 dX7_rule_93 wF_7_10 ?_
          refine V_iload_n (pc2 := 97) dX7_rule_96 3 rfl rfl ?_
          obtain ⟨m6, e_m6, h⟩ := bS h
          refine V_pI (pc2 := 100) e_m6 dX7_rule_97 wP_7_99 rfl rfl ?_
          refine V_iload_n (pc2 := 101) dX7_rule_100 0 rfl rfl ?_
          obtain ⟨e1, e2⟩ := inj2 h
          subst e1
          subst e2
          exact V_iret dX7_rule_101 rfl ⟨rfl, rfl⟩
    · replace h := iT c37 h
      refine V_iload_n (pc2 := 41) dX7_rule_40 3 rfl rfl ?_
      refine V_iconst (v := 0) (pc2 := 42) dX7_rule_41 (by decide) ?_
      refine V_iconst (v := 1) (pc2 := 43) dX7_rule_42 (by decide) ?_
      obtain ⟨b7, e_b7, h⟩ := bS h
      refine V_cSi (pc2 := 46) [.int p1, .int (0 : Int32), .int (1 : Int32)] (st := []) (tX7_within e_b7) dX7_rule_43 wS_7_47 (by decide) rfl (Nat.le_of_ble_eq_true rfl) ?_
      refine V_ifb_eq (pc2 := 49) (tgt := 68) dX7_rule_46 (fun c46 => ?_) (fun c46 => ?_)
      · replace h := iF c46 h
        refine V_iload_n (pc2 := 69) dX7_rule_68 2 rfl rfl ?_
        refine V_iconst (v := 2) (pc2 := 70) dX7_rule_69 (by decide) ?_
        refine V_icmp_ne (pc2 := 73) (tgt := 100) dX7_rule_70 (fun c70 => ?_) (fun c70 => ?_)
        · replace h := iF c70 h
          refine V_iload_n (pc2 := 101) dX7_rule_100 0 rfl rfl ?_
          obtain ⟨e1, e2⟩ := inj2 h
          subst e1
          subst e2
          exact V_iret dX7_rule_101 rfl ⟨rfl, rfl⟩
        · replace h := iT c70 h
          refine V_aload_n (pc2 := 74) dX7_rule_73 1 rfl rfl ?_
          obtain ⟨r8, e_r8, h⟩ := bS h
          refine V_gR (pc2 := 77) e_r8 dX7_rule_74 wF_7_10 ?_
          refine V_iload_n (pc2 := 78) dX7_rule_77 3 rfl rfl ?_
          obtain ⟨b9, e_b9, h⟩ := bS h
          obtain ⟨⟨fs_b9, o_b9⟩, e_b9⟩ := cV_of e_b9
          refine V_cVi (pc2 := 81) [.int p1] (st := []) o_b9 (tX2_isChild e_b9) dX7_rule_78 wV_7_72 (by decide) rfl (Nat.le_of_ble_eq_true rfl) ?_
          refine V_ifb_eq (pc2 := 84) (tgt := 100) dX7_rule_81 (fun c81 => ?_) (fun c81 => ?_)
          · replace h := iF c81 h
            refine V_iload_n (pc2 := 101) dX7_rule_100 0 rfl rfl ?_
            obtain ⟨e1, e2⟩ := inj2 h
            subst e1
            subst e2
            exact V_iret dX7_rule_101 rfl ⟨rfl, rfl⟩
          · replace h := iT c81 h
            refine V_aload_n (pc2 := 85) dX7_rule_84 1 rfl rfl ?_
            obtain ⟨r10, e_r10, h⟩ := bS h
            refine V_gR (pc2 := 88) e_r10 dX7_rule_85 wF_7_10 ?_
            obtain ⟨x11, e_x11, h⟩ := bS h
            refine V_gI (pc2 := 91) e_x11 dX7_rule_88 wF_7_99 ?_
            refine V_istore_n (pc2 := 92) (L2 := [(3, .int x11), (0, .ref a0), (1, .int p0), (2, .int p1)]) dX7_rule_91 ?_ rfl rfl rfl
            refine V_aload_n (pc2 := 93) dX7_rule_92 1 rfl rfl ?_
            obtain ⟨r12, e_r12, h⟩ := bS h
            refine V_gR (pc2 := 96) e_r12 dX7_rule_93 wF_7_10 ?_
            refine V_iload_n (pc2 := 97) dX7_rule_96 3 rfl rfl ?_
            obtain ⟨m13, e_m13, h⟩ := bS h
            refine V_pI (pc2 := 100) e_m13 dX7_rule_97 wP_7_99 rfl rfl ?_
            refine V_iload_n (pc2 := 101) dX7_rule_100 0 rfl rfl ?_
            obtain ⟨e1, e2⟩ := inj2 h
            subst e1
            subst e2
            exact V_iret dX7_rule_101 rfl ⟨rfl, rfl⟩
      · replace h := iT c46 h
        refine V_aload_n (pc2 := 50) dX7_rule_49 1 rfl rfl ?_
        obtain ⟨r14, e_r14, h⟩ := bS h
        refine V_gR (pc2 := 53) e_r14 dX7_rule_50 wF_7_10 ?_
        obtain ⟨x15, e_x15, h⟩ := bS h
        refine V_gI (pc2 := 56) e_x15 dX7_rule_53 wF_7_96 ?_
        refine V_istore_n (pc2 := 57) (L2 := [(3, .int x15), (0, .ref a0), (1, .int p0), (2, .int p1)]) dX7_rule_56 ?_ rfl rfl rfl
        refine V_aload_n (pc2 := 58) dX7_rule_57 1 rfl rfl ?_
        obtain ⟨r16, e_r16, h⟩ := bS h
        refine V_gR (pc2 := 61) e_r16 dX7_rule_58 wF_7_10 ?_
        refine V_iload_n (pc2 := 62) dX7_rule_61 3 rfl rfl ?_
        obtain ⟨m17, e_m17, h⟩ := bS h
        refine V_pI (pc2 := 65) e_m17 dX7_rule_62 wP_7_96 rfl rfl ?_
        refine V_goto (tgt := 100) dX7_rule_65 ?_
        refine V_iload_n (pc2 := 101) dX7_rule_100 0 rfl rfl ?_
        obtain ⟨e1, e2⟩ := inj2 h
        subst e1
        subst e2
        exact V_iret dX7_rule_101 rfl ⟨rfl, rfl⟩
  · replace h := iT c4 h
    refine V_iload_n (pc2 := 8) dX7_rule_7 3 rfl rfl ?_
    refine V_iconst (v := 0) (pc2 := 9) dX7_rule_8 (by decide) ?_
    refine V_iconst (v := 1) (pc2 := 10) dX7_rule_9 (by decide) ?_
    obtain ⟨b18, e_b18, h⟩ := bS h
    refine V_cSi (pc2 := 13) [.int p1, .int (0 : Int32), .int (1 : Int32)] (st := []) (tX7_within e_b18) dX7_rule_10 wS_7_47 (by decide) rfl (Nat.le_of_ble_eq_true rfl) ?_
    refine V_ifb_eq (pc2 := 16) (tgt := 35) dX7_rule_13 (fun c13 => ?_) (fun c13 => ?_)
    · replace h := iF c13 h
      refine V_iload_n (pc2 := 36) dX7_rule_35 2 rfl rfl ?_
      refine V_iconst (v := 1) (pc2 := 37) dX7_rule_36 (by decide) ?_
      refine V_icmp_ne (pc2 := 40) (tgt := 68) dX7_rule_37 (fun c37 => ?_) (fun c37 => ?_)
      · replace h := iF c37 h
        refine V_iload_n (pc2 := 69) dX7_rule_68 2 rfl rfl ?_
        refine V_iconst (v := 2) (pc2 := 70) dX7_rule_69 (by decide) ?_
        refine V_icmp_ne (pc2 := 73) (tgt := 100) dX7_rule_70 (fun c70 => ?_) (fun c70 => ?_)
        · replace h := iF c70 h
          refine V_iload_n (pc2 := 101) dX7_rule_100 0 rfl rfl ?_
          obtain ⟨e1, e2⟩ := inj2 h
          subst e1
          subst e2
          exact V_iret dX7_rule_101 rfl ⟨rfl, rfl⟩
        · replace h := iT c70 h
          refine V_aload_n (pc2 := 74) dX7_rule_73 1 rfl rfl ?_
          obtain ⟨r19, e_r19, h⟩ := bS h
          refine V_gR (pc2 := 77) e_r19 dX7_rule_74 wF_7_10 ?_
          refine V_iload_n (pc2 := 78) dX7_rule_77 3 rfl rfl ?_
          obtain ⟨b20, e_b20, h⟩ := bS h
          obtain ⟨⟨fs_b20, o_b20⟩, e_b20⟩ := cV_of e_b20
          refine V_cVi (pc2 := 81) [.int p1] (st := []) o_b20 (tX2_isChild e_b20) dX7_rule_78 wV_7_72 (by decide) rfl (Nat.le_of_ble_eq_true rfl) ?_
          refine V_ifb_eq (pc2 := 84) (tgt := 100) dX7_rule_81 (fun c81 => ?_) (fun c81 => ?_)
          · replace h := iF c81 h
            refine V_iload_n (pc2 := 101) dX7_rule_100 0 rfl rfl ?_
            obtain ⟨e1, e2⟩ := inj2 h
            subst e1
            subst e2
            exact V_iret dX7_rule_101 rfl ⟨rfl, rfl⟩
          · replace h := iT c81 h
            refine V_aload_n (pc2 := 85) dX7_rule_84 1 rfl rfl ?_
            obtain ⟨r21, e_r21, h⟩ := bS h
            refine V_gR (pc2 := 88) e_r21 dX7_rule_85 wF_7_10 ?_
            obtain ⟨x22, e_x22, h⟩ := bS h
            refine V_gI (pc2 := 91) e_x22 dX7_rule_88 wF_7_99 ?_
            refine V_istore_n (pc2 := 92) (L2 := [(3, .int x22), (0, .ref a0), (1, .int p0), (2, .int p1)]) dX7_rule_91 ?_ rfl rfl rfl
            refine V_aload_n (pc2 := 93) dX7_rule_92 1 rfl rfl ?_
            obtain ⟨r23, e_r23, h⟩ := bS h
            refine V_gR (pc2 := 96) e_r23 dX7_rule_93 wF_7_10 ?_
            refine V_iload_n (pc2 := 97) dX7_rule_96 3 rfl rfl ?_
            obtain ⟨m24, e_m24, h⟩ := bS h
            refine V_pI (pc2 := 100) e_m24 dX7_rule_97 wP_7_99 rfl rfl ?_
            refine V_iload_n (pc2 := 101) dX7_rule_100 0 rfl rfl ?_
            obtain ⟨e1, e2⟩ := inj2 h
            subst e1
            subst e2
            exact V_iret dX7_rule_101 rfl ⟨rfl, rfl⟩
      · replace h := iT c37 h
        refine V_iload_n (pc2 := 41) dX7_rule_40 3 rfl rfl ?_
        refine V_iconst (v := 0) (pc2 := 42) dX7_rule_41 (by decide) ?_
        refine V_iconst (v := 1) (pc2 := 43) dX7_rule_42 (by decide) ?_
        obtain ⟨b25, e_b25, h⟩ := bS h
        refine V_cSi (pc2 := 46) [.int p1, .int (0 : Int32), .int (1 : Int32)] (st := []) (tX7_within e_b25) dX7_rule_43 wS_7_47 (by decide) rfl (Nat.le_of_ble_eq_true rfl) ?_
        refine V_ifb_eq (pc2 := 49) (tgt := 68) dX7_rule_46 (fun c46 => ?_) (fun c46 => ?_)
        · replace h := iF c46 h
          refine V_iload_n (pc2 := 69) dX7_rule_68 2 rfl rfl ?_
          refine V_iconst (v := 2) (pc2 := 70) dX7_rule_69 (by decide) ?_
          refine V_icmp_ne (pc2 := 73) (tgt := 100) dX7_rule_70 (fun c70 => ?_) (fun c70 => ?_)
          · replace h := iF c70 h
            refine V_iload_n (pc2 := 101) dX7_rule_100 0 rfl rfl ?_
            obtain ⟨e1, e2⟩ := inj2 h
            subst e1
            subst e2
            exact V_iret dX7_rule_101 rfl ⟨rfl, rfl⟩
          · replace h := iT c70 h
            refine V_aload_n (pc2 := 74) dX7_rule_73 1 rfl rfl ?_
            obtain ⟨r26, e_r26, h⟩ := bS h
            refine V_gR (pc2 := 77) e_r26 dX7_rule_74 wF_7_10 ?_
            refine V_iload_n (pc2 := 78) dX7_rule_77 3 rfl rfl ?_
            obtain ⟨b27, e_b27, h⟩ := bS h
            obtain ⟨⟨fs_b27, o_b27⟩, e_b27⟩ := cV_of e_b27
            refine V_cVi (pc2 := 81) [.int p1] (st := []) o_b27 (tX2_isChild e_b27) dX7_rule_78 wV_7_72 (by decide) rfl (Nat.le_of_ble_eq_true rfl) ?_
            refine V_ifb_eq (pc2 := 84) (tgt := 100) dX7_rule_81 (fun c81 => ?_) (fun c81 => ?_)
            · replace h := iF c81 h
              refine V_iload_n (pc2 := 101) dX7_rule_100 0 rfl rfl ?_
              obtain ⟨e1, e2⟩ := inj2 h
              subst e1
              subst e2
              exact V_iret dX7_rule_101 rfl ⟨rfl, rfl⟩
            · replace h := iT c81 h
              refine V_aload_n (pc2 := 85) dX7_rule_84 1 rfl rfl ?_
              obtain ⟨r28, e_r28, h⟩ := bS h
              refine V_gR (pc2 := 88) e_r28 dX7_rule_85 wF_7_10 ?_
              obtain ⟨x29, e_x29, h⟩ := bS h
              refine V_gI (pc2 := 91) e_x29 dX7_rule_88 wF_7_99 ?_
              refine V_istore_n (pc2 := 92) (L2 := [(3, .int x29), (0, .ref a0), (1, .int p0), (2, .int p1)]) dX7_rule_91 ?_ rfl rfl rfl
              refine V_aload_n (pc2 := 93) dX7_rule_92 1 rfl rfl ?_
              obtain ⟨r30, e_r30, h⟩ := bS h
              refine V_gR (pc2 := 96) e_r30 dX7_rule_93 wF_7_10 ?_
              refine V_iload_n (pc2 := 97) dX7_rule_96 3 rfl rfl ?_
              obtain ⟨m31, e_m31, h⟩ := bS h
              refine V_pI (pc2 := 100) e_m31 dX7_rule_97 wP_7_99 rfl rfl ?_
              refine V_iload_n (pc2 := 101) dX7_rule_100 0 rfl rfl ?_
              obtain ⟨e1, e2⟩ := inj2 h
              subst e1
              subst e2
              exact V_iret dX7_rule_101 rfl ⟨rfl, rfl⟩
        · replace h := iT c46 h
          refine V_aload_n (pc2 := 50) dX7_rule_49 1 rfl rfl ?_
          obtain ⟨r32, e_r32, h⟩ := bS h
          refine V_gR (pc2 := 53) e_r32 dX7_rule_50 wF_7_10 ?_
          obtain ⟨x33, e_x33, h⟩ := bS h
          refine V_gI (pc2 := 56) e_x33 dX7_rule_53 wF_7_96 ?_
          refine V_istore_n (pc2 := 57) (L2 := [(3, .int x33), (0, .ref a0), (1, .int p0), (2, .int p1)]) dX7_rule_56 ?_ rfl rfl rfl
          refine V_aload_n (pc2 := 58) dX7_rule_57 1 rfl rfl ?_
          obtain ⟨r34, e_r34, h⟩ := bS h
          refine V_gR (pc2 := 61) e_r34 dX7_rule_58 wF_7_10 ?_
          refine V_iload_n (pc2 := 62) dX7_rule_61 3 rfl rfl ?_
          obtain ⟨m35, e_m35, h⟩ := bS h
          refine V_pI (pc2 := 65) e_m35 dX7_rule_62 wP_7_96 rfl rfl ?_
          refine V_goto (tgt := 100) dX7_rule_65 ?_
          refine V_iload_n (pc2 := 101) dX7_rule_100 0 rfl rfl ?_
          obtain ⟨e1, e2⟩ := inj2 h
          subst e1
          subst e2
          exact V_iret dX7_rule_101 rfl ⟨rfl, rfl⟩
    · replace h := iT c13 h
      refine V_aload_n (pc2 := 17) dX7_rule_16 1 rfl rfl ?_
      obtain ⟨r36, e_r36, h⟩ := bS h
      refine V_gR (pc2 := 20) e_r36 dX7_rule_17 wF_7_10 ?_
      obtain ⟨x37, e_x37, h⟩ := bS h
      refine V_gI (pc2 := 23) e_x37 dX7_rule_20 wF_7_93 ?_
      refine V_istore_n (pc2 := 24) (L2 := [(3, .int x37), (0, .ref a0), (1, .int p0), (2, .int p1)]) dX7_rule_23 ?_ rfl rfl rfl
      refine V_aload_n (pc2 := 25) dX7_rule_24 1 rfl rfl ?_
      obtain ⟨r38, e_r38, h⟩ := bS h
      refine V_gR (pc2 := 28) e_r38 dX7_rule_25 wF_7_10 ?_
      refine V_iload_n (pc2 := 29) dX7_rule_28 3 rfl rfl ?_
      obtain ⟨m39, e_m39, h⟩ := bS h
      refine V_pI (pc2 := 32) e_m39 dX7_rule_29 wP_7_93 rfl rfl ?_
      refine V_goto (tgt := 100) dX7_rule_32 ?_
      refine V_iload_n (pc2 := 101) dX7_rule_100 0 rfl rfl ?_
      obtain ⟨e1, e2⟩ := inj2 h
      subst e1
      subst e2
      exact V_iret dX7_rule_101 rfl ⟨rfl, rfl⟩
