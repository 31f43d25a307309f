noncomputable def fX7_filmed_b0 (a0 : Nat) (p0 : Int32) : Int32 × Int32 × Int32 × Mem → Option ((Int32 × Int32 × Int32 × Mem) ⊕ (Int32 × Int32 × Mem)) := fun (y6, y7, y8, m9) =>
  if (40 : Int32) < y8 then
    some (.inr (y6, y7, m9))
  else
    (gR m9 a0 7 5).bind fun r10 =>
    (ldR m9 r10 4 p0).bind fun r11 =>
    (cV m9 a0 7 (fX7_wrongPlaces a0 r11 y8 m9)).bind fun (x12, m13) =>
    (
      if y7 ≤ x12 then
        some (y6, y7)
      else
        some (y8, x12)).bind fun (y14, y15) =>
    some (.inl (y14, y15, y8 + (1 : Int32), m13))
noncomputable def fX7_filmed (a0 : Nat) (p0 : Int32) (p1 : Int32) (m : Mem) : Option (Int32 × Mem) :=
  (fX7_isSheet p0 m).bind fun b1 =>
  if b1 = true then
    (fX7_within p1 (0 : Int32) (1 : Int32) m).bind fun b2 =>
    if b2 = true then
      (gR m a0 7 5).bind fun r3 =>
      (ldR m r3 4 p0).bind fun r4 =>
      (gI m r4 3 0).bind fun x5 =>
      if x5 = (-1 : Int32) then
        some ((-1000000011 : Int32), m)
      else
        (loopF (fX7_filmed_b0 a0 p0) bigN ((0 : Int32), (25 : Int32), (0 : Int32), m)).bind fun (y16, y17, m18) =>
        if p1 = 0 then
          some (y16, m18)
        else
          some (y17, m18)
    else
      some ((-1000000001 : Int32), m)
  else
    some ((-1000000001 : Int32), m)
set_option maxRecDepth 20000 in
theorem tX7_filmed {D : Dat} {a0 : Nat} {p0 : Int32} {p1 : Int32} {m : Mem} {rR : Int32} {mR : Mem} (h : fX7_filmed a0 p0 p1 m = some (rR, mR)) : T D 6 IX7_filmed [.ref a0, .int p0, .int p1] m 0 0 (Qi rR mR) := by
  refine T_of_V (by decide) (Nat.le_of_ble_eq_true rfl) ?_
  show V D 6 IX7_filmed 0 [(0, .ref a0), (1, .int p0), (2, .int p1)] [] m 0 0 (Qi rR mR)
  unfold fX7_filmed at h
  refine V_iload_n (pc2 := 1) dX7_filmed_0 1 rfl rfl ?_
  obtain ⟨b1, e_b1, h⟩ := bS h
  refine V_cSi (pc2 := 4) [.int p0] (st := []) (tX7_isSheet e_b1) dX7_filmed_1 wS_7_206 (by decide) rfl (Nat.le_of_ble_eq_true rfl) ?_
  refine V_ifb_eq (pc2 := 7) (tgt := 16) dX7_filmed_4 (fun c4 => ?_) (fun c4 => ?_)
  · replace h := iF c4 h
    refine V_ldc (v := -1000000001) (pc2 := 18) dX7_filmed_16 wconstant_7_51 ?_
    obtain ⟨e1, e2⟩ := inj2 h
    subst e1
    subst e2
    exact V_iret dX7_filmed_18 rfl ⟨rfl, rfl⟩
  · replace h := iT c4 h
    refine V_iload_n (pc2 := 8) dX7_filmed_7 2 rfl rfl ?_
    refine V_iconst (v := 0) (pc2 := 9) dX7_filmed_8 (by decide) ?_
    refine V_iconst (v := 1) (pc2 := 10) dX7_filmed_9 (by decide) ?_
    obtain ⟨b2, e_b2, h⟩ := bS h
    refine V_cSi (pc2 := 13) [.int p1, .int (0 : Int32), .int (1 : Int32)] (st := []) (tX7_within e_b2) dX7_filmed_10 wS_7_47 (by decide) rfl (Nat.le_of_ble_eq_true rfl) ?_
    refine V_ifb_ne (pc2 := 16) (tgt := 19) dX7_filmed_13 (fun c13 => ?_) (fun c13 => ?_)
    · replace h := iT c13 h
      refine V_aload_n (pc2 := 20) dX7_filmed_19 0 rfl rfl ?_
      obtain ⟨r3, e_r3, h⟩ := bS h
      refine V_gR (pc2 := 23) e_r3 dX7_filmed_20 wF_7_31 ?_
      refine V_iload_n (pc2 := 24) dX7_filmed_23 1 rfl rfl ?_
      obtain ⟨r4, e_r4, h⟩ := bS h
      refine V_ldR (pc2 := 25) e_r4 dX7_filmed_24 rfl ?_
      obtain ⟨x5, e_x5, h⟩ := bS h
      refine V_gI (pc2 := 28) e_x5 dX7_filmed_25 wF_7_209 ?_
      refine V_iconst (v := -1) (pc2 := 29) dX7_filmed_28 (by decide) ?_
      refine V_icmp_ne (pc2 := 32) (tgt := 35) dX7_filmed_29 (fun c29 => ?_) (fun c29 => ?_)
      · replace h := iF c29 h
        refine V_iconst (v := 0) (pc2 := 36) dX7_filmed_35 (by decide) ?_
        refine V_istore_n (pc2 := 37) (L2 := [(3, .int (0 : Int32)), (0, .ref a0), (1, .int p0), (2, .int p1)]) dX7_filmed_36 ?_ rfl rfl rfl
        refine V_bipush (v := 25) (pc2 := 39) dX7_filmed_37 (by decide) ?_
        refine V_istore (pc2 := 41) (L2 := [(4, .int (25 : Int32)), (3, .int (0 : Int32)), (0, .ref a0), (1, .int p0), (2, .int p1)]) dX7_filmed_39 ?_ rfl rfl
        refine V_iconst (v := 0) (pc2 := 42) dX7_filmed_41 (by decide) ?_
        refine V_istore (pc2 := 44) (L2 := [(5, .int (0 : Int32)), (4, .int (25 : Int32)), (3, .int (0 : Int32)), (0, .ref a0), (1, .int p0), (2, .int p1)]) dX7_filmed_42 ?_ rfl rfl
        obtain ⟨⟨y16, y17, m18⟩, hl, h⟩ := bS h
        try dsimp only at h
        have hJ85 : V D 6 IX7_filmed 85 [(2, .int p1), (3, .int y16), (4, .int y17)] [] m18 0 0 (Qi rR mR) := by
          refine V_iload_n (pc2 := 86) dX7_filmed_85 0 rfl rfl ?_
          refine V_if_ne (pc2 := 89) (tgt := 93) dX7_filmed_86 (fun c86 => ?_) (fun c86 => ?_)
          · replace h := iF c86 h
            refine V_iload (pc2 := 95) dX7_filmed_93 2 rfl ?_
            obtain ⟨e1, e2⟩ := inj2 h
            subst e1
            subst e2
            exact V_iret dX7_filmed_95 rfl ⟨rfl, rfl⟩
          · replace h := iT c86 h
            refine V_iload_n (pc2 := 90) dX7_filmed_89 1 rfl rfl ?_
            refine V_goto (tgt := 95) dX7_filmed_90 ?_
            obtain ⟨e1, e2⟩ := inj2 h
            subst e1
            subst e2
            exact V_iret dX7_filmed_95 rfl ⟨rfl, rfl⟩
        clear h
        have key44 : ∀ (n : Nat) (y6 : Int32) (y7 : Int32) (y8 : Int32) (m9 : Mem), loopF (fX7_filmed_b0 a0 p0) n (y6, y7, y8, m9) = some (y16, y17, m18) → V D 6 IX7_filmed 44 [(0, .ref a0), (1, .int p0), (2, .int p1), (3, .int y6), (4, .int y7), (5, .int y8)] [] m9 0 0 (Qi rR mR) := by
          intro n
          induction n with
          | zero => intro y6 y7 y8 m9 h; cases h
          | succ n ih =>
            intro y6 y7 y8 m9 h
            obtain ⟨o, h, ho⟩ := loopF_inv h
            dsimp only [fX7_filmed_b0] at h
            refine V_iload (pc2 := 46) dX7_filmed_44 5 rfl ?_
            refine V_bipush (v := 40) (pc2 := 48) dX7_filmed_46 (by decide) ?_
            refine V_icmp_gt (pc2 := 51) (tgt := 85) dX7_filmed_48 (fun c48 => ?_) (fun c48 => ?_)
            · replace h := iT c48 h
              have ee := inj1 h
              subst ee
              obtain ⟨e1, e2, e3⟩ := pinj3 (loopF_e ho)
              subst e1
              subst e2
              subst e3
              exact V_lv hJ85 [2, 3, 4] rfl
            · replace h := iF c48 h
              refine V_aload_n (pc2 := 52) dX7_filmed_51 0 rfl rfl ?_
              refine V_aload_n (pc2 := 53) dX7_filmed_52 0 rfl rfl ?_
              obtain ⟨r10, e_r10, h⟩ := bS h
              refine V_gR (pc2 := 56) e_r10 dX7_filmed_53 wF_7_31 ?_
              refine V_iload_n (pc2 := 57) dX7_filmed_56 1 rfl rfl ?_
              obtain ⟨r11, e_r11, h⟩ := bS h
              refine V_ldR (pc2 := 58) e_r11 dX7_filmed_57 rfl ?_
              refine V_iload (pc2 := 60) dX7_filmed_58 5 rfl ?_
              obtain ⟨⟨x12, m13⟩, e_x12, h⟩ := bS h
              try dsimp only at h
              obtain ⟨⟨fs_x12, o_x12⟩, e_x12⟩ := cV_of e_x12
              refine V_cVi (pc2 := 63) [.ref r11, .int y8] (st := []) o_x12 (tX7_wrongPlaces e_x12) dX7_filmed_60 wV_7_213 (by decide) rfl (Nat.le_of_ble_eq_true rfl) ?_
              refine V_istore (pc2 := 65) (L2 := [(6, .int x12), (0, .ref a0), (1, .int p0), (2, .int p1), (3, .int y6), (4, .int y7), (5, .int y8)]) dX7_filmed_63 ?_ rfl rfl
              refine V_iload (pc2 := 67) dX7_filmed_65 0 rfl ?_
              refine V_iload (pc2 := 69) dX7_filmed_67 5 rfl ?_
              obtain ⟨⟨y14, y15⟩, hb, h⟩ := bS h
              try dsimp only at h
              have hJ79 : V D 6 IX7_filmed 79 [(0, .ref a0), (1, .int p0), (2, .int p1), (3, .int y14), (4, .int y15), (5, .int y8)] [] m13 0 0 (Qi rR mR) := by
                refine V_iinc (pc2 := 82) (v := y8 + (1 : Int32)) (L2 := [(5, .int (y8 + (1 : Int32))), (0, .ref a0), (1, .int p0), (2, .int p1), (3, .int y14), (4, .int y15)]) dX7_filmed_79 5 rfl (by rfl) ?_ rfl rfl
                refine V_goto (tgt := 44) dX7_filmed_82 ?_
                have ee := inj1 h
                subst ee
                exact V_lv (ih _ _ _ _ (loopF_c ho)) [1, 2, 3, 4, 5, 0] rfl
              clear h
              have h := hb
              clear hb
              refine V_icmp_ge (pc2 := 72) (tgt := 79) dX7_filmed_69 (fun c69 => ?_) (fun c69 => ?_)
              · replace h := iT c69 h
                obtain ⟨e1, e2⟩ := inj2 h
                subst e1
                subst e2
                exact V_lv hJ79 [1, 2, 3, 4, 5, 6] rfl
              · replace h := iF c69 h
                refine V_iload (pc2 := 74) dX7_filmed_72 6 rfl ?_
                refine V_istore_n (pc2 := 75) (L2 := [(3, .int y8), (6, .int x12), (0, .ref a0), (1, .int p0), (2, .int p1), (4, .int y7), (5, .int y8)]) dX7_filmed_74 ?_ rfl rfl rfl
                refine V_iload (pc2 := 77) dX7_filmed_75 1 rfl ?_
                refine V_istore (pc2 := 79) (L2 := [(4, .int x12), (3, .int y8), (6, .int x12), (0, .ref a0), (1, .int p0), (2, .int p1), (5, .int y8)]) dX7_filmed_77 ?_ rfl rfl
                obtain ⟨e1, e2⟩ := inj2 h
                subst e1
                subst e2
                exact V_lv hJ79 [3, 4, 5, 1, 0, 6] rfl
        exact V_lv (key44 _ _ _ _ _ hl) [3, 4, 5, 2, 1, 0] rfl
      · replace h := iT c29 h
        refine V_ldc (v := -1000000011) (pc2 := 34) dX7_filmed_32 wconstant_7_212 ?_
        obtain ⟨e1, e2⟩ := inj2 h
        subst e1
        subst e2
        exact V_iret dX7_filmed_34 rfl ⟨rfl, rfl⟩
    · replace h := iF c13 h
      refine V_ldc (v := -1000000001) (pc2 := 18) dX7_filmed_16 wconstant_7_51 ?_
      obtain ⟨e1, e2⟩ := inj2 h
      subst e1
      subst e2
      exact V_iret dX7_filmed_18 rfl ⟨rfl, rfl⟩
noncomputable def fX2_fineOf (a0 : Nat) (p0 : Nat) (m : Mem) : Option (Int32 × Mem) :=
  (cV m a0 2 (fX2_lawOf a0 (2 : Int32) m)).bind fun r1 =>
  match r1 with
  | none =>
    (gI m p0 0 1).bind fun x3 =>
    some (x3, m)
  | some q2 =>
    (gI m p0 0 1).bind fun x4 =>
    (gI m a0 2 10).bind fun x5 =>
    (cV m q2 6 (fX6_value q2 x4 x5 (0 : Int32) m)).bind fun (x6, m7) =>
    some (x6, m7)
set_option maxRecDepth 20000 in
theorem tX2_fineOf {D : Dat} {a0 : Nat} {p0 : Nat} {m : Mem} {rR : Int32} {mR : Mem} (h : fX2_fineOf a0 p0 m = some (rR, mR)) : T D 2 IX2_fineOf [.ref a0, .ref p0] m 0 0 (Qi rR mR) := by
  refine T_of_V (by decide) (Nat.le_of_ble_eq_true rfl) ?_
  show V D 2 IX2_fineOf 0 [(0, .ref a0), (1, .ref p0)] [] m 0 0 (Qi rR mR)
  unfold fX2_fineOf at h
  refine V_aload_n (pc2 := 1) dX2_fineOf_0 0 rfl rfl ?_
  refine V_iconst (v := 2) (pc2 := 2) dX2_fineOf_1 (by decide) ?_
  obtain ⟨r1, e_r1, h⟩ := bS h
  obtain ⟨⟨fs_r1, o_r1⟩, e_r1⟩ := cV_of e_r1
  refine V_cVq (pc2 := 5) [.int (2 : Int32)] (st := []) o_r1 (tX2_lawOf e_r1) dX2_fineOf_2 wV_2_130 (by decide) rfl (Nat.le_of_ble_eq_true rfl) ?_
  refine V_astoreq_n (pc2 := 6) (L2 := [(2, va_rf r1), (0, .ref a0), (1, .ref p0)]) dX2_fineOf_5 ?_ rfl rfl rfl
  refine V_aloadq_n (pc2 := 7) dX2_fineOf_6 0 rfl rfl ?_
  refine V_ifnonnull (pc2 := 10) (tgt := 17) dX2_fineOf_7 (fun q2 c => ?_) (fun c => ?_)
  · subst c
    try dsimp only at h
    refine V_aload_n (pc2 := 18) dX2_fineOf_17 0 rfl rfl ?_
    refine V_aload_n (pc2 := 19) dX2_fineOf_18 2 rfl rfl ?_
    obtain ⟨x4, e_x4, h⟩ := bS h
    refine V_gI (pc2 := 22) e_x4 dX2_fineOf_19 wF_2_102 ?_
    refine V_aload_n (pc2 := 23) dX2_fineOf_22 1 rfl rfl ?_
    obtain ⟨x5, e_x5, h⟩ := bS h
    refine V_gI (pc2 := 26) e_x5 dX2_fineOf_23 wF_2_73 ?_
    refine V_iconst (v := 0) (pc2 := 27) dX2_fineOf_26 (by decide) ?_
    obtain ⟨⟨x6, m7⟩, e_x6, h⟩ := bS h
    try dsimp only at h
    obtain ⟨⟨fs_x6, o_x6⟩, e_x6⟩ := cV_of e_x6
    refine V_cVi (pc2 := 30) [.int x4, .int x5, .int (0 : Int32)] (st := []) o_x6 (tX6_value e_x6) dX2_fineOf_27 wV_2_141 (by decide) rfl (Nat.le_of_ble_eq_true rfl) ?_
    obtain ⟨e1, e2⟩ := inj2 h
    subst e1
    subst e2
    exact V_iret dX2_fineOf_30 rfl ⟨rfl, rfl⟩
  · subst c
    try dsimp only at h
    refine V_aload_n (pc2 := 11) dX2_fineOf_10 2 rfl rfl ?_
    obtain ⟨x3, e_x3, h⟩ := bS h
    refine V_gI (pc2 := 14) e_x3 dX2_fineOf_11 wF_2_102 ?_
    refine V_goto (tgt := 30) dX2_fineOf_14 ?_
    obtain ⟨e1, e2⟩ := inj2 h
    subst e1
    subst e2
    exact V_iret dX2_fineOf_30 rfl ⟨rfl, rfl⟩
noncomputable def fX7_fine (a0 : Nat) (p0 : Int32) (m : Mem) : Option (Int32 × Mem) :=
  (gR m a0 7 0).bind fun r1 =>
  (cV m r1 2 (fX2_isChild r1 p0 m)).bind fun b2 =>
  if b2 = true then
    (gR m a0 7 0).bind fun r3 =>
    (gR m a0 7 0).bind fun r4 =>
    (gR m r4 2 0).bind fun r5 =>
    (ldR m r5 1 p0).bind fun r6 =>
    (cV m r3 2 (fX2_fineOf r3 r6 m)).bind fun (x7, m8) =>
    some (x7, m8)
  else
    some ((-1000000001 : Int32), m)
set_option maxRecDepth 20000 in
theorem tX7_fine {D : Dat} {a0 : Nat} {p0 : Int32} {m : Mem} {rR : Int32} {mR : Mem} (h : fX7_fine a0 p0 m = some (rR, mR)) : T D 3 IX7_fine [.ref a0, .int p0] m 0 0 (Qi rR mR) := by
  refine T_of_V (by decide) (Nat.le_of_ble_eq_true rfl) ?_
  show V D 3 IX7_fine 0 [(0, .ref a0), (1, .int p0)] [] m 0 0 (Qi rR mR)
  unfold fX7_fine at h
  refine V_aload_n (pc2 := 1) dX7_fine_0 0 rfl rfl ?_
  obtain ⟨r1, e_r1, h⟩ := bS h
  refine V_gR (pc2 := 4) e_r1 dX7_fine_1 wF_7_10 ?_
  refine V_iload_n (pc2 := 5) dX7_fine_4 1 rfl rfl ?_
  obtain ⟨b2, e_b2, h⟩ := bS h
  obtain ⟨⟨fs_b2, o_b2⟩, e_b2⟩ := cV_of e_b2
  refine V_cVi (pc2 := 8) [.int p0] (st := []) o_b2 (tX2_isChild e_b2) dX7_fine_5 wV_7_72 (by decide) rfl (Nat.le_of_ble_eq_true rfl) ?_
  refine V_ifb_eq (pc2 := 11) (tgt := 30) dX7_fine_8 (fun c8 => ?_) (fun c8 => ?_)
  · replace h := iF c8 h
    refine V_ldc (v := -1000000001) (pc2 := 32) dX7_fine_30 wconstant_7_51 ?_
    obtain ⟨e1, e2⟩ := inj2 h
    subst e1
    subst e2
    exact V_iret dX7_fine_32 rfl ⟨rfl, rfl⟩
  · replace h := iT c8 h
    refine V_aload_n (pc2 := 12) dX7_fine_11 0 rfl rfl ?_
    obtain ⟨r3, e_r3, h⟩ := bS h
    refine V_gR (pc2 := 15) e_r3 dX7_fine_12 wF_7_10 ?_
    refine V_aload_n (pc2 := 16) dX7_fine_15 0 rfl rfl ?_
    obtain ⟨r4, e_r4, h⟩ := bS h
    refine V_gR (pc2 := 19) e_r4 dX7_fine_16 wF_7_10 ?_
    obtain ⟨r5, e_r5, h⟩ := bS h
    refine V_gR (pc2 := 22) e_r5 dX7_fine_19 wF_7_57 ?_
    refine V_iload_n (pc2 := 23) dX7_fine_22 1 rfl rfl ?_
    obtain ⟨r6, e_r6, h⟩ := bS h
    refine V_ldR (pc2 := 24) e_r6 dX7_fine_23 rfl ?_
    obtain ⟨⟨x7, m8⟩, e_x7, h⟩ := bS h
    try dsimp only at h
    obtain ⟨⟨fs_x7, o_x7⟩, e_x7⟩ := cV_of e_x7
    refine V_cVi (pc2 := 27) [.ref r6] (st := []) o_x7 (tX2_fineOf e_x7) dX7_fine_24 wV_7_230 (by decide) rfl (Nat.le_of_ble_eq_true rfl) ?_
    refine V_goto (tgt := 32) dX7_fine_27 ?_
    obtain ⟨e1, e2⟩ := inj2 h
    subst e1
    subst e2
    exact V_iret dX7_fine_32 rfl ⟨rfl, rfl⟩
noncomputable def fX1_addBytes_b0 (a0 : Nat) (p0 : Int32) : Int32 × Mem → Option ((Int32 × Mem) ⊕ Mem) := fun (y1, m2) =>
  if y1 < 0 then
    some (.inr m2)
  else
    (gI m2 a0 1 1).bind fun x3 =>
    if (96 : Int32) ≤ x3 then
      some (.inr m2)
    else
      (gR m2 a0 1 0).bind fun r4 =>
      (gI m2 a0 1 1).bind fun x5 =>
      (stI m2 r4 x5 (((p0.toUInt32 >>> (y1.toUInt32 &&& Int32.toUInt32 31)).toInt32) &&& (255 : Int32))).bind fun m6 =>
      (gI m6 a0 1 1).bind fun x7 =>
      (pI m6 a0 1 1 (x7 + (1 : Int32))).bind fun m8 =>
      some (.inl (y1 + (-8 : Int32), m8))
noncomputable def fX1_addBytes (a0 : Nat) (p0 : Int32) (m : Mem) : Option (Mem) :=
  (loopF (fX1_addBytes_b0 a0 p0) bigN ((24 : Int32), m)).bind fun m9 =>
  some m9
set_option maxRecDepth 20000 in
theorem tX1_addBytes {D : Dat} {a0 : Nat} {p0 : Int32} {m : Mem} {mR : Mem} (h : fX1_addBytes a0 p0 m = some mR) : T D 0 IX1_addBytes [.ref a0, .int p0] m 0 0 (Qv mR) := by
  refine T_of_V (by decide) (Nat.le_of_ble_eq_true rfl) ?_
  show V D 0 IX1_addBytes 0 [(0, .ref a0), (1, .int p0)] [] m 0 0 (Qv mR)
  unfold fX1_addBytes at h
  refine V_bipush (v := 24) (pc2 := 2) dX1_addBytes_0 (by decide) ?_
  refine V_istore_n (pc2 := 3) (L2 := [(2, .int (24 : Int32)), (0, .ref a0), (1, .int p0)]) dX1_addBytes_2 ?_ rfl rfl rfl
  obtain ⟨m9, hl, h⟩ := bS h
  have hJ48 : V D 0 IX1_addBytes 48 [] [] m9 0 0 (Qv mR) := by
    have e1 := inj1 h
    subst e1
    exact V_vret dX1_addBytes_48 rfl ⟨rfl, rfl⟩
  clear h
  have key3 : ∀ (n : Nat) (y1 : Int32) (m2 : Mem), loopF (fX1_addBytes_b0 a0 p0) n (y1, m2) = some m9 → V D 0 IX1_addBytes 3 [(0, .ref a0), (1, .int p0), (2, .int y1)] [] m2 0 0 (Qv mR) := by
    intro n
    induction n with
    | zero => intro y1 m2 h; cases h
    | succ n ih =>
      intro y1 m2 h
      obtain ⟨o, h, ho⟩ := loopF_inv h
      dsimp only [fX1_addBytes_b0] at h
      refine V_iload_n (pc2 := 4) dX1_addBytes_3 2 rfl rfl ?_
      refine V_if_lt (pc2 := 7) (tgt := 48) dX1_addBytes_4 (fun c4 => ?_) (fun c4 => ?_)
      · replace h := iT c4 h
        have ee := inj1 h
        subst ee
        have e1 := pinj1 (loopF_e ho)
        subst e1
        exact V_lv hJ48 [] rfl
      · replace h := iF c4 h
        refine V_aload_n (pc2 := 8) dX1_addBytes_7 0 rfl rfl ?_
        obtain ⟨x3, e_x3, h⟩ := bS h
        refine V_gI (pc2 := 11) e_x3 dX1_addBytes_8 wF_1_18 ?_
        refine V_bipush (v := 96) (pc2 := 13) dX1_addBytes_11 (by decide) ?_
        refine V_icmp_ge (pc2 := 16) (tgt := 48) dX1_addBytes_13 (fun c13 => ?_) (fun c13 => ?_)
        · replace h := iT c13 h
          have ee := inj1 h
          subst ee
          have e1 := pinj1 (loopF_e ho)
          subst e1
          exact V_lv hJ48 [] rfl
        · replace h := iF c13 h
          refine V_aload_n (pc2 := 17) dX1_addBytes_16 0 rfl rfl ?_
          obtain ⟨r4, e_r4, h⟩ := bS h
          refine V_gR (pc2 := 20) e_r4 dX1_addBytes_17 wF_1_9 ?_
          refine V_aload_n (pc2 := 21) dX1_addBytes_20 0 rfl rfl ?_
          obtain ⟨x5, e_x5, h⟩ := bS h
          refine V_gI (pc2 := 24) e_x5 dX1_addBytes_21 wF_1_18 ?_
          refine V_iload_n (pc2 := 25) dX1_addBytes_24 1 rfl rfl ?_
          refine V_iload_n (pc2 := 26) dX1_addBytes_25 2 rfl rfl ?_
          refine V_iushr (pc2 := 27) dX1_addBytes_26 rfl ?_
          refine V_sipush (v := 255) (pc2 := 30) dX1_addBytes_27 (by decide) ?_
          refine V_iand (pc2 := 31) dX1_addBytes_30 ?_
          obtain ⟨m6, e_m6, h⟩ := bS h
          refine V_stI (pc2 := 32) e_m6 dX1_addBytes_31 ?_
          refine V_aload_n (pc2 := 33) dX1_addBytes_32 0 rfl rfl ?_
          refine V_dup (pc2 := 34) dX1_addBytes_33 rfl ?_
          obtain ⟨x7, e_x7, h⟩ := bS h
          refine V_gI (pc2 := 37) e_x7 dX1_addBytes_34 wF_1_18 ?_
          refine V_iconst (v := 1) (pc2 := 38) dX1_addBytes_37 (by decide) ?_
          refine V_iadd (pc2 := 39) dX1_addBytes_38 ?_
          obtain ⟨m8, e_m8, h⟩ := bS h
          refine V_pI (pc2 := 42) e_m8 dX1_addBytes_39 wP_1_18 rfl rfl ?_
          refine V_iinc (pc2 := 45) (v := y1 + (-8 : Int32)) (L2 := [(2, .int (y1 + (-8 : Int32))), (0, .ref a0), (1, .int p0)]) dX1_addBytes_42 2 rfl (by rfl) ?_ rfl rfl
          refine V_goto (tgt := 3) dX1_addBytes_45 ?_
          have ee := inj1 h
          subst ee
          exact V_lv (ih _ _ (loopF_c ho)) [1, 2, 0] rfl
  exact V_lv (key3 _ _ _ hl) [1, 2, 0] rfl
noncomputable def fX7_feed (a0 : Nat) (p0 : Int32) (p1 : Int32) (p2 : Int32) (m : Mem) : Option (Int32 × Mem) :=
  (gR m a0 7 4).bind fun r1 =>
  (gI m r1 1 1).bind fun x2 =>
  if (x2 + (12 : Int32)) ≤ (96 : Int32) then
    (gR m a0 7 4).bind fun r3 =>
    (cV m r3 1 (fX1_addBytes r3 p0 m)).bind fun m4 =>
    (gR m4 a0 7 4).bind fun r5 =>
    (cV m4 r5 1 (fX1_addBytes r5 p1 m4)).bind fun m6 =>
    (gR m6 a0 7 4).bind fun r7 =>
    (cV m6 r7 1 (fX1_addBytes r7 p2 m6)).bind fun m8 =>
    (gR m8 a0 7 4).bind fun r9 =>
    (gI m8 r9 1 1).bind fun x10 =>
    some (x10, m8)
  else
    some ((-1000000003 : Int32), m)
set_option maxRecDepth 20000 in
theorem tX7_feed {D : Dat} {a0 : Nat} {p0 : Int32} {p1 : Int32} {p2 : Int32} {m : Mem} {rR : Int32} {mR : Mem} (h : fX7_feed a0 p0 p1 p2 m = some (rR, mR)) : T D 1 IX7_feed [.ref a0, .int p0, .int p1, .int p2] m 0 0 (Qi rR mR) := by
  refine T_of_V (by decide) (Nat.le_of_ble_eq_true rfl) ?_
  show V D 1 IX7_feed 0 [(0, .ref a0), (1, .int p0), (2, .int p1), (3, .int p2)] [] m 0 0 (Qi rR mR)
  unfold fX7_feed at h
  refine V_aload_n (pc2 := 1) dX7_feed_0 0 rfl rfl ?_
  obtain ⟨r1, e_r1, h⟩ := bS h
  refine V_gR (pc2 := 4) e_r1 dX7_feed_1 wF_7_25 ?_
  obtain ⟨x2, e_x2, h⟩ := bS h
  refine V_gI (pc2 := 7) e_x2 dX7_feed_4 wF_7_233 ?_
  refine V_bipush (v := 12) (pc2 := 9) dX7_feed_7 (by decide) ?_
  refine V_iadd (pc2 := 10) dX7_feed_9 ?_
  refine V_bipush (v := 96) (pc2 := 12) dX7_feed_10 (by decide) ?_
  refine V_icmp_le (pc2 := 15) (tgt := 18) dX7_feed_12 (fun c12 => ?_) (fun c12 => ?_)
  · replace h := iT c12 h
    refine V_aload_n (pc2 := 19) dX7_feed_18 0 rfl rfl ?_
    obtain ⟨r3, e_r3, h⟩ := bS h
    refine V_gR (pc2 := 22) e_r3 dX7_feed_19 wF_7_25 ?_
    refine V_iload_n (pc2 := 23) dX7_feed_22 1 rfl rfl ?_
    obtain ⟨m4, e_m4, h⟩ := bS h
    obtain ⟨⟨fs_m4, o_m4⟩, e_m4⟩ := cV_of e_m4
    refine V_cVv (pc2 := 26) [.int p0] (st := []) o_m4 (tX1_addBytes e_m4) dX7_feed_23 wV_7_234 (by decide) rfl (Nat.le_of_ble_eq_true rfl) ?_
    refine V_aload_n (pc2 := 27) dX7_feed_26 0 rfl rfl ?_
    obtain ⟨r5, e_r5, h⟩ := bS h
    refine V_gR (pc2 := 30) e_r5 dX7_feed_27 wF_7_25 ?_
    refine V_iload_n (pc2 := 31) dX7_feed_30 2 rfl rfl ?_
    obtain ⟨m6, e_m6, h⟩ := bS h
    obtain ⟨⟨fs_m6, o_m6⟩, e_m6⟩ := cV_of e_m6
    refine V_cVv (pc2 := 34) [.int p1] (st := []) o_m6 (tX1_addBytes e_m6) dX7_feed_31 wV_7_234 (by decide) rfl (Nat.le_of_ble_eq_true rfl) ?_
    refine V_aload_n (pc2 := 35) dX7_feed_34 0 rfl rfl ?_
    obtain ⟨r7, e_r7, h⟩ := bS h
    refine V_gR (pc2 := 38) e_r7 dX7_feed_35 wF_7_25 ?_
    refine V_iload_n (pc2 := 39) dX7_feed_38 3 rfl rfl ?_
    obtain ⟨m8, e_m8, h⟩ := bS h
    obtain ⟨⟨fs_m8, o_m8⟩, e_m8⟩ := cV_of e_m8
    refine V_cVv (pc2 := 42) [.int p2] (st := []) o_m8 (tX1_addBytes e_m8) dX7_feed_39 wV_7_234 (by decide) rfl (Nat.le_of_ble_eq_true rfl) ?_
    refine V_aload_n (pc2 := 43) dX7_feed_42 0 rfl rfl ?_
    obtain ⟨r9, e_r9, h⟩ := bS h
    refine V_gR (pc2 := 46) e_r9 dX7_feed_43 wF_7_25 ?_
    obtain ⟨x10, e_x10, h⟩ := bS h
    refine V_gI (pc2 := 49) e_x10 dX7_feed_46 wF_7_233 ?_
    obtain ⟨e1, e2⟩ := inj2 h
    subst e1
    subst e2
    exact V_iret dX7_feed_49 rfl ⟨rfl, rfl⟩
  · replace h := iF c12 h
    refine V_ldc (v := -1000000003) (pc2 := 17) dX7_feed_15 wconstant_7_56 ?_
    obtain ⟨e1, e2⟩ := inj2 h
    subst e1
    subst e2
    exact V_iret dX7_feed_17 rfl ⟨rfl, rfl⟩
noncomputable def fX7_trim (a0 : Nat) (p0 : Int32) (m : Mem) : Option (Int32 × Mem) :=
  (gR m a0 7 4).bind fun r1 =>
  (gI m r1 1 1).bind fun x2 =>
  (fX7_within p0 (0 : Int32) x2 m).bind fun b3 =>
  if b3 = true then
    (gR m a0 7 4).bind fun r4 =>
    (pI m r4 1 1 p0).bind fun m5 =>
    some (p0, m5)
  else
    some ((-1000000001 : Int32), m)
set_option maxRecDepth 20000 in
theorem tX7_trim {D : Dat} {a0 : Nat} {p0 : Int32} {m : Mem} {rR : Int32} {mR : Mem} (h : fX7_trim a0 p0 m = some (rR, mR)) : T D 1 IX7_trim [.ref a0, .int p0] m 0 0 (Qi rR mR) := by
  refine T_of_V (by decide) (Nat.le_of_ble_eq_true rfl) ?_
  show V D 1 IX7_trim 0 [(0, .ref a0), (1, .int p0)] [] m 0 0 (Qi rR mR)
  unfold fX7_trim at h
  refine V_iload_n (pc2 := 1) dX7_trim_0 1 rfl rfl ?_
  refine V_iconst (v := 0) (pc2 := 2) dX7_trim_1 (by decide) ?_
  refine V_aload_n (pc2 := 3) dX7_trim_2 0 rfl rfl ?_
  obtain ⟨r1, e_r1, h⟩ := bS h
  refine V_gR (pc2 := 6) e_r1 dX7_trim_3 wF_7_25 ?_
  obtain ⟨x2, e_x2, h⟩ := bS h
  refine V_gI (pc2 := 9) e_x2 dX7_trim_6 wF_7_233 ?_
  obtain ⟨b3, e_b3, h⟩ := bS h
  refine V_cSi (pc2 := 12) [.int p0, .int (0 : Int32), .int x2] (st := []) (tX7_within e_b3) dX7_trim_9 wS_7_47 (by decide) rfl (Nat.le_of_ble_eq_true rfl) ?_
  refine V_ifb_ne (pc2 := 15) (tgt := 18) dX7_trim_12 (fun c12 => ?_) (fun c12 => ?_)
  · replace h := iT c12 h
    refine V_aload_n (pc2 := 19) dX7_trim_18 0 rfl rfl ?_
    obtain ⟨r4, e_r4, h⟩ := bS h
    refine V_gR (pc2 := 22) e_r4 dX7_trim_19 wF_7_25 ?_
    refine V_iload_n (pc2 := 23) dX7_trim_22 1 rfl rfl ?_
    obtain ⟨m5, e_m5, h⟩ := bS h
    refine V_pI (pc2 := 26) e_m5 dX7_trim_23 wP_7_233 rfl rfl ?_
    refine V_iload_n (pc2 := 27) dX7_trim_26 1 rfl rfl ?_
    obtain ⟨e1, e2⟩ := inj2 h
    subst e1
    subst e2
    exact V_iret dX7_trim_27 rfl ⟨rfl, rfl⟩
  · replace h := iF c12 h
    refine V_ldc (v := -1000000001) (pc2 := 17) dX7_trim_15 wconstant_7_51 ?_
    obtain ⟨e1, e2⟩ := inj2 h
    subst e1
    subst e2
    exact V_iret dX7_trim_17 rfl ⟨rfl, rfl⟩
noncomputable def fX1_isByte (a0 : Nat) (p0 : Int32) (p1 : Int32) (p2 : Int32) (m : Mem) : Option (Bool) :=
  if p0 < 0 then
    some false
  else
    (gI m a0 1 1).bind fun x1 =>
    if x1 ≤ p0 then
      some false
    else
      (gR m a0 1 0).bind fun r2 =>
      (ldI m r2 p0).bind fun x3 =>
      if x3 < p1 then
        some false
      else
        (gR m a0 1 0).bind fun r4 =>
        (ldI m r4 p0).bind fun x5 =>
        if p2 < x5 then
          some false
        else
          some true
set_option maxRecDepth 20000 in
theorem tX1_isByte {D : Dat} {a0 : Nat} {p0 : Int32} {p1 : Int32} {p2 : Int32} {m : Mem} {rR : Bool} (h : fX1_isByte a0 p0 p1 p2 m = some rR) : T D 0 IX1_isByte [.ref a0, .int p0, .int p1, .int p2] m 0 0 (Qi (zb rR) m) := by
  refine T_of_V (by decide) (Nat.le_of_ble_eq_true rfl) ?_
  show V D 0 IX1_isByte 0 [(0, .ref a0), (1, .int p0), (2, .int p1), (3, .int p2)] [] m 0 0 (Qi (zb rR) m)
  unfold fX1_isByte at h
  refine V_iload_n (pc2 := 1) dX1_isByte_0 1 rfl rfl ?_
  refine V_if_lt (pc2 := 4) (tgt := 36) dX1_isByte_1 (fun c1 => ?_) (fun c1 => ?_)
  · replace h := iT c1 h
    refine V_iconst (v := 0) (pc2 := 37) dX1_isByte_36 (by decide) ?_
    have e1 := inj1 h
    subst e1
    exact V_bret (b := false) dX1_isByte_37 rfl ⟨rfl, rfl⟩
  · replace h := iF c1 h
    refine V_iload_n (pc2 := 5) dX1_isByte_4 1 rfl rfl ?_
    refine V_aload_n (pc2 := 6) dX1_isByte_5 0 rfl rfl ?_
    obtain ⟨x1, e_x1, h⟩ := bS h
    refine V_gI (pc2 := 9) e_x1 dX1_isByte_6 wF_1_18 ?_
    refine V_icmp_ge (pc2 := 12) (tgt := 36) dX1_isByte_9 (fun c9 => ?_) (fun c9 => ?_)
    · replace h := iT c9 h
      refine V_iconst (v := 0) (pc2 := 37) dX1_isByte_36 (by decide) ?_
      have e1 := inj1 h
      subst e1
      exact V_bret (b := false) dX1_isByte_37 rfl ⟨rfl, rfl⟩
    · replace h := iF c9 h
      refine V_aload_n (pc2 := 13) dX1_isByte_12 0 rfl rfl ?_
      obtain ⟨r2, e_r2, h⟩ := bS h
      refine V_gR (pc2 := 16) e_r2 dX1_isByte_13 wF_1_9 ?_
      refine V_iload_n (pc2 := 17) dX1_isByte_16 1 rfl rfl ?_
      obtain ⟨x3, e_x3, h⟩ := bS h
      refine V_ldI (pc2 := 18) e_x3 dX1_isByte_17 ?_
      refine V_iload_n (pc2 := 19) dX1_isByte_18 2 rfl rfl ?_
      refine V_icmp_lt (pc2 := 22) (tgt := 36) dX1_isByte_19 (fun c19 => ?_) (fun c19 => ?_)
      · replace h := iT c19 h
        refine V_iconst (v := 0) (pc2 := 37) dX1_isByte_36 (by decide) ?_
        have e1 := inj1 h
        subst e1
        exact V_bret (b := false) dX1_isByte_37 rfl ⟨rfl, rfl⟩
      · replace h := iF c19 h
        refine V_aload_n (pc2 := 23) dX1_isByte_22 0 rfl rfl ?_
        obtain ⟨r4, e_r4, h⟩ := bS h
        refine V_gR (pc2 := 26) e_r4 dX1_isByte_23 wF_1_9 ?_
        refine V_iload_n (pc2 := 27) dX1_isByte_26 1 rfl rfl ?_
        obtain ⟨x5, e_x5, h⟩ := bS h
        refine V_ldI (pc2 := 28) e_x5 dX1_isByte_27 ?_
        refine V_iload_n (pc2 := 29) dX1_isByte_28 3 rfl rfl ?_
        refine V_icmp_gt (pc2 := 32) (tgt := 36) dX1_isByte_29 (fun c29 => ?_) (fun c29 => ?_)
        · replace h := iT c29 h
          refine V_iconst (v := 0) (pc2 := 37) dX1_isByte_36 (by decide) ?_
          have e1 := inj1 h
          subst e1
          exact V_bret (b := false) dX1_isByte_37 rfl ⟨rfl, rfl⟩
        · replace h := iF c29 h
          refine V_iconst (v := 1) (pc2 := 33) dX1_isByte_32 (by decide) ?_
          refine V_goto (tgt := 37) dX1_isByte_33 ?_
          have e1 := inj1 h
          subst e1
          exact V_bret (b := true) dX1_isByte_37 rfl ⟨rfl, rfl⟩
noncomputable def fX1_endOfRow_b0 (a0 : Nat) (p0 : Int32) (p1 : Int32) (m : Mem) : Int32 → Option (Int32 ⊕ Int32) := fun y2 =>
  (gI m a0 1 1).bind fun x3 =>
  if x3 ≤ y2 then
    some (.inr y2)
  else
    (cV m a0 1 (fX1_isByte a0 y2 p0 p1 m)).bind fun b4 =>
    if b4 = true then
      some (.inl (y2 + (1 : Int32)))
    else
      some (.inr y2)
noncomputable def fX1_endOfRow (a0 : Nat) (p0 : Int32) (p1 : Int32) (m : Mem) : Option (Int32) :=
  (gI m a0 1 3).bind fun x1 =>
  (loopF (fX1_endOfRow_b0 a0 p0 p1 m) bigN x1).bind fun y5 =>
  some y5
set_option maxRecDepth 20000 in
theorem tX1_endOfRow {D : Dat} {a0 : Nat} {p0 : Int32} {p1 : Int32} {m : Mem} {rR : Int32} (h : fX1_endOfRow a0 p0 p1 m = some rR) : T D 1 IX1_endOfRow [.ref a0, .int p0, .int p1] m 0 0 (Qi rR m) := by
  refine T_of_V (by decide) (Nat.le_of_ble_eq_true rfl) ?_
  show V D 1 IX1_endOfRow 0 [(0, .ref a0), (1, .int p0), (2, .int p1)] [] m 0 0 (Qi rR m)
  unfold fX1_endOfRow at h
  refine V_aload_n (pc2 := 1) dX1_endOfRow_0 0 rfl rfl ?_
  obtain ⟨x1, e_x1, h⟩ := bS h
  refine V_gI (pc2 := 4) e_x1 dX1_endOfRow_1 wF_1_64 ?_
  refine V_istore_n (pc2 := 5) (L2 := [(3, .int x1), (0, .ref a0), (1, .int p0), (2, .int p1)]) dX1_endOfRow_4 ?_ rfl rfl rfl
  obtain ⟨y5, hl, h⟩ := bS h
  have hJ29 : V D 1 IX1_endOfRow 29 [(3, .int y5)] [] m 0 0 (Qi rR m) := by
    refine V_iload_n (pc2 := 30) dX1_endOfRow_29 0 rfl rfl ?_
    have e1 := inj1 h
    subst e1
    exact V_iret dX1_endOfRow_30 rfl ⟨rfl, rfl⟩
  clear h
  have key5 : ∀ (n : Nat) (y2 : Int32), loopF (fX1_endOfRow_b0 a0 p0 p1 m) n y2 = some y5 → V D 1 IX1_endOfRow 5 [(0, .ref a0), (1, .int p0), (2, .int p1), (3, .int y2)] [] m 0 0 (Qi rR m) := by
    intro n
    induction n with
    | zero => intro y2 h; cases h
    | succ n ih =>
      intro y2 h
      obtain ⟨o, h, ho⟩ := loopF_inv h
      dsimp only [fX1_endOfRow_b0] at h
      refine V_iload_n (pc2 := 6) dX1_endOfRow_5 3 rfl rfl ?_
      refine V_aload_n (pc2 := 7) dX1_endOfRow_6 0 rfl rfl ?_
      obtain ⟨x3, e_x3, h⟩ := bS h
      refine V_gI (pc2 := 10) e_x3 dX1_endOfRow_7 wF_1_18 ?_
      refine V_icmp_ge (pc2 := 13) (tgt := 29) dX1_endOfRow_10 (fun c10 => ?_) (fun c10 => ?_)
      · replace h := iT c10 h
        have ee := inj1 h
        subst ee
        have e1 := pinj1 (loopF_e ho)
        subst e1
        exact V_lv hJ29 [3] rfl
      · replace h := iF c10 h
        refine V_aload_n (pc2 := 14) dX1_endOfRow_13 0 rfl rfl ?_
        refine V_iload_n (pc2 := 15) dX1_endOfRow_14 3 rfl rfl ?_
        refine V_iload_n (pc2 := 16) dX1_endOfRow_15 1 rfl rfl ?_
        refine V_iload_n (pc2 := 17) dX1_endOfRow_16 2 rfl rfl ?_
        obtain ⟨b4, e_b4, h⟩ := bS h
        obtain ⟨⟨fs_b4, o_b4⟩, e_b4⟩ := cV_of e_b4
        refine V_cVi (pc2 := 20) [.int y2, .int p0, .int p1] (st := []) o_b4 (tX1_isByte e_b4) dX1_endOfRow_17 wV_1_67 (by decide) rfl (Nat.le_of_ble_eq_true rfl) ?_
        refine V_ifb_eq (pc2 := 23) (tgt := 29) dX1_endOfRow_20 (fun c20 => ?_) (fun c20 => ?_)
        · replace h := iF c20 h
          have ee := inj1 h
          subst ee
          have e1 := pinj1 (loopF_e ho)
          subst e1
          exact V_lv hJ29 [3] rfl
        · replace h := iT c20 h
          refine V_iinc (pc2 := 26) (v := y2 + (1 : Int32)) (L2 := [(3, .int (y2 + (1 : Int32))), (0, .ref a0), (1, .int p0), (2, .int p1)]) dX1_endOfRow_23 3 rfl (by rfl) ?_ rfl rfl
          refine V_goto (tgt := 5) dX1_endOfRow_26 ?_
          have ee := inj1 h
          subst ee
          exact V_lv (ih _ (loopF_c ho)) [1, 2, 3, 0] rfl
  exact V_lv (key5 _ _ hl) [1, 2, 3, 0] rfl
noncomputable def fX1_advance_b0 (a0 : Nat) : Mem → Option (Mem ⊕ Mem) := fun m6 =>
  (gI m6 a0 1 3).bind fun x7 =>
  (gI m6 a0 1 1).bind fun x8 =>
  if x8 ≤ x7 then
    some (.inr m6)
  else
    (gI m6 a0 1 3).bind fun x9 =>
    (cV m6 a0 1 (fX1_isByte a0 x9 (32 : Int32) (32 : Int32) m6)).bind fun b10 =>
    if b10 = true then
      (gI m6 a0 1 3).bind fun x11 =>
      (pI m6 a0 1 3 (x11 + (1 : Int32))).bind fun m12 =>
      some (.inl m12)
    else
      some (.inr m6)
noncomputable def fX1_advance (a0 : Nat) (m : Mem) : Option (Mem) :=
  (gI m a0 1 2).bind fun x1 =>
  (
    if x1 = (-2 : Int32) then
      some (1 : Int32)
    else
      (gI m a0 1 2).bind fun x2 =>
      if x2 = (-3 : Int32) then
        some (1 : Int32)
      else
        some (0 : Int32)).bind fun y3 =>
  (gI m a0 1 4).bind fun x4 =>
  (pI m a0 1 3 x4).bind fun m5 =>
  (loopF (fX1_advance_b0 a0) bigN m5).bind fun m13 =>
  (
    if y3 = 0 then
      some (0 : Int32)
    else
      (gI m13 a0 1 3).bind fun x14 =>
      (gI m13 a0 1 4).bind fun x15 =>
      if x14 = x15 then
        some (1 : Int32)
      else
        some (0 : Int32)).bind fun y16 =>
  (gI m13 a0 1 3).bind fun x17 =>
  (gI m13 a0 1 1).bind fun x18 =>
  if x17 < x18 then
    (gI m13 a0 1 3).bind fun x19 =>
    (cV m13 a0 1 (fX1_isByte a0 x19 (97 : Int32) (122 : Int32) m13)).bind fun b20 =>
    if b20 = true then
      (cV m13 a0 1 (fX1_endOfRow a0 (97 : Int32) (122 : Int32) m13)).bind fun x35 =>
      (pI m13 a0 1 4 x35).bind fun m36 =>
      (
        if y16 = 0 then
          some (-2 : Int32)
        else
          some (-4 : Int32)).bind fun y37 =>
      (pI m36 a0 1 2 y37).bind fun m38 =>
      some m38
    else
      (gI m13 a0 1 3).bind fun x21 =>
      (cV m13 a0 1 (fX1_isByte a0 x21 (48 : Int32) (57 : Int32) m13)).bind fun b22 =>
      if b22 = true then
        (cV m13 a0 1 (fX1_endOfRow a0 (48 : Int32) (57 : Int32) m13)).bind fun x29 =>
        (pI m13 a0 1 4 x29).bind fun m30 =>
        (
          if y16 = 0 then
            (gI m30 a0 1 4).bind fun x31 =>
            (gI m30 a0 1 3).bind fun x32 =>
            if (x31 - x32) ≤ (4 : Int32) then
              some (-3 : Int32)
            else
              some (-4 : Int32)
          else
            some (-4 : Int32)).bind fun y33 =>
        (pI m30 a0 1 2 y33).bind fun m34 =>
        some m34
      else
        (gR m13 a0 1 0).bind fun r23 =>
        (gI m13 a0 1 3).bind fun x24 =>
        (ldI m13 r23 x24).bind fun x25 =>
        (pI m13 a0 1 2 x25).bind fun m26 =>
        (gI m26 a0 1 3).bind fun x27 =>
        (pI m26 a0 1 4 (x27 + (1 : Int32))).bind fun m28 =>
        some m28
  else
    (pI m13 a0 1 2 (-1 : Int32)).bind fun m39 =>
    (gI m39 a0 1 1).bind fun x40 =>
    (pI m39 a0 1 4 x40).bind fun m41 =>
    some m41
set_option maxRecDepth 20000 in
theorem tX1_advance {D : Dat} {a0 : Nat} {m : Mem} {mR : Mem} (h : fX1_advance a0 m = some mR) : T D 2 IX1_advance [.ref a0] m 0 0 (Qv mR) := by
  refine T_of_V (by decide) (Nat.le_of_ble_eq_true rfl) ?_
  show V D 2 IX1_advance 0 [(0, .ref a0)] [] m 0 0 (Qv mR)
  unfold fX1_advance at h
  refine V_aload_n (pc2 := 1) dX1_advance_0 0 rfl rfl ?_
  obtain ⟨x1, e_x1, h⟩ := bS h
  refine V_gI (pc2 := 4) e_x1 dX1_advance_1 wF_1_34 ?_
  refine V_bipush (v := -2) (pc2 := 6) dX1_advance_4 (by decide) ?_
  obtain ⟨y3, hb, h⟩ := bS h
  have hJ23 : V D 2 IX1_advance 23 [(0, .ref a0)] [.int y3] m 0 0 (Qv mR) := by
    refine V_istore_n (pc2 := 24) (L2 := [(1, .int y3), (0, .ref a0)]) dX1_advance_23 ?_ rfl rfl rfl
    refine V_aload_n (pc2 := 25) dX1_advance_24 1 rfl rfl ?_
    refine V_aload_n (pc2 := 26) dX1_advance_25 1 rfl rfl ?_
    obtain ⟨x4, e_x4, h⟩ := bS h
    refine V_gI (pc2 := 29) e_x4 dX1_advance_26 wF_1_31 ?_
    obtain ⟨m5, e_m5, h⟩ := bS h
    refine V_pI (pc2 := 32) e_m5 dX1_advance_29 wP_1_64 rfl rfl ?_
    obtain ⟨m13, hl, h⟩ := bS h
    have hJ71 : V D 2 IX1_advance 71 [(0, .ref a0), (1, .int y3)] [] m13 0 0 (Qv mR) := by
      refine V_iload_n (pc2 := 72) dX1_advance_71 1 rfl rfl ?_
      obtain ⟨y16, hb, h⟩ := bS h
      have hJ91 : V D 2 IX1_advance 91 [(0, .ref a0)] [.int y16] m13 0 0 (Qv mR) := by
        refine V_istore_n (pc2 := 92) (L2 := [(2, .int y16), (0, .ref a0)]) dX1_advance_91 ?_ rfl rfl rfl
        refine V_aload_n (pc2 := 93) dX1_advance_92 1 rfl rfl ?_
        obtain ⟨x17, e_x17, h⟩ := bS h
        refine V_gI (pc2 := 96) e_x17 dX1_advance_93 wF_1_64 ?_
        refine V_aload_n (pc2 := 97) dX1_advance_96 1 rfl rfl ?_
        obtain ⟨x18, e_x18, h⟩ := bS h
        refine V_gI (pc2 := 100) e_x18 dX1_advance_97 wF_1_18 ?_
        refine V_icmp_lt (pc2 := 103) (tgt := 119) dX1_advance_100 (fun c100 => ?_) (fun c100 => ?_)
        · replace h := iT c100 h
          refine V_aload_n (pc2 := 120) dX1_advance_119 1 rfl rfl ?_
          refine V_aload_n (pc2 := 121) dX1_advance_120 1 rfl rfl ?_
          obtain ⟨x19, e_x19, h⟩ := bS h
          refine V_gI (pc2 := 124) e_x19 dX1_advance_121 wF_1_64 ?_
          refine V_bipush (v := 97) (pc2 := 126) dX1_advance_124 (by decide) ?_
          refine V_bipush (v := 122) (pc2 := 128) dX1_advance_126 (by decide) ?_
          obtain ⟨b20, e_b20, h⟩ := bS h
          obtain ⟨⟨fs_b20, o_b20⟩, e_b20⟩ := cV_of e_b20
          refine V_cVi (pc2 := 131) [.int x19, .int (97 : Int32), .int (122 : Int32)] (st := []) o_b20 (tX1_isByte e_b20) dX1_advance_128 wV_1_67 (by decide) rfl (Nat.le_of_ble_eq_true rfl) ?_
          refine V_ifb_eq (pc2 := 134) (tgt := 164) dX1_advance_131 (fun c131 => ?_) (fun c131 => ?_)
          · replace h := iF c131 h
            refine V_aload_n (pc2 := 165) dX1_advance_164 1 rfl rfl ?_
            refine V_aload_n (pc2 := 166) dX1_advance_165 1 rfl rfl ?_
            obtain ⟨x21, e_x21, h⟩ := bS h
            refine V_gI (pc2 := 169) e_x21 dX1_advance_166 wF_1_64 ?_
            refine V_bipush (v := 48) (pc2 := 171) dX1_advance_169 (by decide) ?_
            refine V_bipush (v := 57) (pc2 := 173) dX1_advance_171 (by decide) ?_
            obtain ⟨b22, e_b22, h⟩ := bS h
            obtain ⟨⟨fs_b22, o_b22⟩, e_b22⟩ := cV_of e_b22
            refine V_cVi (pc2 := 176) [.int x21, .int (48 : Int32), .int (57 : Int32)] (st := []) o_b22 (tX1_isByte e_b22) dX1_advance_173 wV_1_67 (by decide) rfl (Nat.le_of_ble_eq_true rfl) ?_
            refine V_ifb_eq (pc2 := 179) (tgt := 222) dX1_advance_176 (fun c176 => ?_) (fun c176 => ?_)
            · replace h := iF c176 h
              refine V_aload_n (pc2 := 223) dX1_advance_222 1 rfl rfl ?_
              refine V_aload_n (pc2 := 224) dX1_advance_223 1 rfl rfl ?_
              obtain ⟨r23, e_r23, h⟩ := bS h
              refine V_gR (pc2 := 227) e_r23 dX1_advance_224 wF_1_9 ?_
              refine V_aload_n (pc2 := 228) dX1_advance_227 1 rfl rfl ?_
              obtain ⟨x24, e_x24, h⟩ := bS h
              refine V_gI (pc2 := 231) e_x24 dX1_advance_228 wF_1_64 ?_
              obtain ⟨x25, e_x25, h⟩ := bS h
              refine V_ldI (pc2 := 232) e_x25 dX1_advance_231 ?_
              obtain ⟨m26, e_m26, h⟩ := bS h
              refine V_pI (pc2 := 235) e_m26 dX1_advance_232 wP_1_34 rfl rfl ?_
              refine V_aload_n (pc2 := 236) dX1_advance_235 1 rfl rfl ?_
              refine V_aload_n (pc2 := 237) dX1_advance_236 1 rfl rfl ?_
              obtain ⟨x27, e_x27, h⟩ := bS h
              refine V_gI (pc2 := 240) e_x27 dX1_advance_237 wF_1_64 ?_
              refine V_iconst (v := 1) (pc2 := 241) dX1_advance_240 (by decide) ?_
              refine V_iadd (pc2 := 242) dX1_advance_241 ?_
              obtain ⟨m28, e_m28, h⟩ := bS h
              refine V_pI (pc2 := 245) e_m28 dX1_advance_242 wP_1_31 rfl rfl ?_
              have e1 := inj1 h
              subst e1
              exact V_vret dX1_advance_245 rfl ⟨rfl, rfl⟩
            · replace h := iT c176 h
              refine V_aload_n (pc2 := 180) dX1_advance_179 1 rfl rfl ?_
              refine V_aload_n (pc2 := 181) dX1_advance_180 1 rfl rfl ?_
              refine V_bipush (v := 48) (pc2 := 183) dX1_advance_181 (by decide) ?_
              refine V_bipush (v := 57) (pc2 := 185) dX1_advance_183 (by decide) ?_
              obtain ⟨x29, e_x29, h⟩ := bS h
              obtain ⟨⟨fs_x29, o_x29⟩, e_x29⟩ := cV_of e_x29
              refine V_cVi (pc2 := 188) [.int (48 : Int32), .int (57 : Int32)] (st := [.ref a0]) o_x29 (tX1_endOfRow e_x29) dX1_advance_185 wV_1_71 (by decide) rfl (Nat.le_of_ble_eq_true rfl) ?_
              obtain ⟨m30, e_m30, h⟩ := bS h
              refine V_pI (pc2 := 191) e_m30 dX1_advance_188 wP_1_31 rfl rfl ?_
              refine V_aload_n (pc2 := 192) dX1_advance_191 1 rfl rfl ?_
              refine V_iload_n (pc2 := 193) dX1_advance_192 0 rfl rfl ?_
              obtain ⟨y33, hb, h⟩ := bS h
              have hJ216 : V D 2 IX1_advance 216 [] [.int y33, .ref a0] m30 0 0 (Qv mR) := by
                obtain ⟨m34, e_m34, h⟩ := bS h
                refine V_pI (pc2 := 219) e_m34 dX1_advance_216 wP_1_34 rfl rfl ?_
                refine V_goto (tgt := 245) dX1_advance_219 ?_
                have e1 := inj1 h
                subst e1
                exact V_vret dX1_advance_245 rfl ⟨rfl, rfl⟩
              clear h
              have h := hb
              clear hb
              refine V_if_ne (pc2 := 196) (tgt := 209) dX1_advance_193 (fun c193 => ?_) (fun c193 => ?_)
              · replace h := iF c193 h
                refine V_bipush (v := -4) (pc2 := 211) dX1_advance_209 (by decide) ?_
                refine V_goto (tgt := 216) dX1_advance_211 ?_
                have e1 := inj1 h
                subst e1
                exact V_lv hJ216 [] rfl
              · replace h := iT c193 h
                refine V_aload_n (pc2 := 197) dX1_advance_196 1 rfl rfl ?_
                obtain ⟨x31, e_x31, h⟩ := bS h
                refine V_gI (pc2 := 200) e_x31 dX1_advance_197 wF_1_31 ?_
                refine V_aload_n (pc2 := 201) dX1_advance_200 1 rfl rfl ?_
                obtain ⟨x32, e_x32, h⟩ := bS h
                refine V_gI (pc2 := 204) e_x32 dX1_advance_201 wF_1_64 ?_
                refine V_isub (pc2 := 205) dX1_advance_204 ?_
                refine V_iconst (v := 4) (pc2 := 206) dX1_advance_205 (by decide) ?_
                refine V_icmp_le (pc2 := 209) (tgt := 214) dX1_advance_206 (fun c206 => ?_) (fun c206 => ?_)
                · replace h := iT c206 h
                  refine V_bipush (v := -3) (pc2 := 216) dX1_advance_214 (by decide) ?_
                  have e1 := inj1 h
                  subst e1
                  exact V_lv hJ216 [] rfl
                · replace h := iF c206 h
                  refine V_bipush (v := -4) (pc2 := 211) dX1_advance_209 (by decide) ?_
                  refine V_goto (tgt := 216) dX1_advance_211 ?_
                  have e1 := inj1 h
                  subst e1
                  exact V_lv hJ216 [] rfl
          · replace h := iT c131 h
            refine V_aload_n (pc2 := 135) dX1_advance_134 1 rfl rfl ?_
            refine V_aload_n (pc2 := 136) dX1_advance_135 1 rfl rfl ?_
            refine V_bipush (v := 97) (pc2 := 138) dX1_advance_136 (by decide) ?_
            refine V_bipush (v := 122) (pc2 := 140) dX1_advance_138 (by decide) ?_
            obtain ⟨x35, e_x35, h⟩ := bS h
            obtain ⟨⟨fs_x35, o_x35⟩, e_x35⟩ := cV_of e_x35
            refine V_cVi (pc2 := 143) [.int (97 : Int32), .int (122 : Int32)] (st := [.ref a0]) o_x35 (tX1_endOfRow e_x35) dX1_advance_140 wV_1_71 (by decide) rfl (Nat.le_of_ble_eq_true rfl) ?_
            obtain ⟨m36, e_m36, h⟩ := bS h
            refine V_pI (pc2 := 146) e_m36 dX1_advance_143 wP_1_31 rfl rfl ?_
            refine V_aload_n (pc2 := 147) dX1_advance_146 1 rfl rfl ?_
            refine V_iload_n (pc2 := 148) dX1_advance_147 0 rfl rfl ?_
            obtain ⟨y37, hb, h⟩ := bS h
            have hJ158 : V D 2 IX1_advance 158 [] [.int y37, .ref a0] m36 0 0 (Qv mR) := by
              obtain ⟨m38, e_m38, h⟩ := bS h
              refine V_pI (pc2 := 161) e_m38 dX1_advance_158 wP_1_34 rfl rfl ?_
              refine V_goto (tgt := 245) dX1_advance_161 ?_
              have e1 := inj1 h
              subst e1
              exact V_vret dX1_advance_245 rfl ⟨rfl, rfl⟩
            clear h
            have h := hb
            clear hb
            refine V_if_eq (pc2 := 151) (tgt := 156) dX1_advance_148 (fun c148 => ?_) (fun c148 => ?_)
            · replace h := iT c148 h
              refine V_bipush (v := -2) (pc2 := 158) dX1_advance_156 (by decide) ?_
              have e1 := inj1 h
              subst e1
              exact V_lv hJ158 [] rfl
            · replace h := iF c148 h
              refine V_bipush (v := -4) (pc2 := 153) dX1_advance_151 (by decide) ?_
              refine V_goto (tgt := 158) dX1_advance_153 ?_
              have e1 := inj1 h
              subst e1
              exact V_lv hJ158 [] rfl
        · replace h := iF c100 h
          refine V_aload_n (pc2 := 104) dX1_advance_103 1 rfl rfl ?_
          refine V_iconst (v := -1) (pc2 := 105) dX1_advance_104 (by decide) ?_
          obtain ⟨m39, e_m39, h⟩ := bS h
          refine V_pI (pc2 := 108) e_m39 dX1_advance_105 wP_1_34 rfl rfl ?_
          refine V_aload_n (pc2 := 109) dX1_advance_108 1 rfl rfl ?_
          refine V_aload_n (pc2 := 110) dX1_advance_109 1 rfl rfl ?_
          obtain ⟨x40, e_x40, h⟩ := bS h
          refine V_gI (pc2 := 113) e_x40 dX1_advance_110 wF_1_18 ?_
          obtain ⟨m41, e_m41, h⟩ := bS h
          refine V_pI (pc2 := 116) e_m41 dX1_advance_113 wP_1_31 rfl rfl ?_
          refine V_goto (tgt := 245) dX1_advance_116 ?_
          have e1 := inj1 h
          subst e1
          exact V_vret dX1_advance_245 rfl ⟨rfl, rfl⟩
      clear h
      have h := hb
      clear hb
      refine V_if_eq (pc2 := 75) (tgt := 90) dX1_advance_72 (fun c72 => ?_) (fun c72 => ?_)
      · replace h := iT c72 h
        refine V_iconst (v := 0) (pc2 := 91) dX1_advance_90 (by decide) ?_
        have e1 := inj1 h
        subst e1
        exact V_lv hJ91 [0] rfl
      · replace h := iF c72 h
        refine V_aload_n (pc2 := 76) dX1_advance_75 0 rfl rfl ?_
        obtain ⟨x14, e_x14, h⟩ := bS h
        refine V_gI (pc2 := 79) e_x14 dX1_advance_76 wF_1_64 ?_
        refine V_aload_n (pc2 := 80) dX1_advance_79 0 rfl rfl ?_
        obtain ⟨x15, e_x15, h⟩ := bS h
        refine V_gI (pc2 := 83) e_x15 dX1_advance_80 wF_1_31 ?_
        refine V_icmp_ne (pc2 := 86) (tgt := 90) dX1_advance_83 (fun c83 => ?_) (fun c83 => ?_)
        · replace h := iF c83 h
          refine V_iconst (v := 0) (pc2 := 91) dX1_advance_90 (by decide) ?_
          have e1 := inj1 h
          subst e1
          exact V_lv hJ91 [0] rfl
        · replace h := iT c83 h
          refine V_iconst (v := 1) (pc2 := 87) dX1_advance_86 (by decide) ?_
          refine V_goto (tgt := 91) dX1_advance_87 ?_
          have e1 := inj1 h
          subst e1
          exact V_lv hJ91 [0] rfl
    clear h
    have key32 : ∀ (n : Nat) (m6 : Mem), loopF (fX1_advance_b0 a0) n m6 = some m13 → V D 2 IX1_advance 32 [(0, .ref a0), (1, .int y3)] [] m6 0 0 (Qv mR) := by
      intro n
      induction n with
      | zero => intro m6 h; cases h
      | succ n ih =>
        intro m6 h
        obtain ⟨o, h, ho⟩ := loopF_inv h
        dsimp only [fX1_advance_b0] at h
        refine V_aload_n (pc2 := 33) dX1_advance_32 0 rfl rfl ?_
        obtain ⟨x7, e_x7, h⟩ := bS h
        refine V_gI (pc2 := 36) e_x7 dX1_advance_33 wF_1_64 ?_
        refine V_aload_n (pc2 := 37) dX1_advance_36 0 rfl rfl ?_
        obtain ⟨x8, e_x8, h⟩ := bS h
        refine V_gI (pc2 := 40) e_x8 dX1_advance_37 wF_1_18 ?_
        refine V_icmp_ge (pc2 := 43) (tgt := 71) dX1_advance_40 (fun c40 => ?_) (fun c40 => ?_)
        · replace h := iT c40 h
          have ee := inj1 h
          subst ee
          have e1 := pinj1 (loopF_e ho)
          subst e1
          exact hJ71
        · replace h := iF c40 h
          refine V_aload_n (pc2 := 44) dX1_advance_43 0 rfl rfl ?_
          refine V_aload_n (pc2 := 45) dX1_advance_44 0 rfl rfl ?_
          obtain ⟨x9, e_x9, h⟩ := bS h
          refine V_gI (pc2 := 48) e_x9 dX1_advance_45 wF_1_64 ?_
          refine V_bipush (v := 32) (pc2 := 50) dX1_advance_48 (by decide) ?_
          refine V_bipush (v := 32) (pc2 := 52) dX1_advance_50 (by decide) ?_
          obtain ⟨b10, e_b10, h⟩ := bS h
          obtain ⟨⟨fs_b10, o_b10⟩, e_b10⟩ := cV_of e_b10
          refine V_cVi (pc2 := 55) [.int x9, .int (32 : Int32), .int (32 : Int32)] (st := []) o_b10 (tX1_isByte e_b10) dX1_advance_52 wV_1_67 (by decide) rfl (Nat.le_of_ble_eq_true rfl) ?_
          refine V_ifb_eq (pc2 := 58) (tgt := 71) dX1_advance_55 (fun c55 => ?_) (fun c55 => ?_)
          · replace h := iF c55 h
            have ee := inj1 h
            subst ee
            have e1 := pinj1 (loopF_e ho)
            subst e1
            exact hJ71
          · replace h := iT c55 h
            refine V_aload_n (pc2 := 59) dX1_advance_58 0 rfl rfl ?_
            refine V_dup (pc2 := 60) dX1_advance_59 rfl ?_
            obtain ⟨x11, e_x11, h⟩ := bS h
            refine V_gI (pc2 := 63) e_x11 dX1_advance_60 wF_1_64 ?_
            refine V_iconst (v := 1) (pc2 := 64) dX1_advance_63 (by decide) ?_
            refine V_iadd (pc2 := 65) dX1_advance_64 ?_
            obtain ⟨m12, e_m12, h⟩ := bS h
            refine V_pI (pc2 := 68) e_m12 dX1_advance_65 wP_1_64 rfl rfl ?_
            refine V_goto (tgt := 32) dX1_advance_68 ?_
            have ee := inj1 h
            subst ee
            exact (ih _ (loopF_c ho))
    exact V_lv (key32 _ _ hl) [1, 0] rfl
  clear h
  have h := hb
  clear hb
  refine V_icmp_eq (pc2 := 9) (tgt := 18) dX1_advance_6 (fun c6 => ?_) (fun c6 => ?_)
  · replace h := iT c6 h
    refine V_iconst (v := 1) (pc2 := 19) dX1_advance_18 (by decide) ?_
    refine V_goto (tgt := 23) dX1_advance_19 ?_
    have e1 := inj1 h
    subst e1
    exact hJ23
  · replace h := iF c6 h
    refine V_aload_n (pc2 := 10) dX1_advance_9 0 rfl rfl ?_
    obtain ⟨x2, e_x2, h⟩ := bS h
    refine V_gI (pc2 := 13) e_x2 dX1_advance_10 wF_1_34 ?_
    refine V_bipush (v := -3) (pc2 := 15) dX1_advance_13 (by decide) ?_
    refine V_icmp_ne (pc2 := 18) (tgt := 22) dX1_advance_15 (fun c15 => ?_) (fun c15 => ?_)
    · replace h := iF c15 h
      refine V_iconst (v := 0) (pc2 := 23) dX1_advance_22 (by decide) ?_
      have e1 := inj1 h
      subst e1
      exact hJ23
    · replace h := iT c15 h
      refine V_iconst (v := 1) (pc2 := 19) dX1_advance_18 (by decide) ?_
      refine V_goto (tgt := 23) dX1_advance_19 ?_
      have e1 := inj1 h
      subst e1
      exact hJ23
noncomputable def fX1_refuse (a0 : Nat) (m : Mem) : Option (Mem) :=
  (gI m a0 1 5).bind fun x1 =>
  if 0 ≤ x1 then
    some m
  else
    (gI m a0 1 3).bind fun x2 =>
    (pI m a0 1 5 x2).bind fun m3 =>
    some m3
set_option maxRecDepth 20000 in
theorem tX1_refuse {D : Dat} {a0 : Nat} {m : Mem} {mR : Mem} (h : fX1_refuse a0 m = some mR) : T D 0 IX1_refuse [.ref a0] m 0 0 (Qv mR) := by
  refine T_of_V (by decide) (Nat.le_of_ble_eq_true rfl) ?_
  show V D 0 IX1_refuse 0 [(0, .ref a0)] [] m 0 0 (Qv mR)
  unfold fX1_refuse at h
  refine V_aload_n (pc2 := 1) dX1_refuse_0 0 rfl rfl ?_
  obtain ⟨x1, e_x1, h⟩ := bS h
  refine V_gI (pc2 := 4) e_x1 dX1_refuse_1 wF_1_22 ?_
  refine V_if_ge (pc2 := 7) (tgt := 15) dX1_refuse_4 (fun c4 => ?_) (fun c4 => ?_)
  · replace h := iT c4 h
    have e1 := inj1 h
    subst e1
    exact V_vret dX1_refuse_15 rfl ⟨rfl, rfl⟩
  · replace h := iF c4 h
    refine V_aload_n (pc2 := 8) dX1_refuse_7 0 rfl rfl ?_
    refine V_aload_n (pc2 := 9) dX1_refuse_8 0 rfl rfl ?_
    obtain ⟨x2, e_x2, h⟩ := bS h
    refine V_gI (pc2 := 12) e_x2 dX1_refuse_9 wF_1_64 ?_
    obtain ⟨m3, e_m3, h⟩ := bS h
    refine V_pI (pc2 := 15) e_m3 dX1_refuse_12 wP_1_22 rfl rfl ?_
    have e1 := inj1 h
    subst e1
    exact V_vret dX1_refuse_15 rfl ⟨rfl, rfl⟩
noncomputable def fX1_numberHere_b0 (a0 : Nat) (m : Mem) : Int32 × Int32 → Option ((Int32 × Int32) ⊕ Int32) := fun (y2, y3) =>
  (gI m a0 1 4).bind fun x4 =>
  if x4 ≤ y3 then
    some (.inr y2)
  else
    (gI m a0 1 1).bind fun x5 =>
    if x5 ≤ y3 then
      some (.inr y2)
    else
      (gR m a0 1 0).bind fun r6 =>
      (ldI m r6 y3).bind fun x7 =>
      some (.inl (((y2 * (10 : Int32)) + x7) - (48 : Int32), y3 + (1 : Int32)))
noncomputable def fX1_numberHere (a0 : Nat) (m : Mem) : Option (Int32) :=
  (gI m a0 1 3).bind fun x1 =>
  (loopF (fX1_numberHere_b0 a0 m) bigN ((0 : Int32), x1)).bind fun y8 =>
  some y8
set_option maxRecDepth 20000 in
theorem tX1_numberHere {D : Dat} {a0 : Nat} {m : Mem} {rR : Int32} (h : fX1_numberHere a0 m = some rR) : T D 0 IX1_numberHere [.ref a0] m 0 0 (Qi rR m) := by
  refine T_of_V (by decide) (Nat.le_of_ble_eq_true rfl) ?_
  show V D 0 IX1_numberHere 0 [(0, .ref a0)] [] m 0 0 (Qi rR m)
  unfold fX1_numberHere at h
  refine V_iconst (v := 0) (pc2 := 1) dX1_numberHere_0 (by decide) ?_
  refine V_istore_n (pc2 := 2) (L2 := [(1, .int (0 : Int32)), (0, .ref a0)]) dX1_numberHere_1 ?_ rfl rfl rfl
  refine V_aload_n (pc2 := 3) dX1_numberHere_2 1 rfl rfl ?_
  obtain ⟨x1, e_x1, h⟩ := bS h
  refine V_gI (pc2 := 6) e_x1 dX1_numberHere_3 wF_1_64 ?_
  refine V_istore_n (pc2 := 7) (L2 := [(2, .int x1), (1, .int (0 : Int32)), (0, .ref a0)]) dX1_numberHere_6 ?_ rfl rfl rfl
  obtain ⟨y8, hl, h⟩ := bS h
  have hJ44 : V D 0 IX1_numberHere 44 [(1, .int y8)] [] m 0 0 (Qi rR m) := by
    refine V_iload_n (pc2 := 45) dX1_numberHere_44 0 rfl rfl ?_
    have e1 := inj1 h
    subst e1
    exact V_iret dX1_numberHere_45 rfl ⟨rfl, rfl⟩
  clear h
  have key7 : ∀ (n : Nat) (y2 : Int32) (y3 : Int32), loopF (fX1_numberHere_b0 a0 m) n (y2, y3) = some y8 → V D 0 IX1_numberHere 7 [(0, .ref a0), (1, .int y2), (2, .int y3)] [] m 0 0 (Qi rR m) := by
    intro n
    induction n with
    | zero => intro y2 y3 h; cases h
    | succ n ih =>
      intro y2 y3 h
      obtain ⟨o, h, ho⟩ := loopF_inv h
      dsimp only [fX1_numberHere_b0] at h
      refine V_iload_n (pc2 := 8) dX1_numberHere_7 2 rfl rfl ?_
      refine V_aload_n (pc2 := 9) dX1_numberHere_8 0 rfl rfl ?_
      obtain ⟨x4, e_x4, h⟩ := bS h
      refine V_gI (pc2 := 12) e_x4 dX1_numberHere_9 wF_1_31 ?_
      refine V_icmp_ge (pc2 := 15) (tgt := 44) dX1_numberHere_12 (fun c12 => ?_) (fun c12 => ?_)
      · replace h := iT c12 h
        have ee := inj1 h
        subst ee
        have e1 := pinj1 (loopF_e ho)
        subst e1
        exact V_lv hJ44 [1] rfl
      · replace h := iF c12 h
        refine V_iload_n (pc2 := 16) dX1_numberHere_15 2 rfl rfl ?_
        refine V_aload_n (pc2 := 17) dX1_numberHere_16 0 rfl rfl ?_
        obtain ⟨x5, e_x5, h⟩ := bS h
        refine V_gI (pc2 := 20) e_x5 dX1_numberHere_17 wF_1_18 ?_
        refine V_icmp_ge (pc2 := 23) (tgt := 44) dX1_numberHere_20 (fun c20 => ?_) (fun c20 => ?_)
        · replace h := iT c20 h
          have ee := inj1 h
          subst ee
          have e1 := pinj1 (loopF_e ho)
          subst e1
          exact V_lv hJ44 [1] rfl
        · replace h := iF c20 h
          refine V_iload_n (pc2 := 24) dX1_numberHere_23 1 rfl rfl ?_
          refine V_bipush (v := 10) (pc2 := 26) dX1_numberHere_24 (by decide) ?_
          refine V_imul (pc2 := 27) dX1_numberHere_26 ?_
          refine V_aload_n (pc2 := 28) dX1_numberHere_27 0 rfl rfl ?_
          obtain ⟨r6, e_r6, h⟩ := bS h
          refine V_gR (pc2 := 31) e_r6 dX1_numberHere_28 wF_1_9 ?_
          refine V_iload_n (pc2 := 32) dX1_numberHere_31 2 rfl rfl ?_
          obtain ⟨x7, e_x7, h⟩ := bS h
          refine V_ldI (pc2 := 33) e_x7 dX1_numberHere_32 ?_
          refine V_iadd (pc2 := 34) dX1_numberHere_33 ?_
          refine V_bipush (v := 48) (pc2 := 36) dX1_numberHere_34 (by decide) ?_
          refine V_isub (pc2 := 37) dX1_numberHere_36 ?_
          refine V_istore_n (pc2 := 38) (L2 := [(1, .int (((y2 * (10 : Int32)) + x7) - (48 : Int32))), (0, .ref a0), (2, .int y3)]) dX1_numberHere_37 ?_ rfl rfl rfl
          refine V_iinc (pc2 := 41) (v := y3 + (1 : Int32)) (L2 := [(2, .int (y3 + (1 : Int32))), (1, .int (((y2 * (10 : Int32)) + x7) - (48 : Int32))), (0, .ref a0)]) dX1_numberHere_38 2 rfl (by rfl) ?_ rfl rfl
          refine V_goto (tgt := 7) dX1_numberHere_41 ?_
          have ee := inj1 h
          subst ee
          exact V_lv (ih _ _ (loopF_c ho)) [2, 1, 0] rfl
  exact V_lv (key7 _ _ _ hl) [2, 1, 0] rfl
noncomputable def fX1_addStep (a0 : Nat) (p0 : Int32) (m : Mem) : Option (Mem) :=
  (gI m a0 1 9).bind fun x1 =>
  if (96 : Int32) ≤ x1 then
    some m
  else
    (gR m a0 1 8).bind fun r2 =>
    (gI m a0 1 9).bind fun x3 =>
    (stI m r2 x3 p0).bind fun m4 =>
    (gI m4 a0 1 9).bind fun x5 =>
    (pI m4 a0 1 9 (x5 + (1 : Int32))).bind fun m6 =>
    some m6
set_option maxRecDepth 20000 in
theorem tX1_addStep {D : Dat} {a0 : Nat} {p0 : Int32} {m : Mem} {mR : Mem} (h : fX1_addStep a0 p0 m = some mR) : T D 0 IX1_addStep [.ref a0, .int p0] m 0 0 (Qv mR) := by
  refine T_of_V (by decide) (Nat.le_of_ble_eq_true rfl) ?_
  show V D 0 IX1_addStep 0 [(0, .ref a0), (1, .int p0)] [] m 0 0 (Qv mR)
  unfold fX1_addStep at h
  refine V_aload_n (pc2 := 1) dX1_addStep_0 0 rfl rfl ?_
  obtain ⟨x1, e_x1, h⟩ := bS h
  refine V_gI (pc2 := 4) e_x1 dX1_addStep_1 wF_1_28 ?_
  refine V_bipush (v := 96) (pc2 := 6) dX1_addStep_4 (by decide) ?_
  refine V_icmp_ge (pc2 := 9) (tgt := 29) dX1_addStep_6 (fun c6 => ?_) (fun c6 => ?_)
  · replace h := iT c6 h
    have e1 := inj1 h
    subst e1
    exact V_vret dX1_addStep_29 rfl ⟨rfl, rfl⟩
  · replace h := iF c6 h
    refine V_aload_n (pc2 := 10) dX1_addStep_9 0 rfl rfl ?_
    obtain ⟨r2, e_r2, h⟩ := bS h
    refine V_gR (pc2 := 13) e_r2 dX1_addStep_10 wF_1_15 ?_
    refine V_aload_n (pc2 := 14) dX1_addStep_13 0 rfl rfl ?_
    obtain ⟨x3, e_x3, h⟩ := bS h
    refine V_gI (pc2 := 17) e_x3 dX1_addStep_14 wF_1_28 ?_
    refine V_iload_n (pc2 := 18) dX1_addStep_17 1 rfl rfl ?_
    obtain ⟨m4, e_m4, h⟩ := bS h
    refine V_stI (pc2 := 19) e_m4 dX1_addStep_18 ?_
    refine V_aload_n (pc2 := 20) dX1_addStep_19 0 rfl rfl ?_
    refine V_dup (pc2 := 21) dX1_addStep_20 rfl ?_
    obtain ⟨x5, e_x5, h⟩ := bS h
    refine V_gI (pc2 := 24) e_x5 dX1_addStep_21 wF_1_28 ?_
    refine V_iconst (v := 1) (pc2 := 25) dX1_addStep_24 (by decide) ?_
    refine V_iadd (pc2 := 26) dX1_addStep_25 ?_
    obtain ⟨m6, e_m6, h⟩ := bS h
    refine V_pI (pc2 := 29) e_m6 dX1_addStep_26 wP_1_28 rfl rfl ?_
    have e1 := inj1 h
    subst e1
    exact V_vret dX1_addStep_29 rfl ⟨rfl, rfl⟩
noncomputable def fX1_addLeaf (a0 : Nat) (p0 : Int32) (m : Mem) : Option (Mem) :=
  (cV m a0 1 (fX1_addStep a0 p0 m)).bind fun m1 =>
  (gI m1 a0 1 7).bind fun x2 =>
  (pI m1 a0 1 7 (x2 + (1 : Int32))).bind fun m3 =>
  some m3
set_option maxRecDepth 20000 in
theorem tX1_addLeaf {D : Dat} {a0 : Nat} {p0 : Int32} {m : Mem} {mR : Mem} (h : fX1_addLeaf a0 p0 m = some mR) : T D 1 IX1_addLeaf [.ref a0, .int p0] m 0 0 (Qv mR) := by
  refine T_of_V (by decide) (Nat.le_of_ble_eq_true rfl) ?_
  show V D 1 IX1_addLeaf 0 [(0, .ref a0), (1, .int p0)] [] m 0 0 (Qv mR)
  unfold fX1_addLeaf at h
  refine V_aload_n (pc2 := 1) dX1_addLeaf_0 0 rfl rfl ?_
  refine V_iload_n (pc2 := 2) dX1_addLeaf_1 1 rfl rfl ?_
  obtain ⟨m1, e_m1, h⟩ := bS h
  obtain ⟨⟨fs_m1, o_m1⟩, e_m1⟩ := cV_of e_m1
  refine V_cVv (pc2 := 5) [.int p0] (st := []) o_m1 (tX1_addStep e_m1) dX1_addLeaf_2 wV_1_102 (by decide) rfl (Nat.le_of_ble_eq_true rfl) ?_
  refine V_aload_n (pc2 := 6) dX1_addLeaf_5 0 rfl rfl ?_
  refine V_dup (pc2 := 7) dX1_addLeaf_6 rfl ?_
  obtain ⟨x2, e_x2, h⟩ := bS h
  refine V_gI (pc2 := 10) e_x2 dX1_addLeaf_7 wF_1_25 ?_
  refine V_iconst (v := 1) (pc2 := 11) dX1_addLeaf_10 (by decide) ?_
  refine V_iadd (pc2 := 12) dX1_addLeaf_11 ?_
  obtain ⟨m3, e_m3, h⟩ := bS h
  refine V_pI (pc2 := 15) e_m3 dX1_addLeaf_12 wP_1_25 rfl rfl ?_
  have e1 := inj1 h
  subst e1
  exact V_vret dX1_addLeaf_15 rfl ⟨rfl, rfl⟩
noncomputable def fX1_parseClosing (a0 : Nat) (m : Mem) : Option (Mem) :=
  (gI m a0 1 2).bind fun x1 =>
  if x1 = (41 : Int32) then
    (cV m a0 1 (fX1_advance a0 m)).bind fun m3 =>
    some m3
  else
    (cV m a0 1 (fX1_refuse a0 m)).bind fun m2 =>
    some m2
set_option maxRecDepth 20000 in
theorem tX1_parseClosing {D : Dat} {a0 : Nat} {m : Mem} {mR : Mem} (h : fX1_parseClosing a0 m = some mR) : T D 3 IX1_parseClosing [.ref a0] m 0 0 (Qv mR) := by
  refine T_of_V (by decide) (Nat.le_of_ble_eq_true rfl) ?_
  show V D 3 IX1_parseClosing 0 [(0, .ref a0)] [] m 0 0 (Qv mR)
  unfold fX1_parseClosing at h
  refine V_aload_n (pc2 := 1) dX1_parseClosing_0 0 rfl rfl ?_
  obtain ⟨x1, e_x1, h⟩ := bS h
  refine V_gI (pc2 := 4) e_x1 dX1_parseClosing_1 wF_1_34 ?_
  refine V_bipush (v := 41) (pc2 := 6) dX1_parseClosing_4 (by decide) ?_
  refine V_icmp_ne (pc2 := 9) (tgt := 16) dX1_parseClosing_6 (fun c6 => ?_) (fun c6 => ?_)
  · replace h := iF c6 h
    refine V_aload_n (pc2 := 17) dX1_parseClosing_16 0 rfl rfl ?_
    obtain ⟨m2, e_m2, h⟩ := bS h
    obtain ⟨⟨fs_m2, o_m2⟩, e_m2⟩ := cV_of e_m2
    refine V_cVv (pc2 := 20) [] (st := []) o_m2 (tX1_refuse e_m2) dX1_parseClosing_17 wV_1_47 (by decide) rfl (Nat.le_of_ble_eq_true rfl) ?_
    have e1 := inj1 h
    subst e1
    exact V_vret dX1_parseClosing_20 rfl ⟨rfl, rfl⟩
  · replace h := iT c6 h
    refine V_aload_n (pc2 := 10) dX1_parseClosing_9 0 rfl rfl ?_
    obtain ⟨m3, e_m3, h⟩ := bS h
    obtain ⟨⟨fs_m3, o_m3⟩, e_m3⟩ := cV_of e_m3
    refine V_cVv (pc2 := 13) [] (st := []) o_m3 (tX1_advance e_m3) dX1_parseClosing_10 wV_1_37 (by decide) rfl (Nat.le_of_ble_eq_true rfl) ?_
    refine V_goto (tgt := 20) dX1_parseClosing_13 ?_
    have e1 := inj1 h
    subst e1
    exact V_vret dX1_parseClosing_20 rfl ⟨rfl, rfl⟩
noncomputable def fX1_tightness (p0 : Int32) (m : Mem) : Option (Int32) :=
  if p0 = (38 : Int32) then
    some (1 : Int32)
  else if p0 = (42 : Int32) then
    some (4 : Int32)
  else if p0 = (43 : Int32) then
    some (3 : Int32)
  else if p0 = (45 : Int32) then
    some (3 : Int32)
  else if p0 = (47 : Int32) then
    some (4 : Int32)
  else if p0 = (60 : Int32) then
    some (2 : Int32)
  else if p0 = (61 : Int32) then
    some (2 : Int32)
  else if p0 = (62 : Int32) then
    some (2 : Int32)
  else if p0 = (124 : Int32) then
    some (0 : Int32)
  else 
    some (-1 : Int32)
set_option maxRecDepth 20000 in
theorem tX1_tightness {D : Dat} {p0 : Int32} {m : Mem} {rR : Int32} (h : fX1_tightness p0 m = some rR) : T D 0 IX1_tightness [.int p0] m 0 0 (Qi rR m) := by
  refine T_of_V (by decide) (Nat.le_of_ble_eq_true rfl) ?_
  show V D 0 IX1_tightness 0 [(0, .int p0)] [] m 0 0 (Qi rR m)
  unfold fX1_tightness at h
  refine V_iload_n (pc2 := 1) dX1_tightness_0 0 rfl rfl ?_
  by_cases c1_0 : p0 = (38 : Int32)
  · replace h := iT c1_0 h
    refine V_lookup (off := 85) (tgt := 86) dX1_tightness_1 (by decide) (by rw [c1_0]; rfl) ?_
    refine V_iconst (v := 1) (pc2 := 87) dX1_tightness_86 (by decide) ?_
    have e1 := inj1 h
    subst e1
    exact V_iret dX1_tightness_87 rfl ⟨rfl, rfl⟩
  replace h := iF c1_0 h
  by_cases c1_1 : p0 = (42 : Int32)
  · replace h := iT c1_1 h
    refine V_lookup (off := 91) (tgt := 92) dX1_tightness_1 (by decide) (by rw [c1_1]; rfl) ?_
    refine V_iconst (v := 4) (pc2 := 93) dX1_tightness_92 (by decide) ?_
    have e1 := inj1 h
    subst e1
    exact V_iret dX1_tightness_93 rfl ⟨rfl, rfl⟩
  replace h := iF c1_1 h
  by_cases c1_2 : p0 = (43 : Int32)
  · replace h := iT c1_2 h
    refine V_lookup (off := 89) (tgt := 90) dX1_tightness_1 (by decide) (by rw [c1_2]; rfl) ?_
    refine V_iconst (v := 3) (pc2 := 91) dX1_tightness_90 (by decide) ?_
    have e1 := inj1 h
    subst e1
    exact V_iret dX1_tightness_91 rfl ⟨rfl, rfl⟩
  replace h := iF c1_2 h
  by_cases c1_3 : p0 = (45 : Int32)
  · replace h := iT c1_3 h
    refine V_lookup (off := 89) (tgt := 90) dX1_tightness_1 (by decide) (by rw [c1_3]; rfl) ?_
    refine V_iconst (v := 3) (pc2 := 91) dX1_tightness_90 (by decide) ?_
    have e1 := inj1 h
    subst e1
    exact V_iret dX1_tightness_91 rfl ⟨rfl, rfl⟩
  replace h := iF c1_3 h
  by_cases c1_4 : p0 = (47 : Int32)
  · replace h := iT c1_4 h
    refine V_lookup (off := 91) (tgt := 92) dX1_tightness_1 (by decide) (by rw [c1_4]; rfl) ?_
    refine V_iconst (v := 4) (pc2 := 93) dX1_tightness_92 (by decide) ?_
    have e1 := inj1 h
    subst e1
    exact V_iret dX1_tightness_93 rfl ⟨rfl, rfl⟩
  replace h := iF c1_4 h
  by_cases c1_5 : p0 = (60 : Int32)
  · replace h := iT c1_5 h
    refine V_lookup (off := 87) (tgt := 88) dX1_tightness_1 (by decide) (by rw [c1_5]; rfl) ?_
    refine V_iconst (v := 2) (pc2 := 89) dX1_tightness_88 (by decide) ?_
    have e1 := inj1 h
    subst e1
    exact V_iret dX1_tightness_89 rfl ⟨rfl, rfl⟩
  replace h := iF c1_5 h
  by_cases c1_6 : p0 = (61 : Int32)
  · replace h := iT c1_6 h
    refine V_lookup (off := 87) (tgt := 88) dX1_tightness_1 (by decide) (by rw [c1_6]; rfl) ?_
    refine V_iconst (v := 2) (pc2 := 89) dX1_tightness_88 (by decide) ?_
    have e1 := inj1 h
    subst e1
    exact V_iret dX1_tightness_89 rfl ⟨rfl, rfl⟩
  replace h := iF c1_6 h
  by_cases c1_7 : p0 = (62 : Int32)
  · replace h := iT c1_7 h
    refine V_lookup (off := 87) (tgt := 88) dX1_tightness_1 (by decide) (by rw [c1_7]; rfl) ?_
    refine V_iconst (v := 2) (pc2 := 89) dX1_tightness_88 (by decide) ?_
    have e1 := inj1 h
    subst e1
    exact V_iret dX1_tightness_89 rfl ⟨rfl, rfl⟩
  replace h := iF c1_7 h
  by_cases c1_8 : p0 = (124 : Int32)
  · replace h := iT c1_8 h
    refine V_lookup (off := 83) (tgt := 84) dX1_tightness_1 (by decide) (by rw [c1_8]; rfl) ?_
    refine V_iconst (v := 0) (pc2 := 85) dX1_tightness_84 (by decide) ?_
    have e1 := inj1 h
    subst e1
    exact V_iret dX1_tightness_85 rfl ⟨rfl, rfl⟩
  replace h := iF c1_8 h
  refine V_lookup (off := 93) (tgt := 94) dX1_tightness_1 (by decide) ((lv_osw c1_0 (by decide)).trans ((lv_osw c1_1 (by decide)).trans ((lv_osw c1_2 (by decide)).trans ((lv_osw c1_3 (by decide)).trans ((lv_osw c1_4 (by decide)).trans ((lv_osw c1_5 (by decide)).trans ((lv_osw c1_6 (by decide)).trans ((lv_osw c1_7 (by decide)).trans ((lv_osw c1_8 (by decide)).trans (rfl)))))))))) ?_
  refine V_iconst (v := -1) (pc2 := 95) dX1_tightness_94 (by decide) ?_
  have e1 := inj1 h
  subst e1
  exact V_iret dX1_tightness_95 rfl ⟨rfl, rfl⟩
noncomputable def fX2_addText (a0 : Nat) (p0 : Nat) (m : Mem) : Option (Mem) :=
  (gI m a0 2 7).bind fun x1 =>
  if (14 : Int32) ≤ x1 then
    some m
  else
    (gI m p0 6 0).bind fun x2 =>
    (fX7_within x2 (0 : Int32) (2 : Int32) m).bind fun b3 =>
    if b3 = true then
      (gR m a0 2 6).bind fun r4 =>
      (gI m a0 2 7).bind fun x5 =>
      (stR m r4 3 6 x5 p0).bind fun m6 =>
      (gR m6 a0 2 8).bind fun r7 =>
      (gI m6 p0 6 0).bind fun x8 =>
      (gI m6 a0 2 7).bind fun x9 =>
      (stI m6 r7 x8 x9).bind fun m10 =>
      (gI m10 a0 2 7).bind fun x11 =>
      (pI m10 a0 2 7 (x11 + (1 : Int32))).bind fun m12 =>
      some m12
    else
      some m
set_option maxRecDepth 20000 in
theorem tX2_addText {D : Dat} {a0 : Nat} {p0 : Nat} {m : Mem} {mR : Mem} (h : fX2_addText a0 p0 m = some mR) : T D 1 IX2_addText [.ref a0, .ref p0] m 0 0 (Qv mR) := by
  refine T_of_V (by decide) (Nat.le_of_ble_eq_true rfl) ?_
  show V D 1 IX2_addText 0 [(0, .ref a0), (1, .ref p0)] [] m 0 0 (Qv mR)
  unfold fX2_addText at h
  refine V_aload_n (pc2 := 1) dX2_addText_0 0 rfl rfl ?_
  obtain ⟨x1, e_x1, h⟩ := bS h
  refine V_gI (pc2 := 4) e_x1 dX2_addText_1 wF_2_70 ?_
  refine V_bipush (v := 14) (pc2 := 6) dX2_addText_4 (by decide) ?_
  refine V_icmp_ge (pc2 := 9) (tgt := 54) dX2_addText_6 (fun c6 => ?_) (fun c6 => ?_)
  · replace h := iT c6 h
    have e1 := inj1 h
    subst e1
    exact V_vret dX2_addText_54 rfl ⟨rfl, rfl⟩
  · replace h := iF c6 h
    refine V_aload_n (pc2 := 10) dX2_addText_9 1 rfl rfl ?_
    obtain ⟨x2, e_x2, h⟩ := bS h
    refine V_gI (pc2 := 13) e_x2 dX2_addText_10 wF_2_123 ?_
    refine V_iconst (v := 0) (pc2 := 14) dX2_addText_13 (by decide) ?_
    refine V_iconst (v := 2) (pc2 := 15) dX2_addText_14 (by decide) ?_
    obtain ⟨b3, e_b3, h⟩ := bS h
    refine V_cNi (pc2 := 18) [.int x2, .int (0 : Int32), .int (2 : Int32)] (st := []) (tX7_within e_b3) dX2_addText_15 wN_2_98 (by decide) rfl (Nat.le_of_ble_eq_true rfl) ?_
    refine V_ifb_eq (pc2 := 21) (tgt := 54) dX2_addText_18 (fun c18 => ?_) (fun c18 => ?_)
    · replace h := iF c18 h
      have e1 := inj1 h
      subst e1
      exact V_vret dX2_addText_54 rfl ⟨rfl, rfl⟩
    · replace h := iT c18 h
      refine V_aload_n (pc2 := 22) dX2_addText_21 0 rfl rfl ?_
      obtain ⟨r4, e_r4, h⟩ := bS h
      refine V_gR (pc2 := 25) e_r4 dX2_addText_22 wF_2_29 ?_
      refine V_aload_n (pc2 := 26) dX2_addText_25 0 rfl rfl ?_
      obtain ⟨x5, e_x5, h⟩ := bS h
      refine V_gI (pc2 := 29) e_x5 dX2_addText_26 wF_2_70 ?_
      refine V_aload_n (pc2 := 30) dX2_addText_29 1 rfl rfl ?_
      obtain ⟨m6, e_m6, h⟩ := bS h
      refine V_stR (pc2 := 31) e_m6 dX2_addText_30 rfl rfl ?_
      refine V_aload_n (pc2 := 32) dX2_addText_31 0 rfl rfl ?_
      obtain ⟨r7, e_r7, h⟩ := bS h
      refine V_gR (pc2 := 35) e_r7 dX2_addText_32 wF_2_33 ?_
      refine V_aload_n (pc2 := 36) dX2_addText_35 1 rfl rfl ?_
      obtain ⟨x8, e_x8, h⟩ := bS h
      refine V_gI (pc2 := 39) e_x8 dX2_addText_36 wF_2_123 ?_
      refine V_aload_n (pc2 := 40) dX2_addText_39 0 rfl rfl ?_
      obtain ⟨x9, e_x9, h⟩ := bS h
      refine V_gI (pc2 := 43) e_x9 dX2_addText_40 wF_2_70 ?_
      obtain ⟨m10, e_m10, h⟩ := bS h
      refine V_stI (pc2 := 44) e_m10 dX2_addText_43 ?_
      refine V_aload_n (pc2 := 45) dX2_addText_44 0 rfl rfl ?_
      refine V_dup (pc2 := 46) dX2_addText_45 rfl ?_
      obtain ⟨x11, e_x11, h⟩ := bS h
      refine V_gI (pc2 := 49) e_x11 dX2_addText_46 wF_2_70 ?_
      refine V_iconst (v := 1) (pc2 := 50) dX2_addText_49 (by decide) ?_
      refine V_iadd (pc2 := 51) dX2_addText_50 ?_
      obtain ⟨m12, e_m12, h⟩ := bS h
      refine V_pI (pc2 := 54) e_m12 dX2_addText_51 wP_2_70 rfl rfl ?_
      have e1 := inj1 h
      subst e1
      exact V_vret dX2_addText_54 rfl ⟨rfl, rfl⟩
noncomputable def fX7_textTold (a0 : Nat) (p0 : Int32) (p1 : Int32) (m : Mem) : Option (Int32) :=
  (gR m a0 7 0).bind fun r1 =>
  (gI m r1 2 7).bind fun x2 =>
  (fX7_within p0 (0 : Int32) (x2 - (1 : Int32)) m).bind fun b3 =>
  if b3 = true then
    (fX7_within p1 (0 : Int32) (1 : Int32) m).bind fun b4 =>
    if b4 = true then
      (gR m a0 7 0).bind fun r5 =>
      (gR m r5 2 6).bind fun r6 =>
      (ldR m r6 3 p0).bind fun r7 =>
      if p1 = 0 then
        (gI m r7 6 0).bind fun x9 =>
        some x9
      else
        (gI m r7 6 1).bind fun x8 =>
        some x8
    else
      some (-1000000001 : Int32)
  else
    some (-1000000001 : Int32)
set_option maxRecDepth 20000 in
theorem tX7_textTold {D : Dat} {a0 : Nat} {p0 : Int32} {p1 : Int32} {m : Mem} {rR : Int32} (h : fX7_textTold a0 p0 p1 m = some rR) : T D 1 IX7_textTold [.ref a0, .int p0, .int p1] m 0 0 (Qi rR m) := by
  refine T_of_V (by decide) (Nat.le_of_ble_eq_true rfl) ?_
  show V D 1 IX7_textTold 0 [(0, .ref a0), (1, .int p0), (2, .int p1)] [] m 0 0 (Qi rR m)
  unfold fX7_textTold at h
  refine V_iload_n (pc2 := 1) dX7_textTold_0 1 rfl rfl ?_
  refine V_iconst (v := 0) (pc2 := 2) dX7_textTold_1 (by decide) ?_
  refine V_aload_n (pc2 := 3) dX7_textTold_2 0 rfl rfl ?_
  obtain ⟨r1, e_r1, h⟩ := bS h
  refine V_gR (pc2 := 6) e_r1 dX7_textTold_3 wF_7_10 ?_
  obtain ⟨x2, e_x2, h⟩ := bS h
  refine V_gI (pc2 := 9) e_x2 dX7_textTold_6 wF_7_240 ?_
  refine V_iconst (v := 1) (pc2 := 10) dX7_textTold_9 (by decide) ?_
  refine V_isub (pc2 := 11) dX7_textTold_10 ?_
  obtain ⟨b3, e_b3, h⟩ := bS h
  refine V_cSi (pc2 := 14) [.int p0, .int (0 : Int32), .int (x2 - (1 : Int32))] (st := []) (tX7_within e_b3) dX7_textTold_11 wS_7_47 (by decide) rfl (Nat.le_of_ble_eq_true rfl) ?_
  refine V_ifb_eq (pc2 := 17) (tgt := 26) dX7_textTold_14 (fun c14 => ?_) (fun c14 => ?_)
  · replace h := iF c14 h
    refine V_ldc (v := -1000000001) (pc2 := 28) dX7_textTold_26 wconstant_7_51 ?_
    have e1 := inj1 h
    subst e1
    exact V_iret dX7_textTold_28 rfl ⟨rfl, rfl⟩
  · replace h := iT c14 h
    refine V_iload_n (pc2 := 18) dX7_textTold_17 2 rfl rfl ?_
    refine V_iconst (v := 0) (pc2 := 19) dX7_textTold_18 (by decide) ?_
    refine V_iconst (v := 1) (pc2 := 20) dX7_textTold_19 (by decide) ?_
    obtain ⟨b4, e_b4, h⟩ := bS h
    refine V_cSi (pc2 := 23) [.int p1, .int (0 : Int32), .int (1 : Int32)] (st := []) (tX7_within e_b4) dX7_textTold_20 wS_7_47 (by decide) rfl (Nat.le_of_ble_eq_true rfl) ?_
    refine V_ifb_ne (pc2 := 26) (tgt := 29) dX7_textTold_23 (fun c23 => ?_) (fun c23 => ?_)
    · replace h := iT c23 h
      refine V_aload_n (pc2 := 30) dX7_textTold_29 0 rfl rfl ?_
      obtain ⟨r5, e_r5, h⟩ := bS h
      refine V_gR (pc2 := 33) e_r5 dX7_textTold_30 wF_7_10 ?_
      obtain ⟨r6, e_r6, h⟩ := bS h
      refine V_gR (pc2 := 36) e_r6 dX7_textTold_33 wF_7_251 ?_
      refine V_iload_n (pc2 := 37) dX7_textTold_36 1 rfl rfl ?_
      obtain ⟨r7, e_r7, h⟩ := bS h
      refine V_ldR (pc2 := 38) e_r7 dX7_textTold_37 rfl ?_
      refine V_astore_n (pc2 := 39) (L2 := [(3, .ref r7), (0, .ref a0), (1, .int p0), (2, .int p1)]) dX7_textTold_38 ?_ rfl rfl rfl
      refine V_aload_n (pc2 := 40) dX7_textTold_39 0 rfl rfl ?_
      refine V_ifnonnull (x := some r7) (pc2 := 43) (tgt := 46) dX7_textTold_40 (fun _ _ => ?_) (fun c => by cases c)
      refine V_iload_n (pc2 := 47) dX7_textTold_46 3 rfl rfl ?_
      refine V_if_ne (pc2 := 50) (tgt := 57) dX7_textTold_47 (fun c47 => ?_) (fun c47 => ?_)
      · replace h := iF c47 h
        refine V_aload_n (pc2 := 58) dX7_textTold_57 0 rfl rfl ?_
        obtain ⟨x8, e_x8, h⟩ := bS h
        refine V_gI (pc2 := 61) e_x8 dX7_textTold_58 wF_7_260 ?_
        have e1 := inj1 h
        subst e1
        exact V_iret dX7_textTold_61 rfl ⟨rfl, rfl⟩
      · replace h := iT c47 h
        refine V_aload_n (pc2 := 51) dX7_textTold_50 0 rfl rfl ?_
        obtain ⟨x9, e_x9, h⟩ := bS h
        refine V_gI (pc2 := 54) e_x9 dX7_textTold_51 wF_7_255 ?_
        refine V_goto (tgt := 61) dX7_textTold_54 ?_
        have e1 := inj1 h
        subst e1
        exact V_iret dX7_textTold_61 rfl ⟨rfl, rfl⟩
    · replace h := iF c23 h
      refine V_ldc (v := -1000000001) (pc2 := 28) dX7_textTold_26 wconstant_7_51 ?_
      have e1 := inj1 h
      subst e1
      exact V_iret dX7_textTold_28 rfl ⟨rfl, rfl⟩
noncomputable def fX7_why (a0 : Nat) (p0 : Int32) (m : Mem) : Option (Int32) :=
  (fX7_within p0 (0 : Int32) (2 : Int32) m).bind fun b1 =>
  if b1 = true then
    (gR m a0 7 0).bind fun r2 =>
    (gR m r2 2 8).bind fun r3 =>
    (ldI m r3 p0).bind fun x4 =>
    (fX7_orNone x4 m).bind fun x5 =>
    some x5
  else
    some (-1000000001 : Int32)
set_option maxRecDepth 20000 in
theorem tX7_why {D : Dat} {a0 : Nat} {p0 : Int32} {m : Mem} {rR : Int32} (h : fX7_why a0 p0 m = some rR) : T D 1 IX7_why [.ref a0, .int p0] m 0 0 (Qi rR m) := by
  refine T_of_V (by decide) (Nat.le_of_ble_eq_true rfl) ?_
  show V D 1 IX7_why 0 [(0, .ref a0), (1, .int p0)] [] m 0 0 (Qi rR m)
  unfold fX7_why at h
  refine V_iload_n (pc2 := 1) dX7_why_0 1 rfl rfl ?_
  refine V_iconst (v := 0) (pc2 := 2) dX7_why_1 (by decide) ?_
  refine V_iconst (v := 2) (pc2 := 3) dX7_why_2 (by decide) ?_
  obtain ⟨b1, e_b1, h⟩ := bS h
  refine V_cSi (pc2 := 6) [.int p0, .int (0 : Int32), .int (2 : Int32)] (st := []) (tX7_within e_b1) dX7_why_3 wS_7_47 (by decide) rfl (Nat.le_of_ble_eq_true rfl) ?_
  refine V_ifb_eq (pc2 := 9) (tgt := 24) dX7_why_6 (fun c6 => ?_) (fun c6 => ?_)
  · replace h := iF c6 h
    refine V_ldc (v := -1000000001) (pc2 := 26) dX7_why_24 wconstant_7_51 ?_
    have e1 := inj1 h
    subst e1
    exact V_iret dX7_why_26 rfl ⟨rfl, rfl⟩
  · replace h := iT c6 h
    refine V_aload_n (pc2 := 10) dX7_why_9 0 rfl rfl ?_
    obtain ⟨r2, e_r2, h⟩ := bS h
    refine V_gR (pc2 := 13) e_r2 dX7_why_10 wF_7_10 ?_
    obtain ⟨r3, e_r3, h⟩ := bS h
    refine V_gR (pc2 := 16) e_r3 dX7_why_13 wF_7_263 ?_
    refine V_iload_n (pc2 := 17) dX7_why_16 1 rfl rfl ?_
    obtain ⟨x4, e_x4, h⟩ := bS h
    refine V_ldI (pc2 := 18) e_x4 dX7_why_17 ?_
    obtain ⟨x5, e_x5, h⟩ := bS h
    refine V_cSi (pc2 := 21) [.int x4] (st := []) (tX7_orNone e_x5) dX7_why_18 wS_7_84 (by decide) rfl (Nat.le_of_ble_eq_true rfl) ?_
    refine V_goto (tgt := 26) dX7_why_21 ?_
    have e1 := inj1 h
    subst e1
    exact V_iret dX7_why_26 rfl ⟨rfl, rfl⟩
noncomputable def fJ7_fill_53178_b0 (p0 : Nat) (p1 : Int32) (x1 : Int32) : Int32 × Mem → Option ((Int32 × Mem) ⊕ Mem) := fun (y2, m3) =>
  if x1 ≤ y2 then
    some (.inr m3)
  else
    (stI m3 p0 y2 p1).bind fun m4 =>
    some (.inl (y2 + (1 : Int32), m4))
noncomputable def fJ7_fill_53178 (p0 : Nat) (p1 : Int32) (m : Mem) : Option (Mem) :=
  (alI m p0).bind fun x1 =>
  (loopF (fJ7_fill_53178_b0 p0 p1 x1) bigN ((0 : Int32), m)).bind fun m5 =>
  some m5
set_option maxRecDepth 20000 in
theorem tJ7_fill_53178 {D : Dat} {p0 : Nat} {p1 : Int32} {m : Mem} {mR : Mem} (h : fJ7_fill_53178 p0 p1 m = some mR) : T D 0 IJ7_fill_53178 [.ref p0, .int p1] m 0 0 (Qv mR) := by
  refine T_of_V (by decide) (Nat.le_of_ble_eq_true rfl) ?_
  show V D 0 IJ7_fill_53178 0 [(0, .ref p0), (1, .int p1)] [] m 0 0 (Qv mR)
  unfold fJ7_fill_53178 at h
  refine V_iconst (v := 0) (pc2 := 1) dJ7_fill_53178_0 (by decide) ?_
  refine V_istore_n (pc2 := 2) (L2 := [(2, .int (0 : Int32)), (0, .ref p0), (1, .int p1)]) dJ7_fill_53178_1 ?_ rfl rfl rfl
  refine V_aload_n (pc2 := 3) dJ7_fill_53178_2 1 rfl rfl ?_
  obtain ⟨x1, e_x1, h⟩ := bS h
  refine V_alI (pc2 := 4) e_x1 dJ7_fill_53178_3 ?_
  refine V_istore_n (pc2 := 5) (L2 := [(3, .int x1), (2, .int (0 : Int32)), (0, .ref p0), (1, .int p1)]) dJ7_fill_53178_4 ?_ rfl rfl rfl
  obtain ⟨m5, hl, h⟩ := bS h
  have hJ20 : V D 0 IJ7_fill_53178 20 [] [] m5 0 0 (Qv mR) := by
    have e1 := inj1 h
    subst e1
    exact V_vret dJ7_fill_53178_20 rfl ⟨rfl, rfl⟩
  clear h
  have key5 : ∀ (n : Nat) (y2 : Int32) (m3 : Mem), loopF (fJ7_fill_53178_b0 p0 p1 x1) n (y2, m3) = some m5 → V D 0 IJ7_fill_53178 5 [(0, .ref p0), (1, .int p1), (2, .int y2), (3, .int x1)] [] m3 0 0 (Qv mR) := by
    intro n
    induction n with
    | zero => intro y2 m3 h; cases h
    | succ n ih =>
      intro y2 m3 h
      obtain ⟨o, h, ho⟩ := loopF_inv h
      dsimp only [fJ7_fill_53178_b0] at h
      refine V_iload_n (pc2 := 6) dJ7_fill_53178_5 2 rfl rfl ?_
      refine V_iload_n (pc2 := 7) dJ7_fill_53178_6 3 rfl rfl ?_
      refine V_icmp_ge (pc2 := 10) (tgt := 20) dJ7_fill_53178_7 (fun c7 => ?_) (fun c7 => ?_)
      · replace h := iT c7 h
        have ee := inj1 h
        subst ee
        have e1 := pinj1 (loopF_e ho)
        subst e1
        exact V_lv hJ20 [] rfl
      · replace h := iF c7 h
        refine V_aload_n (pc2 := 11) dJ7_fill_53178_10 0 rfl rfl ?_
        refine V_iload_n (pc2 := 12) dJ7_fill_53178_11 2 rfl rfl ?_
        refine V_iload_n (pc2 := 13) dJ7_fill_53178_12 1 rfl rfl ?_
        obtain ⟨m4, e_m4, h⟩ := bS h
        refine V_stI (pc2 := 14) e_m4 dJ7_fill_53178_13 ?_
        refine V_iinc (pc2 := 17) (v := y2 + (1 : Int32)) (L2 := [(2, .int (y2 + (1 : Int32))), (0, .ref p0), (1, .int p1), (3, .int x1)]) dJ7_fill_53178_14 2 rfl (by rfl) ?_ rfl rfl
        refine V_goto (tgt := 5) dJ7_fill_53178_17 ?_
        have ee := inj1 h
        subst ee
        exact V_lv (ih _ _ (loopF_c ho)) [1, 2, 0, 3] rfl
  exact V_lv (key5 _ _ _ hl) [2, 3, 1, 0] rfl
noncomputable def fX3_begin (a0 : Nat) (p0 : Int32) (p1 : Int32) (m : Mem) : Option (Mem) :=
  (pI m a0 3 0 p0).bind fun m1 =>
  (pI m1 a0 3 1 p1).bind fun m2 =>
  (gR m2 a0 3 2).bind fun r3 =>
  (fJ7_fill_53178 r3 (0 : Int32) m2).bind fun m4 =>
  some m4
set_option maxRecDepth 20000 in
theorem tX3_begin {D : Dat} {a0 : Nat} {p0 : Int32} {p1 : Int32} {m : Mem} {mR : Mem} (h : fX3_begin a0 p0 p1 m = some mR) : T D 1 IX3_begin [.ref a0, .int p0, .int p1] m 0 0 (Qv mR) := by
  refine T_of_V (by decide) (Nat.le_of_ble_eq_true rfl) ?_
  show V D 1 IX3_begin 0 [(0, .ref a0), (1, .int p0), (2, .int p1)] [] m 0 0 (Qv mR)
  unfold fX3_begin at h
  refine V_aload_n (pc2 := 1) dX3_begin_0 0 rfl rfl ?_
  refine V_iload_n (pc2 := 2) dX3_begin_1 1 rfl rfl ?_
  obtain ⟨m1, e_m1, h⟩ := bS h
  refine V_pI (pc2 := 5) e_m1 dX3_begin_2 wP_3_9 rfl rfl ?_
  refine V_aload_n (pc2 := 6) dX3_begin_5 0 rfl rfl ?_
  refine V_iload_n (pc2 := 7) dX3_begin_6 2 rfl rfl ?_
  obtain ⟨m2, e_m2, h⟩ := bS h
  refine V_pI (pc2 := 10) e_m2 dX3_begin_7 wP_3_19 rfl rfl ?_
  refine V_aload_n (pc2 := 11) dX3_begin_10 0 rfl rfl ?_
  obtain ⟨r3, e_r3, h⟩ := bS h
  refine V_gR (pc2 := 14) e_r3 dX3_begin_11 wF_3_15 ?_
  refine V_iconst (v := 0) (pc2 := 15) dX3_begin_14 (by decide) ?_
  obtain ⟨m4, e_m4, h⟩ := bS h
  refine V_cSv (pc2 := 18) [.ref r3, .int (0 : Int32)] (st := []) (tJ7_fill_53178 e_m4) dX3_begin_15 wS_3_22 (by decide) rfl (Nat.le_of_ble_eq_true rfl) ?_
  have e1 := inj1 h
  subst e1
  exact V_vret dX3_begin_18 rfl ⟨rfl, rfl⟩
noncomputable def fX7_sheet (a0 : Nat) (p0 : Int32) (p1 : Int32) (p2 : Int32) (m : Mem) : Option (Int32 × Mem) :=
  (fX7_isSheet p0 m).bind fun b1 =>
  if b1 = true then
    (fX7_within p1 (-1 : Int32) (1 : Int32) m).bind fun b2 =>
    if b2 = true then
      if p1 = (-1 : Int32) then
        (gR m a0 7 5).bind fun r6 =>
        (ldR m r6 4 p0).bind fun r7 =>
        (cV m r7 3 (fX3_begin r7 (-1 : Int32) (0 : Int32) m)).bind fun m8 =>
        some ((0 : Int32), m8)
      else
        if p2 ≤ (24 : Int32) then
          if 0 ≤ p2 then
            (gR m a0 7 5).bind fun r3 =>
            (ldR m r3 4 p0).bind fun r4 =>
            (cV m r4 3 (fX3_begin r4 p1 p2 m)).bind fun m5 =>
            some (p2, m5)
          else
            some ((-1000000014 : Int32), m)
        else
          some ((-1000000001 : Int32), m)
    else
      some ((-1000000001 : Int32), m)
  else
    some ((-1000000001 : Int32), m)
set_option maxRecDepth 20000 in
theorem tX7_sheet {D : Dat} {a0 : Nat} {p0 : Int32} {p1 : Int32} {p2 : Int32} {m : Mem} {rR : Int32} {mR : Mem} (h : fX7_sheet a0 p0 p1 p2 m = some (rR, mR)) : T D 2 IX7_sheet [.ref a0, .int p0, .int p1, .int p2] m 0 0 (Qi rR mR) := by
  refine T_of_V (by decide) (Nat.le_of_ble_eq_true rfl) ?_
  show V D 2 IX7_sheet 0 [(0, .ref a0), (1, .int p0), (2, .int p1), (3, .int p2)] [] m 0 0 (Qi rR mR)
  unfold fX7_sheet at h
  refine V_iload_n (pc2 := 1) dX7_sheet_0 1 rfl rfl ?_
  obtain ⟨b1, e_b1, h⟩ := bS h
  refine V_cSi (pc2 := 4) [.int p0] (st := []) (tX7_isSheet e_b1) dX7_sheet_1 wS_7_206 (by decide) rfl (Nat.le_of_ble_eq_true rfl) ?_
  refine V_ifb_eq (pc2 := 7) (tgt := 16) dX7_sheet_4 (fun c4 => ?_) (fun c4 => ?_)
  · replace h := iF c4 h
    refine V_ldc (v := -1000000001) (pc2 := 18) dX7_sheet_16 wconstant_7_51 ?_
    obtain ⟨e1, e2⟩ := inj2 h
    subst e1
    subst e2
    exact V_iret dX7_sheet_18 rfl ⟨rfl, rfl⟩
  · replace h := iT c4 h
    refine V_iload_n (pc2 := 8) dX7_sheet_7 2 rfl rfl ?_
    refine V_iconst (v := -1) (pc2 := 9) dX7_sheet_8 (by decide) ?_
    refine V_iconst (v := 1) (pc2 := 10) dX7_sheet_9 (by decide) ?_
    obtain ⟨b2, e_b2, h⟩ := bS h
    refine V_cSi (pc2 := 13) [.int p1, .int (-1 : Int32), .int (1 : Int32)] (st := []) (tX7_within e_b2) dX7_sheet_10 wS_7_47 (by decide) rfl (Nat.le_of_ble_eq_true rfl) ?_
    refine V_ifb_ne (pc2 := 16) (tgt := 19) dX7_sheet_13 (fun c13 => ?_) (fun c13 => ?_)
    · replace h := iT c13 h
      refine V_iload_n (pc2 := 20) dX7_sheet_19 2 rfl rfl ?_
      refine V_iconst (v := -1) (pc2 := 21) dX7_sheet_20 (by decide) ?_
      refine V_icmp_ne (pc2 := 24) (tgt := 37) dX7_sheet_21 (fun c21 => ?_) (fun c21 => ?_)
      · replace h := iF c21 h
        refine V_iload_n (pc2 := 38) dX7_sheet_37 3 rfl rfl ?_
        refine V_bipush (v := 24) (pc2 := 40) dX7_sheet_38 (by decide) ?_
        refine V_icmp_le (pc2 := 43) (tgt := 46) dX7_sheet_40 (fun c40 => ?_) (fun c40 => ?_)
        · replace h := iT c40 h
          refine V_iload_n (pc2 := 47) dX7_sheet_46 3 rfl rfl ?_
          refine V_if_ge (pc2 := 50) (tgt := 54) dX7_sheet_47 (fun c47 => ?_) (fun c47 => ?_)
          · replace h := iT c47 h
            refine V_aload_n (pc2 := 55) dX7_sheet_54 0 rfl rfl ?_
            obtain ⟨r3, e_r3, h⟩ := bS h
            refine V_gR (pc2 := 58) e_r3 dX7_sheet_55 wF_7_31 ?_
            refine V_iload_n (pc2 := 59) dX7_sheet_58 1 rfl rfl ?_
            obtain ⟨r4, e_r4, h⟩ := bS h
            refine V_ldR (pc2 := 60) e_r4 dX7_sheet_59 rfl ?_
            refine V_iload_n (pc2 := 61) dX7_sheet_60 2 rfl rfl ?_
            refine V_iload_n (pc2 := 62) dX7_sheet_61 3 rfl rfl ?_
            obtain ⟨m5, e_m5, h⟩ := bS h
            obtain ⟨⟨fs_m5, o_m5⟩, e_m5⟩ := cV_of e_m5
            refine V_cVv (pc2 := 65) [.int p1, .int p2] (st := []) o_m5 (tX3_begin e_m5) dX7_sheet_62 wV_7_266 (by decide) rfl (Nat.le_of_ble_eq_true rfl) ?_
            refine V_iload_n (pc2 := 66) dX7_sheet_65 3 rfl rfl ?_
            obtain ⟨e1, e2⟩ := inj2 h
            subst e1
            subst e2
            exact V_iret dX7_sheet_66 rfl ⟨rfl, rfl⟩
          · replace h := iF c47 h
            refine V_ldcw (v := -1000000014) (pc2 := 53) dX7_sheet_50 wconstant_7_270 ?_
            obtain ⟨e1, e2⟩ := inj2 h
            subst e1
            subst e2
            exact V_iret dX7_sheet_53 rfl ⟨rfl, rfl⟩
        · replace h := iF c40 h
          refine V_ldc (v := -1000000001) (pc2 := 45) dX7_sheet_43 wconstant_7_51 ?_
          obtain ⟨e1, e2⟩ := inj2 h
          subst e1
          subst e2
          exact V_iret dX7_sheet_45 rfl ⟨rfl, rfl⟩
      · replace h := iT c21 h
        refine V_aload_n (pc2 := 25) dX7_sheet_24 0 rfl rfl ?_
        obtain ⟨r6, e_r6, h⟩ := bS h
        refine V_gR (pc2 := 28) e_r6 dX7_sheet_25 wF_7_31 ?_
        refine V_iload_n (pc2 := 29) dX7_sheet_28 1 rfl rfl ?_
        obtain ⟨r7, e_r7, h⟩ := bS h
        refine V_ldR (pc2 := 30) e_r7 dX7_sheet_29 rfl ?_
        refine V_iconst (v := -1) (pc2 := 31) dX7_sheet_30 (by decide) ?_
        refine V_iconst (v := 0) (pc2 := 32) dX7_sheet_31 (by decide) ?_
        obtain ⟨m8, e_m8, h⟩ := bS h
        obtain ⟨⟨fs_m8, o_m8⟩, e_m8⟩ := cV_of e_m8
        refine V_cVv (pc2 := 35) [.int (-1 : Int32), .int (0 : Int32)] (st := []) o_m8 (tX3_begin e_m8) dX7_sheet_32 wV_7_266 (by decide) rfl (Nat.le_of_ble_eq_true rfl) ?_
        refine V_iconst (v := 0) (pc2 := 36) dX7_sheet_35 (by decide) ?_
        obtain ⟨e1, e2⟩ := inj2 h
        subst e1
        subst e2
        exact V_iret dX7_sheet_36 rfl ⟨rfl, rfl⟩
    · replace h := iF c13 h
      refine V_ldc (v := -1000000001) (pc2 := 18) dX7_sheet_16 wconstant_7_51 ?_
      obtain ⟨e1, e2⟩ := inj2 h
      subst e1
      subst e2
      exact V_iret dX7_sheet_18 rfl ⟨rfl, rfl⟩
noncomputable def fX7_mark (a0 : Nat) (p0 : Int32) (p1 : Int32) (p2 : Int32) (m : Mem) : Option (Int32 × Mem) :=
  (fX7_isSheet p0 m).bind fun b1 =>
  if b1 = true then
    (gR m a0 7 5).bind fun r2 =>
    (ldR m r2 4 p0).bind fun r3 =>
    (gI m r3 3 0).bind fun x4 =>
    if x4 = (-1 : Int32) then
      some ((-1000000011 : Int32), m)
    else
      (gI m r3 3 1).bind fun x5 =>
      (fX7_within p1 (0 : Int32) (x5 - (1 : Int32)) m).bind fun b6 =>
      if b6 = true then
        (gI m r3 3 0).bind fun x7 =>
        if x7 = 0 then
          if p2 = (-1000000005 : Int32) then
            some ((-1000000012 : Int32), m)
          else
            (gI m r3 3 0).bind fun x22 =>
            if x22 = (1 : Int32) then
              if p2 = (-1000000005 : Int32) then
                (gR m r3 3 2).bind fun r27 =>
                (gI m r3 3 0).bind fun x28 =>
                (
                  if x28 = 0 then
                    some p2.toInt16.toInt32
                  else
                    some p2).bind fun y29 =>
                (stI m r27 p1 y29).bind fun m30 =>
                some ((1 : Int32), m30)
              else
                (fX7_within p2 (-99999 : Int32) (99999 : Int32) m).bind fun b31 =>
                if b31 = true then
                  (gR m r3 3 2).bind fun r32 =>
                  (gI m r3 3 0).bind fun x33 =>
                  (
                    if x33 = 0 then
                      some p2.toInt16.toInt32
                    else
                      some p2).bind fun y34 =>
                  (stI m r32 p1 y34).bind fun m35 =>
                  some ((1 : Int32), m35)
                else
                  some ((-1000000001 : Int32), m)
            else
              (gR m r3 3 2).bind fun r23 =>
              (gI m r3 3 0).bind fun x24 =>
              (
                if x24 = 0 then
                  some p2.toInt16.toInt32
                else
                  some p2).bind fun y25 =>
              (stI m r23 p1 y25).bind fun m26 =>
              some ((1 : Int32), m26)
        else
          (gI m r3 3 0).bind fun x8 =>
          if x8 = (1 : Int32) then
            if p2 = (-1000000005 : Int32) then
              (gR m r3 3 2).bind fun r13 =>
              (gI m r3 3 0).bind fun x14 =>
              (
                if x14 = 0 then
                  some p2.toInt16.toInt32
                else
                  some p2).bind fun y15 =>
              (stI m r13 p1 y15).bind fun m16 =>
              some ((1 : Int32), m16)
            else
              (fX7_within p2 (-99999 : Int32) (99999 : Int32) m).bind fun b17 =>
              if b17 = true then
                (gR m r3 3 2).bind fun r18 =>
                (gI m r3 3 0).bind fun x19 =>
                (
                  if x19 = 0 then
                    some p2.toInt16.toInt32
                  else
                    some p2).bind fun y20 =>
                (stI m r18 p1 y20).bind fun m21 =>
                some ((1 : Int32), m21)
              else
                some ((-1000000001 : Int32), m)
          else
            (gR m r3 3 2).bind fun r9 =>
            (gI m r3 3 0).bind fun x10 =>
            (
              if x10 = 0 then
                some p2.toInt16.toInt32
              else
                some p2).bind fun y11 =>
            (stI m r9 p1 y11).bind fun m12 =>
            some ((1 : Int32), m12)
      else
        some ((-1000000013 : Int32), m)
  else
    some ((-1000000001 : Int32), m)
set_option maxRecDepth 20000 in
theorem tX7_mark {D : Dat} {a0 : Nat} {p0 : Int32} {p1 : Int32} {p2 : Int32} {m : Mem} {rR : Int32} {mR : Mem} (h : fX7_mark a0 p0 p1 p2 m = some (rR, mR)) : T D 2 IX7_mark [.ref a0, .int p0, .int p1, .int p2] m 0 0 (Qi rR mR) := by
  refine T_of_V (by decide) (Nat.le_of_ble_eq_true rfl) ?_
  show V D 2 IX7_mark 0 [(0, .ref a0), (1, .int p0), (2, .int p1), (3, .int p2)] [] m 0 0 (Qi rR mR)
  unfold fX7_mark at h
  refine V_iload_n (pc2 := 1) dX7_mark_0 1 rfl rfl ?_
  obtain ⟨b1, e_b1, h⟩ := bS h
  refine V_cSi (pc2 := 4) [.int p0] (st := []) (tX7_isSheet e_b1) dX7_mark_1 wS_7_206 (by decide) rfl (Nat.le_of_ble_eq_true rfl) ?_
  refine V_ifb_ne (pc2 := 7) (tgt := 10) dX7_mark_4 (fun c4 => ?_) (fun c4 => ?_)
  · replace h := iT c4 h
    refine V_aload_n (pc2 := 11) dX7_mark_10 0 rfl rfl ?_
    obtain ⟨r2, e_r2, h⟩ := bS h
    refine V_gR (pc2 := 14) e_r2 dX7_mark_11 wF_7_31 ?_
    refine V_iload_n (pc2 := 15) dX7_mark_14 1 rfl rfl ?_
    obtain ⟨r3, e_r3, h⟩ := bS h
    refine V_ldR (pc2 := 16) e_r3 dX7_mark_15 rfl ?_
    refine V_astore (pc2 := 18) (L2 := [(4, .ref r3), (0, .ref a0), (1, .int p0), (2, .int p1), (3, .int p2)]) dX7_mark_16 ?_ rfl rfl
    refine V_aload (pc2 := 20) dX7_mark_18 0 rfl ?_
    obtain ⟨x4, e_x4, h⟩ := bS h
    refine V_gI (pc2 := 23) e_x4 dX7_mark_20 wF_7_209 ?_
    refine V_iconst (v := -1) (pc2 := 24) dX7_mark_23 (by decide) ?_
    refine V_icmp_ne (pc2 := 27) (tgt := 30) dX7_mark_24 (fun c24 => ?_) (fun c24 => ?_)
    · replace h := iF c24 h
      refine V_iload_n (pc2 := 31) dX7_mark_30 3 rfl rfl ?_
      refine V_iconst (v := 0) (pc2 := 32) dX7_mark_31 (by decide) ?_
      refine V_aload (pc2 := 34) dX7_mark_32 0 rfl ?_
      obtain ⟨x5, e_x5, h⟩ := bS h
      refine V_gI (pc2 := 37) e_x5 dX7_mark_34 wF_7_221 ?_
      refine V_iconst (v := 1) (pc2 := 38) dX7_mark_37 (by decide) ?_
      refine V_isub (pc2 := 39) dX7_mark_38 ?_
      obtain ⟨b6, e_b6, h⟩ := bS h
      refine V_cSi (pc2 := 42) [.int p1, .int (0 : Int32), .int (x5 - (1 : Int32))] (st := []) (tX7_within e_b6) dX7_mark_39 wS_7_47 (by decide) rfl (Nat.le_of_ble_eq_true rfl) ?_
      refine V_ifb_ne (pc2 := 45) (tgt := 49) dX7_mark_42 (fun c42 => ?_) (fun c42 => ?_)
      · replace h := iT c42 h
        refine V_aload (pc2 := 51) dX7_mark_49 0 rfl ?_
        obtain ⟨x7, e_x7, h⟩ := bS h
        refine V_gI (pc2 := 54) e_x7 dX7_mark_51 wF_7_209 ?_
        refine V_if_ne (pc2 := 57) (tgt := 66) dX7_mark_54 (fun c54 => ?_) (fun c54 => ?_)
        · replace h := iF c54 h
          refine V_aload (pc2 := 68) dX7_mark_66 0 rfl ?_
          obtain ⟨x8, e_x8, h⟩ := bS h
          refine V_gI (pc2 := 71) e_x8 dX7_mark_68 wF_7_209 ?_
          refine V_iconst (v := 1) (pc2 := 72) dX7_mark_71 (by decide) ?_
          refine V_icmp_ne (pc2 := 75) (tgt := 97) dX7_mark_72 (fun c72 => ?_) (fun c72 => ?_)
          · replace h := iF c72 h
            refine V_aload (pc2 := 99) dX7_mark_97 0 rfl ?_
            obtain ⟨r9, e_r9, h⟩ := bS h
            refine V_gR (pc2 := 102) e_r9 dX7_mark_99 wF_7_227 ?_
            refine V_iload_n (pc2 := 103) dX7_mark_102 3 rfl rfl ?_
            refine V_aload (pc2 := 105) dX7_mark_103 0 rfl ?_
            obtain ⟨x10, e_x10, h⟩ := bS h
            refine V_gI (pc2 := 108) e_x10 dX7_mark_105 wF_7_209 ?_
            obtain ⟨y11, hb, h⟩ := bS h
            have hJ117 : V D 2 IX7_mark 117 [] [.int y11, .int p1, .ref r9] m 0 0 (Qi rR mR) := by
              obtain ⟨m12, e_m12, h⟩ := bS h
              refine V_stI (pc2 := 118) e_m12 dX7_mark_117 ?_
              refine V_iconst (v := 1) (pc2 := 119) dX7_mark_118 (by decide) ?_
              obtain ⟨e1, e2⟩ := inj2 h
              subst e1
              subst e2
              exact V_iret dX7_mark_119 rfl ⟨rfl, rfl⟩
            clear h
            have h := hb
            clear hb
            refine V_if_ne (pc2 := 111) (tgt := 116) dX7_mark_108 (fun c108 => ?_) (fun c108 => ?_)
            · replace h := iF c108 h
              refine V_iload_n (pc2 := 117) dX7_mark_116 4 rfl rfl ?_
              have e1 := inj1 h
              subst e1
              exact V_lv hJ117 [] rfl
            · replace h := iT c108 h
              refine V_iload_n (pc2 := 112) dX7_mark_111 4 rfl rfl ?_
              refine V_i2s (pc2 := 113) dX7_mark_112 rfl ?_
              refine V_goto (tgt := 117) dX7_mark_113 ?_
              have e1 := inj1 h
              subst e1
              exact V_lv hJ117 [] rfl
          · replace h := iT c72 h
            refine V_iload_n (pc2 := 76) dX7_mark_75 4 rfl rfl ?_
            refine V_ldc (v := -1000000005) (pc2 := 78) dX7_mark_76 wconstant_7_202 ?_
            refine V_icmp_eq (pc2 := 81) (tgt := 97) dX7_mark_78 (fun c78 => ?_) (fun c78 => ?_)
            · replace h := iT c78 h
              refine V_aload (pc2 := 99) dX7_mark_97 0 rfl ?_
              obtain ⟨r13, e_r13, h⟩ := bS h
              refine V_gR (pc2 := 102) e_r13 dX7_mark_99 wF_7_227 ?_
              refine V_iload_n (pc2 := 103) dX7_mark_102 3 rfl rfl ?_
              refine V_aload (pc2 := 105) dX7_mark_103 0 rfl ?_
              obtain ⟨x14, e_x14, h⟩ := bS h
              refine V_gI (pc2 := 108) e_x14 dX7_mark_105 wF_7_209 ?_
              obtain ⟨y15, hb, h⟩ := bS h
              have hJ117 : V D 2 IX7_mark 117 [] [.int y15, .int p1, .ref r13] m 0 0 (Qi rR mR) := by
                obtain ⟨m16, e_m16, h⟩ := bS h
                refine V_stI (pc2 := 118) e_m16 dX7_mark_117 ?_
                refine V_iconst (v := 1) (pc2 := 119) dX7_mark_118 (by decide) ?_
                obtain ⟨e1, e2⟩ := inj2 h
                subst e1
                subst e2
                exact V_iret dX7_mark_119 rfl ⟨rfl, rfl⟩
              clear h
              have h := hb
              clear hb
              refine V_if_ne (pc2 := 111) (tgt := 116) dX7_mark_108 (fun c108 => ?_) (fun c108 => ?_)
              · replace h := iF c108 h
                refine V_iload_n (pc2 := 117) dX7_mark_116 4 rfl rfl ?_
                have e1 := inj1 h
                subst e1
                exact V_lv hJ117 [] rfl
              · replace h := iT c108 h
                refine V_iload_n (pc2 := 112) dX7_mark_111 4 rfl rfl ?_
                refine V_i2s (pc2 := 113) dX7_mark_112 rfl ?_
                refine V_goto (tgt := 117) dX7_mark_113 ?_
                have e1 := inj1 h
                subst e1
                exact V_lv hJ117 [] rfl
            · replace h := iF c78 h
              refine V_iload_n (pc2 := 82) dX7_mark_81 4 rfl rfl ?_
              refine V_ldcw (v := -99999) (pc2 := 85) dX7_mark_82 wconstant_7_272 ?_
              refine V_ldcw (v := 99999) (pc2 := 88) dX7_mark_85 wconstant_7_273 ?_
              obtain ⟨b17, e_b17, h⟩ := bS h
              refine V_cSi (pc2 := 91) [.int p2, .int (-99999 : Int32), .int (99999 : Int32)] (st := []) (tX7_within e_b17) dX7_mark_88 wS_7_47 (by decide) rfl (Nat.le_of_ble_eq_true rfl) ?_
              refine V_ifb_ne (pc2 := 94) (tgt := 97) dX7_mark_91 (fun c91 => ?_) (fun c91 => ?_)
              · replace h := iT c91 h
                refine V_aload (pc2 := 99) dX7_mark_97 0 rfl ?_
                obtain ⟨r18, e_r18, h⟩ := bS h
                refine V_gR (pc2 := 102) e_r18 dX7_mark_99 wF_7_227 ?_
                refine V_iload_n (pc2 := 103) dX7_mark_102 3 rfl rfl ?_
                refine V_aload (pc2 := 105) dX7_mark_103 0 rfl ?_
                obtain ⟨x19, e_x19, h⟩ := bS h
                refine V_gI (pc2 := 108) e_x19 dX7_mark_105 wF_7_209 ?_
                obtain ⟨y20, hb, h⟩ := bS h
                have hJ117 : V D 2 IX7_mark 117 [] [.int y20, .int p1, .ref r18] m 0 0 (Qi rR mR) := by
                  obtain ⟨m21, e_m21, h⟩ := bS h
                  refine V_stI (pc2 := 118) e_m21 dX7_mark_117 ?_
                  refine V_iconst (v := 1) (pc2 := 119) dX7_mark_118 (by decide) ?_
                  obtain ⟨e1, e2⟩ := inj2 h
                  subst e1
                  subst e2
                  exact V_iret dX7_mark_119 rfl ⟨rfl, rfl⟩
                clear h
                have h := hb
                clear hb
                refine V_if_ne (pc2 := 111) (tgt := 116) dX7_mark_108 (fun c108 => ?_) (fun c108 => ?_)
                · replace h := iF c108 h
                  refine V_iload_n (pc2 := 117) dX7_mark_116 4 rfl rfl ?_
                  have e1 := inj1 h
                  subst e1
                  exact V_lv hJ117 [] rfl
                · replace h := iT c108 h
                  refine V_iload_n (pc2 := 112) dX7_mark_111 4 rfl rfl ?_
                  refine V_i2s (pc2 := 113) dX7_mark_112 rfl ?_
                  refine V_goto (tgt := 117) dX7_mark_113 ?_
                  have e1 := inj1 h
                  subst e1
                  exact V_lv hJ117 [] rfl
              · replace h := iF c91 h
                refine V_ldc (v := -1000000001) (pc2 := 96) dX7_mark_94 wconstant_7_51 ?_
                obtain ⟨e1, e2⟩ := inj2 h
                subst e1
                subst e2
                exact V_iret dX7_mark_96 rfl ⟨rfl, rfl⟩
        · replace h := iT c54 h
          refine V_iload_n (pc2 := 58) dX7_mark_57 4 rfl rfl ?_
          refine V_ldc (v := -1000000005) (pc2 := 60) dX7_mark_58 wconstant_7_202 ?_
          refine V_icmp_ne (pc2 := 63) (tgt := 66) dX7_mark_60 (fun c60 => ?_) (fun c60 => ?_)
          · replace h := iF c60 h
            refine V_aload (pc2 := 68) dX7_mark_66 0 rfl ?_
            obtain ⟨x22, e_x22, h⟩ := bS h
            refine V_gI (pc2 := 71) e_x22 dX7_mark_68 wF_7_209 ?_
            refine V_iconst (v := 1) (pc2 := 72) dX7_mark_71 (by decide) ?_
            refine V_icmp_ne (pc2 := 75) (tgt := 97) dX7_mark_72 (fun c72 => ?_) (fun c72 => ?_)
            · replace h := iF c72 h
              refine V_aload (pc2 := 99) dX7_mark_97 0 rfl ?_
              obtain ⟨r23, e_r23, h⟩ := bS h
              refine V_gR (pc2 := 102) e_r23 dX7_mark_99 wF_7_227 ?_
              refine V_iload_n (pc2 := 103) dX7_mark_102 3 rfl rfl ?_
              refine V_aload (pc2 := 105) dX7_mark_103 0 rfl ?_
              obtain ⟨x24, e_x24, h⟩ := bS h
              refine V_gI (pc2 := 108) e_x24 dX7_mark_105 wF_7_209 ?_
              obtain ⟨y25, hb, h⟩ := bS h
              have hJ117 : V D 2 IX7_mark 117 [] [.int y25, .int p1, .ref r23] m 0 0 (Qi rR mR) := by
                obtain ⟨m26, e_m26, h⟩ := bS h
                refine V_stI (pc2 := 118) e_m26 dX7_mark_117 ?_
                refine V_iconst (v := 1) (pc2 := 119) dX7_mark_118 (by decide) ?_
                obtain ⟨e1, e2⟩ := inj2 h
                subst e1
                subst e2
                exact V_iret dX7_mark_119 rfl ⟨rfl, rfl⟩
              clear h
              have h := hb
              clear hb
              refine V_if_ne (pc2 := 111) (tgt := 116) dX7_mark_108 (fun c108 => ?_) (fun c108 => ?_)
              · replace h := iF c108 h
                refine V_iload_n (pc2 := 117) dX7_mark_116 4 rfl rfl ?_
                have e1 := inj1 h
                subst e1
                exact V_lv hJ117 [] rfl
              · replace h := iT c108 h
                refine V_iload_n (pc2 := 112) dX7_mark_111 4 rfl rfl ?_
                refine V_i2s (pc2 := 113) dX7_mark_112 rfl ?_
                refine V_goto (tgt := 117) dX7_mark_113 ?_
                have e1 := inj1 h
                subst e1
                exact V_lv hJ117 [] rfl
            · replace h := iT c72 h
              refine V_iload_n (pc2 := 76) dX7_mark_75 4 rfl rfl ?_
              refine V_ldc (v := -1000000005) (pc2 := 78) dX7_mark_76 wconstant_7_202 ?_
              refine V_icmp_eq (pc2 := 81) (tgt := 97) dX7_mark_78 (fun c78 => ?_) (fun c78 => ?_)
              · replace h := iT c78 h
                refine V_aload (pc2 := 99) dX7_mark_97 0 rfl ?_
                obtain ⟨r27, e_r27, h⟩ := bS h
                refine V_gR (pc2 := 102) e_r27 dX7_mark_99 wF_7_227 ?_
                refine V_iload_n (pc2 := 103) dX7_mark_102 3 rfl rfl ?_
                refine V_aload (pc2 := 105) dX7_mark_103 0 rfl ?_
                obtain ⟨x28, e_x28, h⟩ := bS h
                refine V_gI (pc2 := 108) e_x28 dX7_mark_105 wF_7_209 ?_
                obtain ⟨y29, hb, h⟩ := bS h
                have hJ117 : V D 2 IX7_mark 117 [] [.int y29, .int p1, .ref r27] m 0 0 (Qi rR mR) := by
                  obtain ⟨m30, e_m30, h⟩ := bS h
                  refine V_stI (pc2 := 118) e_m30 dX7_mark_117 ?_
                  refine V_iconst (v := 1) (pc2 := 119) dX7_mark_118 (by decide) ?_
                  obtain ⟨e1, e2⟩ := inj2 h
                  subst e1
                  subst e2
                  exact V_iret dX7_mark_119 rfl ⟨rfl, rfl⟩
                clear h
                have h := hb
                clear hb
                refine V_if_ne (pc2 := 111) (tgt := 116) dX7_mark_108 (fun c108 => ?_) (fun c108 => ?_)
                · replace h := iF c108 h
                  refine V_iload_n (pc2 := 117) dX7_mark_116 4 rfl rfl ?_
                  have e1 := inj1 h
                  subst e1
                  exact V_lv hJ117 [] rfl
                · replace h := iT c108 h
                  refine V_iload_n (pc2 := 112) dX7_mark_111 4 rfl rfl ?_
                  refine V_i2s (pc2 := 113) dX7_mark_112 rfl ?_
                  refine V_goto (tgt := 117) dX7_mark_113 ?_
                  have e1 := inj1 h
                  subst e1
                  exact V_lv hJ117 [] rfl
              · replace h := iF c78 h
                refine V_iload_n (pc2 := 82) dX7_mark_81 4 rfl rfl ?_
                refine V_ldcw (v := -99999) (pc2 := 85) dX7_mark_82 wconstant_7_272 ?_
                refine V_ldcw (v := 99999) (pc2 := 88) dX7_mark_85 wconstant_7_273 ?_
                obtain ⟨b31, e_b31, h⟩ := bS h
                refine V_cSi (pc2 := 91) [.int p2, .int (-99999 : Int32), .int (99999 : Int32)] (st := []) (tX7_within e_b31) dX7_mark_88 wS_7_47 (by decide) rfl (Nat.le_of_ble_eq_true rfl) ?_
                refine V_ifb_ne (pc2 := 94) (tgt := 97) dX7_mark_91 (fun c91 => ?_) (fun c91 => ?_)
                · replace h := iT c91 h
                  refine V_aload (pc2 := 99) dX7_mark_97 0 rfl ?_
                  obtain ⟨r32, e_r32, h⟩ := bS h
                  refine V_gR (pc2 := 102) e_r32 dX7_mark_99 wF_7_227 ?_
                  refine V_iload_n (pc2 := 103) dX7_mark_102 3 rfl rfl ?_
                  refine V_aload (pc2 := 105) dX7_mark_103 0 rfl ?_
                  obtain ⟨x33, e_x33, h⟩ := bS h
                  refine V_gI (pc2 := 108) e_x33 dX7_mark_105 wF_7_209 ?_
                  obtain ⟨y34, hb, h⟩ := bS h
                  have hJ117 : V D 2 IX7_mark 117 [] [.int y34, .int p1, .ref r32] m 0 0 (Qi rR mR) := by
                    obtain ⟨m35, e_m35, h⟩ := bS h
                    refine V_stI (pc2 := 118) e_m35 dX7_mark_117 ?_
                    refine V_iconst (v := 1) (pc2 := 119) dX7_mark_118 (by decide) ?_
                    obtain ⟨e1, e2⟩ := inj2 h
                    subst e1
                    subst e2
                    exact V_iret dX7_mark_119 rfl ⟨rfl, rfl⟩
                  clear h
                  have h := hb
                  clear hb
                  refine V_if_ne (pc2 := 111) (tgt := 116) dX7_mark_108 (fun c108 => ?_) (fun c108 => ?_)
                  · replace h := iF c108 h
                    refine V_iload_n (pc2 := 117) dX7_mark_116 4 rfl rfl ?_
                    have e1 := inj1 h
                    subst e1
                    exact V_lv hJ117 [] rfl
                  · replace h := iT c108 h
                    refine V_iload_n (pc2 := 112) dX7_mark_111 4 rfl rfl ?_
                    refine V_i2s (pc2 := 113) dX7_mark_112 rfl ?_
                    refine V_goto (tgt := 117) dX7_mark_113 ?_
                    have e1 := inj1 h
                    subst e1
                    exact V_lv hJ117 [] rfl
                · replace h := iF c91 h
                  refine V_ldc (v := -1000000001) (pc2 := 96) dX7_mark_94 wconstant_7_51 ?_
                  obtain ⟨e1, e2⟩ := inj2 h
                  subst e1
                  subst e2
                  exact V_iret dX7_mark_96 rfl ⟨rfl, rfl⟩
          · replace h := iT c60 h
            refine V_ldc (v := -1000000012) (pc2 := 65) dX7_mark_63 wconstant_7_141 ?_
            obtain ⟨e1, e2⟩ := inj2 h
            subst e1
            subst e2
            exact V_iret dX7_mark_65 rfl ⟨rfl, rfl⟩
      · replace h := iF c42 h
        refine V_ldcw (v := -1000000013) (pc2 := 48) dX7_mark_45 wconstant_7_271 ?_
        obtain ⟨e1, e2⟩ := inj2 h
        subst e1
        subst e2
        exact V_iret dX7_mark_48 rfl ⟨rfl, rfl⟩
    · replace h := iT c24 h
      refine V_ldc (v := -1000000011) (pc2 := 29) dX7_mark_27 wconstant_7_212 ?_
      obtain ⟨e1, e2⟩ := inj2 h
      subst e1
      subst e2
      exact V_iret dX7_mark_29 rfl ⟨rfl, rfl⟩
  · replace h := iF c4 h
    refine V_ldc (v := -1000000001) (pc2 := 9) dX7_mark_7 wconstant_7_51 ?_
    obtain ⟨e1, e2⟩ := inj2 h
    subst e1
    subst e2
    exact V_iret dX7_mark_9 rfl ⟨rfl, rfl⟩
noncomputable def fX7_pour_b0 (a0 : Nat) (r3 : Nat) : Int32 × Int32 × Mem → Option ((Int32 × Int32 × Mem) ⊕ (Int32 × Mem)) := fun (y5, y6, m7) =>
  (gR m7 a0 7 0).bind fun r8 =>
  (gI m7 r8 2 5).bind fun x9 =>
  if x9 ≤ y6 then
    some (.inr (y5, m7))
  else
    (gI m7 r3 3 1).bind fun x10 =>
    if x10 ≤ y6 then
      some (.inr (y5, m7))
    else
      (gR m7 a0 7 0).bind fun r11 =>
      (gR m7 r11 2 4).bind fun r12 =>
      (ldR m7 r12 2 y6).bind fun r13 =>
      (cV m7 r3 3 (fX3_isNumber r3 y6 m7)).bind fun b14 =>
      (
        if b14 = true then
          (gR m7 r3 3 2).bind fun r16 =>
          (ldI m7 r16 y6).bind fun x17 =>
          (fX7_heldWithin x17 (0 : Int32) (99 : Int32) m7).bind fun x18 =>
          some x18
        else
          (gI m7 r13 5 1).bind fun x15 =>
          some x15).bind fun y19 =>
      (gI m7 r13 5 1).bind fun x20 =>
      (
        if y19 = x20 then
          some (y5, m7)
        else
          (pI m7 r13 5 1 y19).bind fun m21 =>
          some (y5 + (1 : Int32), m21)).bind fun (y22, m23) =>
      some (.inl (y22, y6 + (1 : Int32), m23))
noncomputable def fX7_pour (a0 : Nat) (p0 : Int32) (m : Mem) : Option (Int32 × Mem) :=
  (fX7_isSheet p0 m).bind fun b1 =>
  if b1 = true then
    (gR m a0 7 5).bind fun r2 =>
    (ldR m r2 4 p0).bind fun r3 =>
    (gI m r3 3 0).bind fun x4 =>
    if x4 = (-1 : Int32) then
      some ((-1000000011 : Int32), m)
    else
      (loopF (fX7_pour_b0 a0 r3) bigN ((0 : Int32), (0 : Int32), m)).bind fun (y24, m25) =>
      some (y24, m25)
  else
    some ((-1000000001 : Int32), m)
set_option maxRecDepth 20000 in
theorem tX7_pour {D : Dat} {a0 : Nat} {p0 : Int32} {m : Mem} {rR : Int32} {mR : Mem} (h : fX7_pour a0 p0 m = some (rR, mR)) : T D 2 IX7_pour [.ref a0, .int p0] m 0 0 (Qi rR mR) := by
  refine T_of_V (by decide) (Nat.le_of_ble_eq_true rfl) ?_
  show V D 2 IX7_pour 0 [(0, .ref a0), (1, .int p0)] [] m 0 0 (Qi rR mR)
  unfold fX7_pour at h
  refine V_iload_n (pc2 := 1) dX7_pour_0 1 rfl rfl ?_
  obtain ⟨b1, e_b1, h⟩ := bS h
  refine V_cSi (pc2 := 4) [.int p0] (st := []) (tX7_isSheet e_b1) dX7_pour_1 wS_7_206 (by decide) rfl (Nat.le_of_ble_eq_true rfl) ?_
  refine V_ifb_ne (pc2 := 7) (tgt := 10) dX7_pour_4 (fun c4 => ?_) (fun c4 => ?_)
  · replace h := iT c4 h
    refine V_aload_n (pc2 := 11) dX7_pour_10 0 rfl rfl ?_
    obtain ⟨r2, e_r2, h⟩ := bS h
    refine V_gR (pc2 := 14) e_r2 dX7_pour_11 wF_7_31 ?_
    refine V_iload_n (pc2 := 15) dX7_pour_14 1 rfl rfl ?_
    obtain ⟨r3, e_r3, h⟩ := bS h
    refine V_ldR (pc2 := 16) e_r3 dX7_pour_15 rfl ?_
    refine V_astore_n (pc2 := 17) (L2 := [(2, .ref r3), (0, .ref a0), (1, .int p0)]) dX7_pour_16 ?_ rfl rfl rfl
    refine V_aload_n (pc2 := 18) dX7_pour_17 0 rfl rfl ?_
    obtain ⟨x4, e_x4, h⟩ := bS h
    refine V_gI (pc2 := 21) e_x4 dX7_pour_18 wF_7_209 ?_
    refine V_iconst (v := -1) (pc2 := 22) dX7_pour_21 (by decide) ?_
    refine V_icmp_ne (pc2 := 25) (tgt := 28) dX7_pour_22 (fun c22 => ?_) (fun c22 => ?_)
    · replace h := iF c22 h
      refine V_iconst (v := 0) (pc2 := 29) dX7_pour_28 (by decide) ?_
      refine V_istore_n (pc2 := 30) (L2 := [(3, .int (0 : Int32)), (2, .ref r3), (0, .ref a0), (1, .int p0)]) dX7_pour_29 ?_ rfl rfl rfl
      refine V_iconst (v := 0) (pc2 := 31) dX7_pour_30 (by decide) ?_
      refine V_istore (pc2 := 33) (L2 := [(4, .int (0 : Int32)), (3, .int (0 : Int32)), (2, .ref r3), (0, .ref a0), (1, .int p0)]) dX7_pour_31 ?_ rfl rfl
      obtain ⟨⟨y24, m25⟩, hl, h⟩ := bS h
      try dsimp only at h
      have hJ124 : V D 2 IX7_pour 124 [(3, .int y24)] [] m25 0 0 (Qi rR mR) := by
        refine V_iload_n (pc2 := 125) dX7_pour_124 0 rfl rfl ?_
        obtain ⟨e1, e2⟩ := inj2 h
        subst e1
        subst e2
        exact V_iret dX7_pour_125 rfl ⟨rfl, rfl⟩
      clear h
      have key33 : ∀ (n : Nat) (y5 : Int32) (y6 : Int32) (m7 : Mem), loopF (fX7_pour_b0 a0 r3) n (y5, y6, m7) = some (y24, m25) → V D 2 IX7_pour 33 [(0, .ref a0), (2, .ref r3), (3, .int y5), (4, .int y6)] [] m7 0 0 (Qi rR mR) := by
        intro n
        induction n with
        | zero => intro y5 y6 m7 h; cases h
        | succ n ih =>
          intro y5 y6 m7 h
          obtain ⟨o, h, ho⟩ := loopF_inv h
          dsimp only [fX7_pour_b0] at h
          refine V_iload (pc2 := 35) dX7_pour_33 3 rfl ?_
          refine V_aload_n (pc2 := 36) dX7_pour_35 0 rfl rfl ?_
          obtain ⟨r8, e_r8, h⟩ := bS h
          refine V_gR (pc2 := 39) e_r8 dX7_pour_36 wF_7_10 ?_
          obtain ⟨x9, e_x9, h⟩ := bS h
          refine V_gI (pc2 := 42) e_x9 dX7_pour_39 wF_7_105 ?_
          refine V_icmp_ge (pc2 := 45) (tgt := 124) dX7_pour_42 (fun c42 => ?_) (fun c42 => ?_)
          · replace h := iT c42 h
            have ee := inj1 h
            subst ee
            obtain ⟨e1, e2⟩ := pinj2 (loopF_e ho)
            subst e1
            subst e2
            exact V_lv hJ124 [2] rfl
          · replace h := iF c42 h
            refine V_iload (pc2 := 47) dX7_pour_45 3 rfl ?_
            refine V_aload_n (pc2 := 48) dX7_pour_47 1 rfl rfl ?_
            obtain ⟨x10, e_x10, h⟩ := bS h
            refine V_gI (pc2 := 51) e_x10 dX7_pour_48 wF_7_221 ?_
            refine V_icmp_ge (pc2 := 54) (tgt := 124) dX7_pour_51 (fun c51 => ?_) (fun c51 => ?_)
            · replace h := iT c51 h
              have ee := inj1 h
              subst ee
              obtain ⟨e1, e2⟩ := pinj2 (loopF_e ho)
              subst e1
              subst e2
              exact V_lv hJ124 [2] rfl
            · replace h := iF c51 h
              refine V_aload_n (pc2 := 55) dX7_pour_54 0 rfl rfl ?_
              obtain ⟨r11, e_r11, h⟩ := bS h
              refine V_gR (pc2 := 58) e_r11 dX7_pour_55 wF_7_10 ?_
              obtain ⟨r12, e_r12, h⟩ := bS h
              refine V_gR (pc2 := 61) e_r12 dX7_pour_58 wF_7_115 ?_
              refine V_iload (pc2 := 63) dX7_pour_61 3 rfl ?_
              obtain ⟨r13, e_r13, h⟩ := bS h
              refine V_ldR (pc2 := 64) e_r13 dX7_pour_63 rfl ?_
              refine V_astore (pc2 := 66) (L2 := [(5, .ref r13), (0, .ref a0), (2, .ref r3), (3, .int y5), (4, .int y6)]) dX7_pour_64 ?_ rfl rfl
              refine V_aload_n (pc2 := 67) dX7_pour_66 2 rfl rfl ?_
              refine V_iload (pc2 := 69) dX7_pour_67 4 rfl ?_
              obtain ⟨b14, e_b14, h⟩ := bS h
              obtain ⟨⟨fs_b14, o_b14⟩, e_b14⟩ := cV_of e_b14
              refine V_cVi (pc2 := 72) [.int y6] (st := []) o_b14 (tX3_isNumber e_b14) dX7_pour_69 wV_7_224 (by decide) rfl (Nat.le_of_ble_eq_true rfl) ?_
              obtain ⟨y19, hb, h⟩ := bS h
              have hJ96 : V D 2 IX7_pour 96 [(0, .ref a0), (2, .ref r3), (3, .int y5), (4, .int y6), (5, .ref r13)] [.int y19] m7 0 0 (Qi rR mR) := by
                refine V_istore (pc2 := 98) (L2 := [(6, .int y19), (0, .ref a0), (2, .ref r3), (3, .int y5), (4, .int y6), (5, .ref r13)]) dX7_pour_96 ?_ rfl rfl
                refine V_iload (pc2 := 100) dX7_pour_98 0 rfl ?_
                refine V_aload (pc2 := 102) dX7_pour_100 5 rfl ?_
                obtain ⟨x20, e_x20, h⟩ := bS h
                refine V_gI (pc2 := 105) e_x20 dX7_pour_102 wF_7_124 ?_
                obtain ⟨⟨y22, m23⟩, hb, h⟩ := bS h
                try dsimp only at h
                have hJ118 : V D 2 IX7_pour 118 [(0, .ref a0), (2, .ref r3), (3, .int y22), (4, .int y6)] [] m23 0 0 (Qi rR mR) := by
                  refine V_iinc (pc2 := 121) (v := y6 + (1 : Int32)) (L2 := [(4, .int (y6 + (1 : Int32))), (0, .ref a0), (2, .ref r3), (3, .int y22)]) dX7_pour_118 3 rfl (by rfl) ?_ rfl rfl
                  refine V_goto (tgt := 33) dX7_pour_121 ?_
                  have ee := inj1 h
                  subst ee
                  exact V_lv (ih _ _ _ (loopF_c ho)) [1, 2, 3, 0] rfl
                clear h
                have h := hb
                clear hb
                refine V_icmp_eq (pc2 := 108) (tgt := 118) dX7_pour_105 (fun c105 => ?_) (fun c105 => ?_)
                · replace h := iT c105 h
                  obtain ⟨e1, e2⟩ := inj2 h
                  subst e1
                  subst e2
                  exact V_lv hJ118 [1, 2, 3, 4] rfl
                · replace h := iF c105 h
                  refine V_aload (pc2 := 110) dX7_pour_108 5 rfl ?_
                  refine V_iload (pc2 := 112) dX7_pour_110 0 rfl ?_
                  obtain ⟨m21, e_m21, h⟩ := bS h
                  refine V_pI (pc2 := 115) e_m21 dX7_pour_112 wP_7_124 rfl rfl ?_
                  refine V_iinc (pc2 := 118) (v := y5 + (1 : Int32)) (L2 := [(3, .int (y5 + (1 : Int32))), (6, .int y19), (0, .ref a0), (2, .ref r3), (4, .int y6), (5, .ref r13)]) dX7_pour_115 3 rfl (by rfl) ?_ rfl rfl
                  obtain ⟨e1, e2⟩ := inj2 h
                  subst e1
                  subst e2
                  exact V_lv hJ118 [2, 3, 0, 4] rfl
              clear h
              have h := hb
              clear hb
              refine V_ifb_eq (pc2 := 75) (tgt := 91) dX7_pour_72 (fun c72 => ?_) (fun c72 => ?_)
              · replace h := iF c72 h
                refine V_aload (pc2 := 93) dX7_pour_91 0 rfl ?_
                obtain ⟨x15, e_x15, h⟩ := bS h
                refine V_gI (pc2 := 96) e_x15 dX7_pour_93 wF_7_124 ?_
                have e1 := inj1 h
                subst e1
                exact V_lv hJ96 [1, 2, 3, 4, 0] rfl
              · replace h := iT c72 h
                refine V_aload_n (pc2 := 76) dX7_pour_75 2 rfl rfl ?_
                obtain ⟨r16, e_r16, h⟩ := bS h
                refine V_gR (pc2 := 79) e_r16 dX7_pour_76 wF_7_227 ?_
                refine V_iload (pc2 := 81) dX7_pour_79 4 rfl ?_
                obtain ⟨x17, e_x17, h⟩ := bS h
                refine V_ldI (pc2 := 82) e_x17 dX7_pour_81 ?_
                refine V_iconst (v := 0) (pc2 := 83) dX7_pour_82 (by decide) ?_
                refine V_bipush (v := 99) (pc2 := 85) dX7_pour_83 (by decide) ?_
                obtain ⟨x18, e_x18, h⟩ := bS h
                refine V_cSi (pc2 := 88) [.int x17, .int (0 : Int32), .int (99 : Int32)] (st := []) (tX7_heldWithin e_x18) dX7_pour_85 wS_7_274 (by decide) rfl (Nat.le_of_ble_eq_true rfl) ?_
                refine V_goto (tgt := 96) dX7_pour_88 ?_
                have e1 := inj1 h
                subst e1
                exact V_lv hJ96 [1, 2, 3, 4, 0] rfl
      exact V_lv (key33 _ _ _ _ hl) [3, 2, 1, 0] rfl
    · replace h := iT c22 h
      refine V_ldc (v := -1000000011) (pc2 := 27) dX7_pour_25 wconstant_7_212 ?_
      obtain ⟨e1, e2⟩ := inj2 h
      subst e1
      subst e2
      exact V_iret dX7_pour_27 rfl ⟨rfl, rfl⟩
  · replace h := iF c4 h
    refine V_ldc (v := -1000000001) (pc2 := 9) dX7_pour_7 wconstant_7_51 ?_
    obtain ⟨e1, e2⟩ := inj2 h
    subst e1
    subst e2
    exact V_iret dX7_pour_9 rfl ⟨rfl, rfl⟩
