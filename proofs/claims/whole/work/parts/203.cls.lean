noncomputable def fX1_isWord_b0 (a0 : Nat) (p0 : Nat) (m : Mem) : Int32 → Option (Int32 ⊕ Bool) := fun y5 =>
  (sLnF p0).bind fun x6 =>
  if x6 ≤ y5 then
    some (.inr true)
  else
    (gI m a0 1 3).bind fun x7 =>
    (sChF p0 y5).bind fun x8 =>
    (sChF p0 y5).bind fun x9 =>
    (cV m a0 1 (fX1_isByte a0 (x7 + y5) x8 x9 m)).bind fun b10 =>
    if b10 = true then
      some (.inl (y5 + (1 : Int32)))
    else
      some (.inr false)
noncomputable def fX1_isWord (a0 : Nat) (p0 : Nat) (m : Mem) : Option (Bool) :=
  (gI m a0 1 2).bind fun x1 =>
  if x1 = (-2 : Int32) then
    (gI m a0 1 4).bind fun x2 =>
    (gI m a0 1 3).bind fun x3 =>
    (sLnF p0).bind fun x4 =>
    if (x2 - x3) = x4 then
      loopF (fX1_isWord_b0 a0 p0 m) bigN (0 : Int32)
    else
      some false
  else
    some false
set_option maxRecDepth 20000 in
theorem tX1_isWord {D : Dat} {a0 : Nat} {p0 : Nat} {m : Mem} {rR : Bool} (h : fX1_isWord a0 p0 m = some rR) : T D 4 IX1_isWord [.ref a0, .ref (D.2.2.2.1 p0)] m 0 0 (Qi (zb rR) m) := by
  refine T_of_V (by decide) (Nat.le_of_ble_eq_true rfl) ?_
  show V D 4 IX1_isWord 0 [(0, .ref a0), (1, .ref (D.2.2.2.1 p0))] [] m 0 0 (Qi (zb rR) m)
  unfold fX1_isWord at h
  refine V_aload_n (pc2 := 1) dX1_isWord_0 0 rfl rfl ?_
  obtain ⟨x1, e_x1, h⟩ := bS h
  refine V_gI (pc2 := 4) e_x1 dX1_isWord_1 wF_1_34 ?_
  refine V_bipush (v := -2) (pc2 := 6) dX1_isWord_4 (by decide) ?_
  refine V_icmp_ne (pc2 := 9) (tgt := 25) dX1_isWord_6 (fun c6 => ?_) (fun c6 => ?_)
  · replace h := iF c6 h
    refine V_iconst (v := 0) (pc2 := 26) dX1_isWord_25 (by decide) ?_
    have e1 := inj1 h
    subst e1
    exact V_bret (b := false) dX1_isWord_26 rfl ⟨rfl, rfl⟩
  · replace h := iT c6 h
    refine V_aload_n (pc2 := 10) dX1_isWord_9 0 rfl rfl ?_
    obtain ⟨x2, e_x2, h⟩ := bS h
    refine V_gI (pc2 := 13) e_x2 dX1_isWord_10 wF_1_31 ?_
    refine V_aload_n (pc2 := 14) dX1_isWord_13 0 rfl rfl ?_
    obtain ⟨x3, e_x3, h⟩ := bS h
    refine V_gI (pc2 := 17) e_x3 dX1_isWord_14 wF_1_64 ?_
    refine V_isub (pc2 := 18) dX1_isWord_17 ?_
    refine V_aload_n (pc2 := 19) dX1_isWord_18 1 rfl rfl ?_
    obtain ⟨x4, e_x4, h⟩ := bS h
    refine V_cZ (D := D) (m := m) (pc2 := 22) [] (st := [.int (x2 - x3)]) (tsLn (D := D) (m := m) e_x4).1 (tsLn e_x4).2 dX1_isWord_19 wZ_1_75 (by decide) rfl (Nat.le_of_ble_eq_true rfl) ?_
    refine V_icmp_eq (pc2 := 25) (tgt := 27) dX1_isWord_22 (fun c22 => ?_) (fun c22 => ?_)
    · replace h := iT c22 h
      refine V_iconst (v := 0) (pc2 := 28) dX1_isWord_27 (by decide) ?_
      refine V_istore_n (pc2 := 29) (L2 := [(2, .int (0 : Int32)), (0, .ref a0), (1, .ref (D.2.2.2.1 p0))]) dX1_isWord_28 ?_ rfl rfl rfl
      have hl := h
      clear h
      have key29 : ∀ (n : Nat) (y5 : Int32), loopF (fX1_isWord_b0 a0 p0 m) n y5 = some rR → V D 4 IX1_isWord 29 [(0, .ref a0), (1, .ref (D.2.2.2.1 p0)), (2, .int y5)] [] m 0 0 (Qi (zb rR) m) := by
        intro n
        induction n with
        | zero => intro y5 h; cases h
        | succ n ih =>
          intro y5 h
          obtain ⟨o, h, ho⟩ := loopF_inv h
          dsimp only [fX1_isWord_b0] at h
          refine V_iload_n (pc2 := 30) dX1_isWord_29 2 rfl rfl ?_
          refine V_aload_n (pc2 := 31) dX1_isWord_30 1 rfl rfl ?_
          obtain ⟨x6, e_x6, h⟩ := bS h
          refine V_cZ (D := D) (m := m) (pc2 := 34) [] (st := [.int y5]) (tsLn (D := D) (m := m) e_x6).1 (tsLn e_x6).2 dX1_isWord_31 wZ_1_75 (by decide) rfl (Nat.le_of_ble_eq_true rfl) ?_
          refine V_icmp_ge (pc2 := 37) (tgt := 68) dX1_isWord_34 (fun c34 => ?_) (fun c34 => ?_)
          · replace h := iT c34 h
            refine V_iconst (v := 1) (pc2 := 69) dX1_isWord_68 (by decide) ?_
            have ee := inj1 h
            subst ee
            have e1 := pinj1 (loopF_e ho)
            subst e1
            exact V_bret (b := true) dX1_isWord_69 rfl ⟨rfl, rfl⟩
          · replace h := iF c34 h
            refine V_aload_n (pc2 := 38) dX1_isWord_37 0 rfl rfl ?_
            refine V_aload_n (pc2 := 39) dX1_isWord_38 0 rfl rfl ?_
            obtain ⟨x7, e_x7, h⟩ := bS h
            refine V_gI (pc2 := 42) e_x7 dX1_isWord_39 wF_1_64 ?_
            refine V_iload_n (pc2 := 43) dX1_isWord_42 2 rfl rfl ?_
            refine V_iadd (pc2 := 44) dX1_isWord_43 ?_
            refine V_aload_n (pc2 := 45) dX1_isWord_44 1 rfl rfl ?_
            refine V_iload_n (pc2 := 46) dX1_isWord_45 2 rfl rfl ?_
            obtain ⟨x8, e_x8, h⟩ := bS h
            refine V_cZ (D := D) (m := m) (pc2 := 49) [.int y5] (st := [.int (x7 + y5), .ref a0]) (tsCh (D := D) (m := m) e_x8).1 (tsCh e_x8).2 dX1_isWord_46 wZ_1_80 (by decide) rfl (Nat.le_of_ble_eq_true rfl) ?_
            refine V_aload_n (pc2 := 50) dX1_isWord_49 1 rfl rfl ?_
            refine V_iload_n (pc2 := 51) dX1_isWord_50 2 rfl rfl ?_
            obtain ⟨x9, e_x9, h⟩ := bS h
            refine V_cZ (D := D) (m := m) (pc2 := 54) [.int y5] (st := [.int x8, .int (x7 + y5), .ref a0]) (tsCh (D := D) (m := m) e_x9).1 (tsCh e_x9).2 dX1_isWord_51 wZ_1_80 (by decide) rfl (Nat.le_of_ble_eq_true rfl) ?_
            obtain ⟨b10, e_b10, h⟩ := bS h
            obtain ⟨⟨fs_b10, o_b10⟩, e_b10⟩ := cV_of e_b10
            refine V_cVi (pc2 := 57) [.int (x7 + y5), .int x8, .int x9] (st := []) o_b10 (tX1_isByte e_b10) dX1_isWord_54 wV_1_67 (by decide) rfl (Nat.le_of_ble_eq_true rfl) ?_
            refine V_ifb_ne (pc2 := 60) (tgt := 62) dX1_isWord_57 (fun c57 => ?_) (fun c57 => ?_)
            · replace h := iT c57 h
              refine V_iinc (pc2 := 65) (v := y5 + (1 : Int32)) (L2 := [(2, .int (y5 + (1 : Int32))), (0, .ref a0), (1, .ref (D.2.2.2.1 p0))]) dX1_isWord_62 2 rfl (by rfl) ?_ rfl rfl
              refine V_goto (tgt := 29) dX1_isWord_65 ?_
              have ee := inj1 h
              subst ee
              exact V_lv (ih _ (loopF_c ho)) [1, 2, 0] rfl
            · replace h := iF c57 h
              refine V_iconst (v := 0) (pc2 := 61) dX1_isWord_60 (by decide) ?_
              have ee := inj1 h
              subst ee
              have e1 := pinj1 (loopF_e ho)
              subst e1
              exact V_bret (b := false) dX1_isWord_61 rfl ⟨rfl, rfl⟩
      exact V_lv (key29 _ _ hl) [1, 2, 0] rfl
    · replace h := iF c22 h
      refine V_iconst (v := 0) (pc2 := 26) dX1_isWord_25 (by decide) ?_
      have e1 := inj1 h
      subst e1
      exact V_bret (b := false) dX1_isWord_26 rfl ⟨rfl, rfl⟩
noncomputable def fX1_nameHere (a0 : Nat) (m : Mem) : Option (Int32) :=
  (gI m a0 1 6).bind fun x1 =>
  (
    if x1 = 0 then
      some 3
    else
      (gI m a0 1 6).bind fun x2 =>
      if x2 = (1 : Int32) then
        some 4
      else
        some 5).bind fun k3 =>
  (gI m a0 1 4).bind fun x4 =>
  (gI m a0 1 3).bind fun x5 =>
  if (x4 - x5) = (1 : Int32) then
    (gI m a0 1 3).bind fun x6 =>
    (gI m a0 1 1).bind fun x7 =>
    if x7 ≤ x6 then
      some (-1 : Int32)
    else
      (gR m a0 1 0).bind fun r8 =>
      (gI m a0 1 3).bind fun x9 =>
      (ldI m r8 x9).bind fun x10 =>
      (sIxF k3 ((x10.toUInt32 % 65536).toInt32)).bind fun x11 =>
      some x11
  else
    some (-1 : Int32)
set_option maxRecDepth 20000 in
theorem tX1_nameHere {D : Dat} {a0 : Nat} {m : Mem} {rR : Int32} (h : fX1_nameHere a0 m = some rR) : T D 4 IX1_nameHere [.ref a0] m 0 0 (Qi rR m) := by
  refine T_of_V (by decide) (Nat.le_of_ble_eq_true rfl) ?_
  show V D 4 IX1_nameHere 0 [(0, .ref a0)] [] m 0 0 (Qi rR m)
  unfold fX1_nameHere at h
  refine V_aload_n (pc2 := 1) dX1_nameHere_0 0 rfl rfl ?_
  obtain ⟨x1, e_x1, h⟩ := bS h
  refine V_gI (pc2 := 4) e_x1 dX1_nameHere_1 wF_1_52 ?_
  obtain ⟨k3, hb, h⟩ := bS h
  have hJ27 : V D 4 IX1_nameHere 27 [(0, .ref a0)] [.ref (D.2.2.2.1 k3)] m 0 0 (Qi rR m) := by
    refine V_astore_n (pc2 := 28) (L2 := [(1, .ref (D.2.2.2.1 k3)), (0, .ref a0)]) dX1_nameHere_27 ?_ rfl rfl rfl
    refine V_aload_n (pc2 := 29) dX1_nameHere_28 1 rfl rfl ?_
    obtain ⟨x4, e_x4, h⟩ := bS h
    refine V_gI (pc2 := 32) e_x4 dX1_nameHere_29 wF_1_31 ?_
    refine V_aload_n (pc2 := 33) dX1_nameHere_32 1 rfl rfl ?_
    obtain ⟨x5, e_x5, h⟩ := bS h
    refine V_gI (pc2 := 36) e_x5 dX1_nameHere_33 wF_1_64 ?_
    refine V_isub (pc2 := 37) dX1_nameHere_36 ?_
    refine V_iconst (v := 1) (pc2 := 38) dX1_nameHere_37 (by decide) ?_
    refine V_icmp_ne (pc2 := 41) (tgt := 69) dX1_nameHere_38 (fun c38 => ?_) (fun c38 => ?_)
    · replace h := iF c38 h
      refine V_iconst (v := -1) (pc2 := 70) dX1_nameHere_69 (by decide) ?_
      have e1 := inj1 h
      subst e1
      exact V_iret dX1_nameHere_70 rfl ⟨rfl, rfl⟩
    · replace h := iT c38 h
      refine V_aload_n (pc2 := 42) dX1_nameHere_41 1 rfl rfl ?_
      obtain ⟨x6, e_x6, h⟩ := bS h
      refine V_gI (pc2 := 45) e_x6 dX1_nameHere_42 wF_1_64 ?_
      refine V_aload_n (pc2 := 46) dX1_nameHere_45 1 rfl rfl ?_
      obtain ⟨x7, e_x7, h⟩ := bS h
      refine V_gI (pc2 := 49) e_x7 dX1_nameHere_46 wF_1_18 ?_
      refine V_icmp_ge (pc2 := 52) (tgt := 69) dX1_nameHere_49 (fun c49 => ?_) (fun c49 => ?_)
      · replace h := iT c49 h
        refine V_iconst (v := -1) (pc2 := 70) dX1_nameHere_69 (by decide) ?_
        have e1 := inj1 h
        subst e1
        exact V_iret dX1_nameHere_70 rfl ⟨rfl, rfl⟩
      · replace h := iF c49 h
        refine V_aload_n (pc2 := 53) dX1_nameHere_52 0 rfl rfl ?_
        refine V_aload_n (pc2 := 54) dX1_nameHere_53 1 rfl rfl ?_
        obtain ⟨r8, e_r8, h⟩ := bS h
        refine V_gR (pc2 := 57) e_r8 dX1_nameHere_54 wF_1_9 ?_
        refine V_aload_n (pc2 := 58) dX1_nameHere_57 1 rfl rfl ?_
        obtain ⟨x9, e_x9, h⟩ := bS h
        refine V_gI (pc2 := 61) e_x9 dX1_nameHere_58 wF_1_64 ?_
        obtain ⟨x10, e_x10, h⟩ := bS h
        refine V_ldI (pc2 := 62) e_x10 dX1_nameHere_61 ?_
        refine V_i2c (pc2 := 63) dX1_nameHere_62 rfl ?_
        obtain ⟨x11, e_x11, h⟩ := bS h
        refine V_cZ (D := D) (m := m) (pc2 := 66) [.int ((x10.toUInt32 % 65536).toInt32)] (st := []) (tsIx (D := D) (m := m) e_x11).1 (tsIx e_x11).2 dX1_nameHere_63 wZ_1_124 (by decide) rfl (Nat.le_of_ble_eq_true rfl) ?_
        refine V_goto (tgt := 70) dX1_nameHere_66 ?_
        have e1 := inj1 h
        subst e1
        exact V_iret dX1_nameHere_70 rfl ⟨rfl, rfl⟩
  clear h
  have h := hb
  clear hb
  refine V_if_ne (pc2 := 7) (tgt := 12) dX1_nameHere_4 (fun c4 => ?_) (fun c4 => ?_)
  · replace h := iF c4 h
    refine V_aload_n (pc2 := 13) dX1_nameHere_12 0 rfl rfl ?_
    obtain ⟨x2, e_x2, h⟩ := bS h
    refine V_gI (pc2 := 16) e_x2 dX1_nameHere_13 wF_1_52 ?_
    refine V_iconst (v := 1) (pc2 := 17) dX1_nameHere_16 (by decide) ?_
    refine V_icmp_ne (pc2 := 20) (tgt := 25) dX1_nameHere_17 (fun c17 => ?_) (fun c17 => ?_)
    · replace h := iF c17 h
      refine V_str (i := 5) (pc2 := 27) dX1_nameHere_25 rfl rfl ?_
      have e1 := inj1 h
      subst e1
      exact hJ27
    · replace h := iT c17 h
      refine V_str (i := 4) (pc2 := 22) dX1_nameHere_20 rfl rfl ?_
      refine V_goto (tgt := 27) dX1_nameHere_22 ?_
      have e1 := inj1 h
      subst e1
      exact hJ27
  · replace h := iT c4 h
    refine V_str (i := 3) (pc2 := 9) dX1_nameHere_7 rfl rfl ?_
    refine V_goto (tgt := 27) dX1_nameHere_9 ?_
    have e1 := inj1 h
    subst e1
    exact hJ27
noncomputable def fX1_parseKey (a0 : Nat) (m : Mem) : Option (Mem) :=
  (cV m a0 1 (fX1_isWord a0 0 m)).bind fun b1 =>
  if b1 = true then
    (pI m a0 1 6 (0 : Int32)).bind fun m9 =>
    (cV m9 a0 1 (fX1_advance a0 m9)).bind fun m10 =>
    some m10
  else
    (cV m a0 1 (fX1_isWord a0 1 m)).bind fun b2 =>
    if b2 = true then
      (pI m a0 1 6 (1 : Int32)).bind fun m7 =>
      (cV m7 a0 1 (fX1_advance a0 m7)).bind fun m8 =>
      some m8
    else
      (cV m a0 1 (fX1_isWord a0 2 m)).bind fun b3 =>
      if b3 = true then
        (pI m a0 1 6 (2 : Int32)).bind fun m5 =>
        (cV m5 a0 1 (fX1_advance a0 m5)).bind fun m6 =>
        some m6
      else
        (cV m a0 1 (fX1_refuse a0 m)).bind fun m4 =>
        some m4
set_option maxRecDepth 20000 in
theorem tX1_parseKey {D : Dat} {a0 : Nat} {m : Mem} {mR : Mem} (h : fX1_parseKey a0 m = some mR) : T D 5 IX1_parseKey [.ref a0] m 0 0 (Qv mR) := by
  refine T_of_V (by decide) (Nat.le_of_ble_eq_true rfl) ?_
  show V D 5 IX1_parseKey 0 [(0, .ref a0)] [] m 0 0 (Qv mR)
  unfold fX1_parseKey at h
  refine V_aload_n (pc2 := 1) dX1_parseKey_0 0 rfl rfl ?_
  refine V_str (i := 0) (pc2 := 3) dX1_parseKey_1 rfl rfl ?_
  obtain ⟨b1, e_b1, h⟩ := bS h
  obtain ⟨⟨fs_b1, o_b1⟩, e_b1⟩ := cV_of e_b1
  refine V_cVi (pc2 := 6) [.ref (D.2.2.2.1 0)] (st := []) o_b1 (tX1_isWord e_b1) dX1_parseKey_3 wV_1_86 (by decide) rfl (Nat.le_of_ble_eq_true rfl) ?_
  refine V_ifb_eq (pc2 := 9) (tgt := 17) dX1_parseKey_6 (fun c6 => ?_) (fun c6 => ?_)
  · replace h := iF c6 h
    refine V_aload_n (pc2 := 18) dX1_parseKey_17 0 rfl rfl ?_
    refine V_str (i := 1) (pc2 := 20) dX1_parseKey_18 rfl rfl ?_
    obtain ⟨b2, e_b2, h⟩ := bS h
    obtain ⟨⟨fs_b2, o_b2⟩, e_b2⟩ := cV_of e_b2
    refine V_cVi (pc2 := 23) [.ref (D.2.2.2.1 1)] (st := []) o_b2 (tX1_isWord e_b2) dX1_parseKey_20 wV_1_86 (by decide) rfl (Nat.le_of_ble_eq_true rfl) ?_
    refine V_ifb_eq (pc2 := 26) (tgt := 34) dX1_parseKey_23 (fun c23 => ?_) (fun c23 => ?_)
    · replace h := iF c23 h
      refine V_aload_n (pc2 := 35) dX1_parseKey_34 0 rfl rfl ?_
      refine V_str (i := 2) (pc2 := 37) dX1_parseKey_35 rfl rfl ?_
      obtain ⟨b3, e_b3, h⟩ := bS h
      obtain ⟨⟨fs_b3, o_b3⟩, e_b3⟩ := cV_of e_b3
      refine V_cVi (pc2 := 40) [.ref (D.2.2.2.1 2)] (st := []) o_b3 (tX1_isWord e_b3) dX1_parseKey_37 wV_1_86 (by decide) rfl (Nat.le_of_ble_eq_true rfl) ?_
      refine V_ifb_eq (pc2 := 43) (tgt := 51) dX1_parseKey_40 (fun c40 => ?_) (fun c40 => ?_)
      · replace h := iF c40 h
        refine V_aload_n (pc2 := 52) dX1_parseKey_51 0 rfl rfl ?_
        obtain ⟨m4, e_m4, h⟩ := bS h
        obtain ⟨⟨fs_m4, o_m4⟩, e_m4⟩ := cV_of e_m4
        refine V_cVv (pc2 := 55) [] (st := []) o_m4 (tX1_refuse e_m4) dX1_parseKey_52 wV_1_47 (by decide) rfl (Nat.le_of_ble_eq_true rfl) ?_
        have e1 := inj1 h
        subst e1
        exact V_vret dX1_parseKey_55 rfl ⟨rfl, rfl⟩
      · replace h := iT c40 h
        refine V_aload_n (pc2 := 44) dX1_parseKey_43 0 rfl rfl ?_
        refine V_iconst (v := 2) (pc2 := 45) dX1_parseKey_44 (by decide) ?_
        obtain ⟨m5, e_m5, h⟩ := bS h
        refine V_pI (pc2 := 48) e_m5 dX1_parseKey_45 wP_1_52 rfl rfl ?_
        refine V_goto (tgt := 56) dX1_parseKey_48 ?_
        refine V_aload_n (pc2 := 57) dX1_parseKey_56 0 rfl rfl ?_
        obtain ⟨m6, e_m6, h⟩ := bS h
        obtain ⟨⟨fs_m6, o_m6⟩, e_m6⟩ := cV_of e_m6
        refine V_cVv (pc2 := 60) [] (st := []) o_m6 (tX1_advance e_m6) dX1_parseKey_57 wV_1_37 (by decide) rfl (Nat.le_of_ble_eq_true rfl) ?_
        have e1 := inj1 h
        subst e1
        exact V_vret dX1_parseKey_60 rfl ⟨rfl, rfl⟩
    · replace h := iT c23 h
      refine V_aload_n (pc2 := 27) dX1_parseKey_26 0 rfl rfl ?_
      refine V_iconst (v := 1) (pc2 := 28) dX1_parseKey_27 (by decide) ?_
      obtain ⟨m7, e_m7, h⟩ := bS h
      refine V_pI (pc2 := 31) e_m7 dX1_parseKey_28 wP_1_52 rfl rfl ?_
      refine V_goto (tgt := 56) dX1_parseKey_31 ?_
      refine V_aload_n (pc2 := 57) dX1_parseKey_56 0 rfl rfl ?_
      obtain ⟨m8, e_m8, h⟩ := bS h
      obtain ⟨⟨fs_m8, o_m8⟩, e_m8⟩ := cV_of e_m8
      refine V_cVv (pc2 := 60) [] (st := []) o_m8 (tX1_advance e_m8) dX1_parseKey_57 wV_1_37 (by decide) rfl (Nat.le_of_ble_eq_true rfl) ?_
      have e1 := inj1 h
      subst e1
      exact V_vret dX1_parseKey_60 rfl ⟨rfl, rfl⟩
  · replace h := iT c6 h
    refine V_aload_n (pc2 := 10) dX1_parseKey_9 0 rfl rfl ?_
    refine V_iconst (v := 0) (pc2 := 11) dX1_parseKey_10 (by decide) ?_
    obtain ⟨m9, e_m9, h⟩ := bS h
    refine V_pI (pc2 := 14) e_m9 dX1_parseKey_11 wP_1_52 rfl rfl ?_
    refine V_goto (tgt := 56) dX1_parseKey_14 ?_
    refine V_aload_n (pc2 := 57) dX1_parseKey_56 0 rfl rfl ?_
    obtain ⟨m10, e_m10, h⟩ := bS h
    obtain ⟨⟨fs_m10, o_m10⟩, e_m10⟩ := cV_of e_m10
    refine V_cVv (pc2 := 60) [] (st := []) o_m10 (tX1_advance e_m10) dX1_parseKey_57 wV_1_37 (by decide) rfl (Nat.le_of_ble_eq_true rfl) ?_
    have e1 := inj1 h
    subst e1
    exact V_vret dX1_parseKey_60 rfl ⟨rfl, rfl⟩
noncomputable def fX1_parseJoined_b0 (g_X1_parseJoined : Nat → Int32 → Int32 → Int32 → Mem → Option (Mem)) (a0 : Nat) (p0 : Int32) (p1 : Int32) (p2 : Int32) (y2 : Int32) : Int32 × Mem → Option ((Int32 × Mem) ⊕ Mem) := fun (y3, m4) =>
  if y2 ≤ y3 then
    some (.inr m4)
  else
    (gI m4 a0 1 5).bind fun x5 =>
    if 0 ≤ x5 then
      some (.inr m4)
    else
      (gI m4 a0 1 2).bind fun x6 =>
      (fX1_tightness x6 m4).bind fun x7 =>
      if x7 = p0 then
        (gI m4 a0 1 2).bind fun x8 =>
        (cV m4 a0 1 (fX1_advance a0 m4)).bind fun m9 =>
        (cV m9 a0 1 (g_X1_parseJoined a0 (p0 + (1 : Int32)) p1 p2 m9)).bind fun m10 =>
        (cV m10 a0 1 (fX1_addStep a0 (-x8) m10)).bind fun m11 =>
        some (.inl (y3 + (1 : Int32), m11))
      else
        some (.inr m4)
noncomputable def fX1_parseJoined (g_X1_parseJoined : Nat → Int32 → Int32 → Int32 → Mem → Option (Mem)) (g_X1_parsePiece : Nat → Int32 → Int32 → Mem → Option (Mem)) (a0 : Nat) (p0 : Int32) (p1 : Int32) (p2 : Int32) (m : Mem) : Option (Mem) :=
  if p0 ≤ (4 : Int32) then
    (cV m a0 1 (g_X1_parseJoined a0 (p0 + (1 : Int32)) p1 p2 m)).bind fun m1 =>
    (
      if p0 = (2 : Int32) then
        some (1 : Int32)
      else
        some (96 : Int32)).bind fun y2 =>
    (loopF (fX1_parseJoined_b0 g_X1_parseJoined a0 p0 p1 p2 y2) bigN ((0 : Int32), m1)).bind fun m12 =>
    some m12
  else
    (cV m a0 1 (g_X1_parsePiece a0 p1 p2 m)).bind fun m13 =>
    some m13
set_option maxRecDepth 20000 in
theorem tX1_parseJoined {D : Dat} {d d2 : Nat} {g_X1_parseJoined : Nat → Int32 → Int32 → Int32 → Mem → Option (Mem)} {g_X1_parsePiece : Nat → Int32 → Int32 → Mem → Option (Mem)} {a0 : Nat} {p0 : Int32} {p1 : Int32} {p2 : Int32} {m : Mem} {mR : Mem} (hdd : d2 < d) (hg_X1_parseJoined : ∀ {a9 : Nat} {q0 : Int32} {q1 : Int32} {q2 : Int32} {m9 : Mem} {m8 : Mem}, g_X1_parseJoined a9 q0 q1 q2 m9 = some m8 → T D d2 IX1_parseJoined [.ref a9, .int q0, .int q1, .int q2] m9 0 0 (Qv m8)) (hg_X1_parsePiece : ∀ {a9 : Nat} {q0 : Int32} {q1 : Int32} {m9 : Mem} {m8 : Mem}, g_X1_parsePiece a9 q0 q1 m9 = some m8 → T D d2 IX1_parsePiece [.ref a9, .int q0, .int q1] m9 0 0 (Qv m8)) (hd0 : 3 ≤ d) (h : fX1_parseJoined g_X1_parseJoined g_X1_parsePiece a0 p0 p1 p2 m = some mR) : T D d IX1_parseJoined [.ref a0, .int p0, .int p1, .int p2] m 0 0 (Qv mR) := by
  refine T_of_V (by decide) (Nat.le_of_ble_eq_true rfl) ?_
  show V D d IX1_parseJoined 0 [(0, .ref a0), (1, .int p0), (2, .int p1), (3, .int p2)] [] m 0 0 (Qv mR)
  unfold fX1_parseJoined at h
  refine V_iload_n (pc2 := 1) dX1_parseJoined_0 1 rfl rfl ?_
  refine V_iconst (v := 4) (pc2 := 2) dX1_parseJoined_1 (by decide) ?_
  refine V_icmp_le (pc2 := 5) (tgt := 12) dX1_parseJoined_2 (fun c2 => ?_) (fun c2 => ?_)
  · replace h := iT c2 h
    refine V_aload_n (pc2 := 13) dX1_parseJoined_12 0 rfl rfl ?_
    refine V_iload_n (pc2 := 14) dX1_parseJoined_13 1 rfl rfl ?_
    refine V_iconst (v := 1) (pc2 := 15) dX1_parseJoined_14 (by decide) ?_
    refine V_iadd (pc2 := 16) dX1_parseJoined_15 ?_
    refine V_iload_n (pc2 := 17) dX1_parseJoined_16 2 rfl rfl ?_
    refine V_iload_n (pc2 := 18) dX1_parseJoined_17 3 rfl rfl ?_
    obtain ⟨m1, e_m1, h⟩ := bS h
    obtain ⟨⟨fs_m1, o_m1⟩, e_m1⟩ := cV_of e_m1
    refine V_cVv (pc2 := 21) [.int (p0 + (1 : Int32)), .int p1, .int p2] (st := []) o_m1 (hg_X1_parseJoined e_m1) dX1_parseJoined_18 wV_1_43 (hdd) rfl (Nat.le_of_ble_eq_true rfl) ?_
    refine V_iload_n (pc2 := 22) dX1_parseJoined_21 1 rfl rfl ?_
    refine V_iconst (v := 2) (pc2 := 23) dX1_parseJoined_22 (by decide) ?_
    obtain ⟨y2, hb, h⟩ := bS h
    have hJ32 : V D d IX1_parseJoined 32 [(0, .ref a0), (1, .int p0), (2, .int p1), (3, .int p2)] [.int y2] m1 0 0 (Qv mR) := by
      refine V_istore (pc2 := 34) (L2 := [(4, .int y2), (0, .ref a0), (1, .int p0), (2, .int p1), (3, .int p2)]) dX1_parseJoined_32 ?_ rfl rfl
      refine V_iconst (v := 0) (pc2 := 35) dX1_parseJoined_34 (by decide) ?_
      refine V_istore (pc2 := 37) (L2 := [(5, .int (0 : Int32)), (4, .int y2), (0, .ref a0), (1, .int p0), (2, .int p1), (3, .int p2)]) dX1_parseJoined_35 ?_ rfl rfl
      obtain ⟨m12, hl, h⟩ := bS h
      have hJ94 : V D d IX1_parseJoined 94 [] [] m12 0 0 (Qv mR) := by
        have e1 := inj1 h
        subst e1
        exact V_vret dX1_parseJoined_94 rfl ⟨rfl, rfl⟩
      clear h
      have key37 : ∀ (n : Nat) (y3 : Int32) (m4 : Mem), loopF (fX1_parseJoined_b0 g_X1_parseJoined a0 p0 p1 p2 y2) n (y3, m4) = some m12 → V D d IX1_parseJoined 37 [(0, .ref a0), (1, .int p0), (2, .int p1), (3, .int p2), (4, .int y2), (5, .int y3)] [] m4 0 0 (Qv mR) := by
        intro n
        induction n with
        | zero => intro y3 m4 h; cases h
        | succ n ih =>
          intro y3 m4 h
          obtain ⟨o, h, ho⟩ := loopF_inv h
          dsimp only [fX1_parseJoined_b0] at h
          refine V_iload (pc2 := 39) dX1_parseJoined_37 5 rfl ?_
          refine V_iload (pc2 := 41) dX1_parseJoined_39 4 rfl ?_
          refine V_icmp_ge (pc2 := 44) (tgt := 94) dX1_parseJoined_41 (fun c41 => ?_) (fun c41 => ?_)
          · replace h := iT c41 h
            have ee := inj1 h
            subst ee
            have e1 := pinj1 (loopF_e ho)
            subst e1
            exact V_lv hJ94 [] rfl
          · replace h := iF c41 h
            refine V_aload_n (pc2 := 45) dX1_parseJoined_44 0 rfl rfl ?_
            obtain ⟨x5, e_x5, h⟩ := bS h
            refine V_gI (pc2 := 48) e_x5 dX1_parseJoined_45 wF_1_22 ?_
            refine V_if_ge (pc2 := 51) (tgt := 94) dX1_parseJoined_48 (fun c48 => ?_) (fun c48 => ?_)
            · replace h := iT c48 h
              have ee := inj1 h
              subst ee
              have e1 := pinj1 (loopF_e ho)
              subst e1
              exact V_lv hJ94 [] rfl
            · replace h := iF c48 h
              refine V_aload_n (pc2 := 52) dX1_parseJoined_51 0 rfl rfl ?_
              obtain ⟨x6, e_x6, h⟩ := bS h
              refine V_gI (pc2 := 55) e_x6 dX1_parseJoined_52 wF_1_34 ?_
              obtain ⟨x7, e_x7, h⟩ := bS h
              refine V_cSi (pc2 := 58) [.int x6] (st := []) (tX1_tightness e_x7) dX1_parseJoined_55 wS_1_98 (by omega) rfl (Nat.le_of_ble_eq_true rfl) ?_
              refine V_iload_n (pc2 := 59) dX1_parseJoined_58 1 rfl rfl ?_
              refine V_icmp_ne (pc2 := 62) (tgt := 94) dX1_parseJoined_59 (fun c59 => ?_) (fun c59 => ?_)
              · replace h := iF c59 h
                have ee := inj1 h
                subst ee
                have e1 := pinj1 (loopF_e ho)
                subst e1
                exact V_lv hJ94 [] rfl
              · replace h := iT c59 h
                refine V_aload_n (pc2 := 63) dX1_parseJoined_62 0 rfl rfl ?_
                obtain ⟨x8, e_x8, h⟩ := bS h
                refine V_gI (pc2 := 66) e_x8 dX1_parseJoined_63 wF_1_34 ?_
                refine V_istore (pc2 := 68) (L2 := [(6, .int x8), (0, .ref a0), (1, .int p0), (2, .int p1), (3, .int p2), (4, .int y2), (5, .int y3)]) dX1_parseJoined_66 ?_ rfl rfl
                refine V_aload_n (pc2 := 69) dX1_parseJoined_68 1 rfl rfl ?_
                obtain ⟨m9, e_m9, h⟩ := bS h
                obtain ⟨⟨fs_m9, o_m9⟩, e_m9⟩ := cV_of e_m9
                refine V_cVv (pc2 := 72) [] (st := []) o_m9 (tX1_advance e_m9) dX1_parseJoined_69 wV_1_37 (by omega) rfl (Nat.le_of_ble_eq_true rfl) ?_
                refine V_aload_n (pc2 := 73) dX1_parseJoined_72 1 rfl rfl ?_
                refine V_iload_n (pc2 := 74) dX1_parseJoined_73 2 rfl rfl ?_
                refine V_iconst (v := 1) (pc2 := 75) dX1_parseJoined_74 (by decide) ?_
                refine V_iadd (pc2 := 76) dX1_parseJoined_75 ?_
                refine V_iload_n (pc2 := 77) dX1_parseJoined_76 3 rfl rfl ?_
                refine V_iload_n (pc2 := 78) dX1_parseJoined_77 4 rfl rfl ?_
                obtain ⟨m10, e_m10, h⟩ := bS h
                obtain ⟨⟨fs_m10, o_m10⟩, e_m10⟩ := cV_of e_m10
                refine V_cVv (pc2 := 81) [.int (p0 + (1 : Int32)), .int p1, .int p2] (st := []) o_m10 (hg_X1_parseJoined e_m10) dX1_parseJoined_78 wV_1_43 (hdd) rfl (Nat.le_of_ble_eq_true rfl) ?_
                refine V_aload_n (pc2 := 82) dX1_parseJoined_81 1 rfl rfl ?_
                refine V_iload (pc2 := 84) dX1_parseJoined_82 0 rfl ?_
                refine V_ineg (pc2 := 85) dX1_parseJoined_84 ?_
                obtain ⟨m11, e_m11, h⟩ := bS h
                obtain ⟨⟨fs_m11, o_m11⟩, e_m11⟩ := cV_of e_m11
                refine V_cVv (pc2 := 88) [.int (-x8)] (st := []) o_m11 (tX1_addStep e_m11) dX1_parseJoined_85 wV_1_102 (by omega) rfl (Nat.le_of_ble_eq_true rfl) ?_
                refine V_iinc (pc2 := 91) (v := y3 + (1 : Int32)) (L2 := [(5, .int (y3 + (1 : Int32))), (6, .int x8), (0, .ref a0), (1, .int p0), (2, .int p1), (3, .int p2), (4, .int y2)]) dX1_parseJoined_88 6 rfl (by rfl) ?_ rfl rfl
                refine V_goto (tgt := 37) dX1_parseJoined_91 ?_
                have ee := inj1 h
                subst ee
                exact V_lv (ih _ _ (loopF_c ho)) [2, 3, 4, 5, 6, 0] rfl
      exact V_lv (key37 _ _ _ hl) [2, 3, 4, 5, 1, 0] rfl
    clear h
    have h := hb
    clear hb
    refine V_icmp_ne (pc2 := 26) (tgt := 30) dX1_parseJoined_23 (fun c23 => ?_) (fun c23 => ?_)
    · replace h := iF c23 h
      refine V_bipush (v := 96) (pc2 := 32) dX1_parseJoined_30 (by decide) ?_
      have e1 := inj1 h
      subst e1
      exact hJ32
    · replace h := iT c23 h
      refine V_iconst (v := 1) (pc2 := 27) dX1_parseJoined_26 (by decide) ?_
      refine V_goto (tgt := 32) dX1_parseJoined_27 ?_
      have e1 := inj1 h
      subst e1
      exact hJ32
  · replace h := iF c2 h
    refine V_aload_n (pc2 := 6) dX1_parseJoined_5 0 rfl rfl ?_
    refine V_iload_n (pc2 := 7) dX1_parseJoined_6 2 rfl rfl ?_
    refine V_iload_n (pc2 := 8) dX1_parseJoined_7 3 rfl rfl ?_
    obtain ⟨m13, e_m13, h⟩ := bS h
    obtain ⟨⟨fs_m13, o_m13⟩, e_m13⟩ := cV_of e_m13
    refine V_cVv (pc2 := 11) [.int p1, .int p2] (st := []) o_m13 (hg_X1_parsePiece e_m13) dX1_parseJoined_8 wV_1_94 (hdd) rfl (Nat.le_of_ble_eq_true rfl) ?_
    have e1 := inj1 h
    subst e1
    exact V_vret dX1_parseJoined_11 rfl ⟨rfl, rfl⟩
noncomputable def fX1_parsePiece (g_X1_parseJoined : Nat → Int32 → Int32 → Int32 → Mem → Option (Mem)) (g_X1_parsePiece : Nat → Int32 → Int32 → Mem → Option (Mem)) (a0 : Nat) (p0 : Int32) (p1 : Int32) (m : Mem) : Option (Mem) :=
  (gI m a0 1 5).bind fun x1 =>
  if x1 < 0 then
    (gI m a0 1 2).bind fun x2 =>
    if x2 = (-3 : Int32) then
      (cV m a0 1 (fX1_numberHere a0 m)).bind fun x40 =>
      (cV m a0 1 (fX1_addLeaf a0 x40 m)).bind fun m41 =>
      (cV m41 a0 1 (fX1_advance a0 m41)).bind fun m42 =>
      some m42
    else
      (gI m a0 1 2).bind fun x3 =>
      if x3 = (-2 : Int32) then
        (cV m a0 1 (fX1_nameHere a0 m)).bind fun x20 =>
        if x20 < 0 then
          (gI m a0 1 2).bind fun x21 =>
          if x21 = (33 : Int32) then
            if (8 : Int32) ≤ p1 then
              (gI m a0 1 2).bind fun x28 =>
              if x28 = (40 : Int32) then
                if (8 : Int32) ≤ p0 then
                  (cV m a0 1 (fX1_refuse a0 m)).bind fun m30 =>
                  some m30
                else
                  (cV m a0 1 (fX1_advance a0 m)).bind fun m31 =>
                  (cV m31 a0 1 (g_X1_parseJoined a0 (0 : Int32) (p0 + (1 : Int32)) p1 m31)).bind fun m32 =>
                  (cV m32 a0 1 (fX1_parseClosing a0 m32)).bind fun m33 =>
                  some m33
              else
                (cV m a0 1 (fX1_refuse a0 m)).bind fun m29 =>
                some m29
            else
              (cV m a0 1 (fX1_advance a0 m)).bind fun m34 =>
              (cV m34 a0 1 (g_X1_parsePiece a0 p0 (p1 + (1 : Int32)) m34)).bind fun m35 =>
              (cV m35 a0 1 (fX1_addStep a0 (-33 : Int32) m35)).bind fun m36 =>
              some m36
          else
            (gI m a0 1 2).bind fun x22 =>
            if x22 = (40 : Int32) then
              if (8 : Int32) ≤ p0 then
                (cV m a0 1 (fX1_refuse a0 m)).bind fun m24 =>
                some m24
              else
                (cV m a0 1 (fX1_advance a0 m)).bind fun m25 =>
                (cV m25 a0 1 (g_X1_parseJoined a0 (0 : Int32) (p0 + (1 : Int32)) p1 m25)).bind fun m26 =>
                (cV m26 a0 1 (fX1_parseClosing a0 m26)).bind fun m27 =>
                some m27
            else
              (cV m a0 1 (fX1_refuse a0 m)).bind fun m23 =>
              some m23
        else
          (cV m a0 1 (fX1_nameHere a0 m)).bind fun x37 =>
          (cV m a0 1 (fX1_addLeaf a0 ((10000 : Int32) + x37) m)).bind fun m38 =>
          (cV m38 a0 1 (fX1_advance a0 m38)).bind fun m39 =>
          some m39
      else
        (gI m a0 1 2).bind fun x4 =>
        if x4 = (33 : Int32) then
          if (8 : Int32) ≤ p1 then
            (gI m a0 1 2).bind fun x11 =>
            if x11 = (40 : Int32) then
              if (8 : Int32) ≤ p0 then
                (cV m a0 1 (fX1_refuse a0 m)).bind fun m13 =>
                some m13
              else
                (cV m a0 1 (fX1_advance a0 m)).bind fun m14 =>
                (cV m14 a0 1 (g_X1_parseJoined a0 (0 : Int32) (p0 + (1 : Int32)) p1 m14)).bind fun m15 =>
                (cV m15 a0 1 (fX1_parseClosing a0 m15)).bind fun m16 =>
                some m16
            else
              (cV m a0 1 (fX1_refuse a0 m)).bind fun m12 =>
              some m12
          else
            (cV m a0 1 (fX1_advance a0 m)).bind fun m17 =>
            (cV m17 a0 1 (g_X1_parsePiece a0 p0 (p1 + (1 : Int32)) m17)).bind fun m18 =>
            (cV m18 a0 1 (fX1_addStep a0 (-33 : Int32) m18)).bind fun m19 =>
            some m19
        else
          (gI m a0 1 2).bind fun x5 =>
          if x5 = (40 : Int32) then
            if (8 : Int32) ≤ p0 then
              (cV m a0 1 (fX1_refuse a0 m)).bind fun m7 =>
              some m7
            else
              (cV m a0 1 (fX1_advance a0 m)).bind fun m8 =>
              (cV m8 a0 1 (g_X1_parseJoined a0 (0 : Int32) (p0 + (1 : Int32)) p1 m8)).bind fun m9 =>
              (cV m9 a0 1 (fX1_parseClosing a0 m9)).bind fun m10 =>
              some m10
          else
            (cV m a0 1 (fX1_refuse a0 m)).bind fun m6 =>
            some m6
  else
    some m
set_option maxRecDepth 20000 in
theorem tX1_parsePiece {D : Dat} {d d2 : Nat} {g_X1_parseJoined : Nat → Int32 → Int32 → Int32 → Mem → Option (Mem)} {g_X1_parsePiece : Nat → Int32 → Int32 → Mem → Option (Mem)} {a0 : Nat} {p0 : Int32} {p1 : Int32} {m : Mem} {mR : Mem} (hdd : d2 < d) (hg_X1_parseJoined : ∀ {a9 : Nat} {q0 : Int32} {q1 : Int32} {q2 : Int32} {m9 : Mem} {m8 : Mem}, g_X1_parseJoined a9 q0 q1 q2 m9 = some m8 → T D d2 IX1_parseJoined [.ref a9, .int q0, .int q1, .int q2] m9 0 0 (Qv m8)) (hg_X1_parsePiece : ∀ {a9 : Nat} {q0 : Int32} {q1 : Int32} {m9 : Mem} {m8 : Mem}, g_X1_parsePiece a9 q0 q1 m9 = some m8 → T D d2 IX1_parsePiece [.ref a9, .int q0, .int q1] m9 0 0 (Qv m8)) (hd0 : 5 ≤ d) (h : fX1_parsePiece g_X1_parseJoined g_X1_parsePiece a0 p0 p1 m = some mR) : T D d IX1_parsePiece [.ref a0, .int p0, .int p1] m 0 0 (Qv mR) := by
  refine T_of_V (by decide) (Nat.le_of_ble_eq_true rfl) ?_
  show V D d IX1_parsePiece 0 [(0, .ref a0), (1, .int p0), (2, .int p1)] [] m 0 0 (Qv mR)
  unfold fX1_parsePiece at h
  refine V_aload_n (pc2 := 1) dX1_parsePiece_0 0 rfl rfl ?_
  obtain ⟨x1, e_x1, h⟩ := bS h
  refine V_gI (pc2 := 4) e_x1 dX1_parsePiece_1 wF_1_22 ?_
  refine V_if_lt (pc2 := 7) (tgt := 8) dX1_parsePiece_4 (fun c4 => ?_) (fun c4 => ?_)
  · replace h := iT c4 h
    refine V_aload_n (pc2 := 9) dX1_parsePiece_8 0 rfl rfl ?_
    obtain ⟨x2, e_x2, h⟩ := bS h
    refine V_gI (pc2 := 12) e_x2 dX1_parsePiece_9 wF_1_34 ?_
    refine V_bipush (v := -3) (pc2 := 14) dX1_parsePiece_12 (by decide) ?_
    refine V_icmp_ne (pc2 := 17) (tgt := 32) dX1_parsePiece_14 (fun c14 => ?_) (fun c14 => ?_)
    · replace h := iF c14 h
      refine V_aload_n (pc2 := 33) dX1_parsePiece_32 0 rfl rfl ?_
      obtain ⟨x3, e_x3, h⟩ := bS h
      refine V_gI (pc2 := 36) e_x3 dX1_parsePiece_33 wF_1_34 ?_
      refine V_bipush (v := -2) (pc2 := 38) dX1_parsePiece_36 (by decide) ?_
      refine V_icmp_ne (pc2 := 41) (tgt := 67) dX1_parsePiece_38 (fun c38 => ?_) (fun c38 => ?_)
      · replace h := iF c38 h
        refine V_aload_n (pc2 := 68) dX1_parsePiece_67 0 rfl rfl ?_
        obtain ⟨x4, e_x4, h⟩ := bS h
        refine V_gI (pc2 := 71) e_x4 dX1_parsePiece_68 wF_1_34 ?_
        refine V_bipush (v := 33) (pc2 := 73) dX1_parsePiece_71 (by decide) ?_
        refine V_icmp_ne (pc2 := 76) (tgt := 103) dX1_parsePiece_73 (fun c73 => ?_) (fun c73 => ?_)
        · replace h := iF c73 h
          refine V_aload_n (pc2 := 104) dX1_parsePiece_103 0 rfl rfl ?_
          obtain ⟨x5, e_x5, h⟩ := bS h
          refine V_gI (pc2 := 107) e_x5 dX1_parsePiece_104 wF_1_34 ?_
          refine V_bipush (v := 40) (pc2 := 109) dX1_parsePiece_107 (by decide) ?_
          refine V_icmp_ne (pc2 := 112) (tgt := 138) dX1_parsePiece_109 (fun c109 => ?_) (fun c109 => ?_)
          · replace h := iF c109 h
            refine V_aload_n (pc2 := 139) dX1_parsePiece_138 0 rfl rfl ?_
            obtain ⟨m6, e_m6, h⟩ := bS h
            obtain ⟨⟨fs_m6, o_m6⟩, e_m6⟩ := cV_of e_m6
            refine V_cVv (pc2 := 142) [] (st := []) o_m6 (tX1_refuse e_m6) dX1_parsePiece_139 wV_1_47 (by omega) rfl (Nat.le_of_ble_eq_true rfl) ?_
            have e1 := inj1 h
            subst e1
            exact V_vret dX1_parsePiece_142 rfl ⟨rfl, rfl⟩
          · replace h := iT c109 h
            refine V_iload_n (pc2 := 113) dX1_parsePiece_112 1 rfl rfl ?_
            refine V_bipush (v := 8) (pc2 := 115) dX1_parsePiece_113 (by decide) ?_
            refine V_icmp_ge (pc2 := 118) (tgt := 138) dX1_parsePiece_115 (fun c115 => ?_) (fun c115 => ?_)
            · replace h := iT c115 h
              refine V_aload_n (pc2 := 139) dX1_parsePiece_138 0 rfl rfl ?_
              obtain ⟨m7, e_m7, h⟩ := bS h
              obtain ⟨⟨fs_m7, o_m7⟩, e_m7⟩ := cV_of e_m7
              refine V_cVv (pc2 := 142) [] (st := []) o_m7 (tX1_refuse e_m7) dX1_parsePiece_139 wV_1_47 (by omega) rfl (Nat.le_of_ble_eq_true rfl) ?_
              have e1 := inj1 h
              subst e1
              exact V_vret dX1_parsePiece_142 rfl ⟨rfl, rfl⟩
            · replace h := iF c115 h
              refine V_aload_n (pc2 := 119) dX1_parsePiece_118 0 rfl rfl ?_
              obtain ⟨m8, e_m8, h⟩ := bS h
              obtain ⟨⟨fs_m8, o_m8⟩, e_m8⟩ := cV_of e_m8
              refine V_cVv (pc2 := 122) [] (st := []) o_m8 (tX1_advance e_m8) dX1_parsePiece_119 wV_1_37 (by omega) rfl (Nat.le_of_ble_eq_true rfl) ?_
              refine V_aload_n (pc2 := 123) dX1_parsePiece_122 0 rfl rfl ?_
              refine V_iconst (v := 0) (pc2 := 124) dX1_parsePiece_123 (by decide) ?_
              refine V_iload_n (pc2 := 125) dX1_parsePiece_124 1 rfl rfl ?_
              refine V_iconst (v := 1) (pc2 := 126) dX1_parsePiece_125 (by decide) ?_
              refine V_iadd (pc2 := 127) dX1_parsePiece_126 ?_
              refine V_iload_n (pc2 := 128) dX1_parsePiece_127 2 rfl rfl ?_
              obtain ⟨m9, e_m9, h⟩ := bS h
              obtain ⟨⟨fs_m9, o_m9⟩, e_m9⟩ := cV_of e_m9
              refine V_cVv (pc2 := 131) [.int (0 : Int32), .int (p0 + (1 : Int32)), .int p1] (st := []) o_m9 (hg_X1_parseJoined e_m9) dX1_parsePiece_128 wV_1_43 (hdd) rfl (Nat.le_of_ble_eq_true rfl) ?_
              refine V_aload_n (pc2 := 132) dX1_parsePiece_131 0 rfl rfl ?_
              obtain ⟨m10, e_m10, h⟩ := bS h
              obtain ⟨⟨fs_m10, o_m10⟩, e_m10⟩ := cV_of e_m10
              refine V_cVv (pc2 := 135) [] (st := []) o_m10 (tX1_parseClosing e_m10) dX1_parsePiece_132 wV_1_115 (by omega) rfl (Nat.le_of_ble_eq_true rfl) ?_
              refine V_goto (tgt := 142) dX1_parsePiece_135 ?_
              have e1 := inj1 h
              subst e1
              exact V_vret dX1_parsePiece_142 rfl ⟨rfl, rfl⟩
        · replace h := iT c73 h
          refine V_iload_n (pc2 := 77) dX1_parsePiece_76 2 rfl rfl ?_
          refine V_bipush (v := 8) (pc2 := 79) dX1_parsePiece_77 (by decide) ?_
          refine V_icmp_ge (pc2 := 82) (tgt := 103) dX1_parsePiece_79 (fun c79 => ?_) (fun c79 => ?_)
          · replace h := iT c79 h
            refine V_aload_n (pc2 := 104) dX1_parsePiece_103 0 rfl rfl ?_
            obtain ⟨x11, e_x11, h⟩ := bS h
            refine V_gI (pc2 := 107) e_x11 dX1_parsePiece_104 wF_1_34 ?_
            refine V_bipush (v := 40) (pc2 := 109) dX1_parsePiece_107 (by decide) ?_
            refine V_icmp_ne (pc2 := 112) (tgt := 138) dX1_parsePiece_109 (fun c109 => ?_) (fun c109 => ?_)
            · replace h := iF c109 h
              refine V_aload_n (pc2 := 139) dX1_parsePiece_138 0 rfl rfl ?_
              obtain ⟨m12, e_m12, h⟩ := bS h
              obtain ⟨⟨fs_m12, o_m12⟩, e_m12⟩ := cV_of e_m12
              refine V_cVv (pc2 := 142) [] (st := []) o_m12 (tX1_refuse e_m12) dX1_parsePiece_139 wV_1_47 (by omega) rfl (Nat.le_of_ble_eq_true rfl) ?_
              have e1 := inj1 h
              subst e1
              exact V_vret dX1_parsePiece_142 rfl ⟨rfl, rfl⟩
            · replace h := iT c109 h
              refine V_iload_n (pc2 := 113) dX1_parsePiece_112 1 rfl rfl ?_
              refine V_bipush (v := 8) (pc2 := 115) dX1_parsePiece_113 (by decide) ?_
              refine V_icmp_ge (pc2 := 118) (tgt := 138) dX1_parsePiece_115 (fun c115 => ?_) (fun c115 => ?_)
              · replace h := iT c115 h
                refine V_aload_n (pc2 := 139) dX1_parsePiece_138 0 rfl rfl ?_
                obtain ⟨m13, e_m13, h⟩ := bS h
                obtain ⟨⟨fs_m13, o_m13⟩, e_m13⟩ := cV_of e_m13
                refine V_cVv (pc2 := 142) [] (st := []) o_m13 (tX1_refuse e_m13) dX1_parsePiece_139 wV_1_47 (by omega) rfl (Nat.le_of_ble_eq_true rfl) ?_
                have e1 := inj1 h
                subst e1
                exact V_vret dX1_parsePiece_142 rfl ⟨rfl, rfl⟩
              · replace h := iF c115 h
                refine V_aload_n (pc2 := 119) dX1_parsePiece_118 0 rfl rfl ?_
                obtain ⟨m14, e_m14, h⟩ := bS h
                obtain ⟨⟨fs_m14, o_m14⟩, e_m14⟩ := cV_of e_m14
                refine V_cVv (pc2 := 122) [] (st := []) o_m14 (tX1_advance e_m14) dX1_parsePiece_119 wV_1_37 (by omega) rfl (Nat.le_of_ble_eq_true rfl) ?_
                refine V_aload_n (pc2 := 123) dX1_parsePiece_122 0 rfl rfl ?_
                refine V_iconst (v := 0) (pc2 := 124) dX1_parsePiece_123 (by decide) ?_
                refine V_iload_n (pc2 := 125) dX1_parsePiece_124 1 rfl rfl ?_
                refine V_iconst (v := 1) (pc2 := 126) dX1_parsePiece_125 (by decide) ?_
                refine V_iadd (pc2 := 127) dX1_parsePiece_126 ?_
                refine V_iload_n (pc2 := 128) dX1_parsePiece_127 2 rfl rfl ?_
                obtain ⟨m15, e_m15, h⟩ := bS h
                obtain ⟨⟨fs_m15, o_m15⟩, e_m15⟩ := cV_of e_m15
                refine V_cVv (pc2 := 131) [.int (0 : Int32), .int (p0 + (1 : Int32)), .int p1] (st := []) o_m15 (hg_X1_parseJoined e_m15) dX1_parsePiece_128 wV_1_43 (hdd) rfl (Nat.le_of_ble_eq_true rfl) ?_
                refine V_aload_n (pc2 := 132) dX1_parsePiece_131 0 rfl rfl ?_
                obtain ⟨m16, e_m16, h⟩ := bS h
                obtain ⟨⟨fs_m16, o_m16⟩, e_m16⟩ := cV_of e_m16
                refine V_cVv (pc2 := 135) [] (st := []) o_m16 (tX1_parseClosing e_m16) dX1_parsePiece_132 wV_1_115 (by omega) rfl (Nat.le_of_ble_eq_true rfl) ?_
                refine V_goto (tgt := 142) dX1_parsePiece_135 ?_
                have e1 := inj1 h
                subst e1
                exact V_vret dX1_parsePiece_142 rfl ⟨rfl, rfl⟩
          · replace h := iF c79 h
            refine V_aload_n (pc2 := 83) dX1_parsePiece_82 0 rfl rfl ?_
            obtain ⟨m17, e_m17, h⟩ := bS h
            obtain ⟨⟨fs_m17, o_m17⟩, e_m17⟩ := cV_of e_m17
            refine V_cVv (pc2 := 86) [] (st := []) o_m17 (tX1_advance e_m17) dX1_parsePiece_83 wV_1_37 (by omega) rfl (Nat.le_of_ble_eq_true rfl) ?_
            refine V_aload_n (pc2 := 87) dX1_parsePiece_86 0 rfl rfl ?_
            refine V_iload_n (pc2 := 88) dX1_parsePiece_87 1 rfl rfl ?_
            refine V_iload_n (pc2 := 89) dX1_parsePiece_88 2 rfl rfl ?_
            refine V_iconst (v := 1) (pc2 := 90) dX1_parsePiece_89 (by decide) ?_
            refine V_iadd (pc2 := 91) dX1_parsePiece_90 ?_
            obtain ⟨m18, e_m18, h⟩ := bS h
            obtain ⟨⟨fs_m18, o_m18⟩, e_m18⟩ := cV_of e_m18
            refine V_cVv (pc2 := 94) [.int p0, .int (p1 + (1 : Int32))] (st := []) o_m18 (hg_X1_parsePiece e_m18) dX1_parsePiece_91 wV_1_94 (hdd) rfl (Nat.le_of_ble_eq_true rfl) ?_
            refine V_aload_n (pc2 := 95) dX1_parsePiece_94 0 rfl rfl ?_
            refine V_bipush (v := -33) (pc2 := 97) dX1_parsePiece_95 (by decide) ?_
            obtain ⟨m19, e_m19, h⟩ := bS h
            obtain ⟨⟨fs_m19, o_m19⟩, e_m19⟩ := cV_of e_m19
            refine V_cVv (pc2 := 100) [.int (-33 : Int32)] (st := []) o_m19 (tX1_addStep e_m19) dX1_parsePiece_97 wV_1_102 (by omega) rfl (Nat.le_of_ble_eq_true rfl) ?_
            refine V_goto (tgt := 142) dX1_parsePiece_100 ?_
            have e1 := inj1 h
            subst e1
            exact V_vret dX1_parsePiece_142 rfl ⟨rfl, rfl⟩
      · replace h := iT c38 h
        refine V_aload_n (pc2 := 42) dX1_parsePiece_41 0 rfl rfl ?_
        obtain ⟨x20, e_x20, h⟩ := bS h
        obtain ⟨⟨fs_x20, o_x20⟩, e_x20⟩ := cV_of e_x20
        refine V_cVi (pc2 := 45) [] (st := []) o_x20 (tX1_nameHere e_x20) dX1_parsePiece_42 wV_1_112 (by omega) rfl (Nat.le_of_ble_eq_true rfl) ?_
        refine V_if_lt (pc2 := 48) (tgt := 67) dX1_parsePiece_45 (fun c45 => ?_) (fun c45 => ?_)
        · replace h := iT c45 h
          refine V_aload_n (pc2 := 68) dX1_parsePiece_67 0 rfl rfl ?_
          obtain ⟨x21, e_x21, h⟩ := bS h
          refine V_gI (pc2 := 71) e_x21 dX1_parsePiece_68 wF_1_34 ?_
          refine V_bipush (v := 33) (pc2 := 73) dX1_parsePiece_71 (by decide) ?_
          refine V_icmp_ne (pc2 := 76) (tgt := 103) dX1_parsePiece_73 (fun c73 => ?_) (fun c73 => ?_)
          · replace h := iF c73 h
            refine V_aload_n (pc2 := 104) dX1_parsePiece_103 0 rfl rfl ?_
            obtain ⟨x22, e_x22, h⟩ := bS h
            refine V_gI (pc2 := 107) e_x22 dX1_parsePiece_104 wF_1_34 ?_
            refine V_bipush (v := 40) (pc2 := 109) dX1_parsePiece_107 (by decide) ?_
            refine V_icmp_ne (pc2 := 112) (tgt := 138) dX1_parsePiece_109 (fun c109 => ?_) (fun c109 => ?_)
            · replace h := iF c109 h
              refine V_aload_n (pc2 := 139) dX1_parsePiece_138 0 rfl rfl ?_
              obtain ⟨m23, e_m23, h⟩ := bS h
              obtain ⟨⟨fs_m23, o_m23⟩, e_m23⟩ := cV_of e_m23
              refine V_cVv (pc2 := 142) [] (st := []) o_m23 (tX1_refuse e_m23) dX1_parsePiece_139 wV_1_47 (by omega) rfl (Nat.le_of_ble_eq_true rfl) ?_
              have e1 := inj1 h
              subst e1
              exact V_vret dX1_parsePiece_142 rfl ⟨rfl, rfl⟩
            · replace h := iT c109 h
              refine V_iload_n (pc2 := 113) dX1_parsePiece_112 1 rfl rfl ?_
              refine V_bipush (v := 8) (pc2 := 115) dX1_parsePiece_113 (by decide) ?_
              refine V_icmp_ge (pc2 := 118) (tgt := 138) dX1_parsePiece_115 (fun c115 => ?_) (fun c115 => ?_)
              · replace h := iT c115 h
                refine V_aload_n (pc2 := 139) dX1_parsePiece_138 0 rfl rfl ?_
                obtain ⟨m24, e_m24, h⟩ := bS h
                obtain ⟨⟨fs_m24, o_m24⟩, e_m24⟩ := cV_of e_m24
                refine V_cVv (pc2 := 142) [] (st := []) o_m24 (tX1_refuse e_m24) dX1_parsePiece_139 wV_1_47 (by omega) rfl (Nat.le_of_ble_eq_true rfl) ?_
                have e1 := inj1 h
                subst e1
                exact V_vret dX1_parsePiece_142 rfl ⟨rfl, rfl⟩
              · replace h := iF c115 h
                refine V_aload_n (pc2 := 119) dX1_parsePiece_118 0 rfl rfl ?_
                obtain ⟨m25, e_m25, h⟩ := bS h
                obtain ⟨⟨fs_m25, o_m25⟩, e_m25⟩ := cV_of e_m25
                refine V_cVv (pc2 := 122) [] (st := []) o_m25 (tX1_advance e_m25) dX1_parsePiece_119 wV_1_37 (by omega) rfl (Nat.le_of_ble_eq_true rfl) ?_
                refine V_aload_n (pc2 := 123) dX1_parsePiece_122 0 rfl rfl ?_
                refine V_iconst (v := 0) (pc2 := 124) dX1_parsePiece_123 (by decide) ?_
                refine V_iload_n (pc2 := 125) dX1_parsePiece_124 1 rfl rfl ?_
                refine V_iconst (v := 1) (pc2 := 126) dX1_parsePiece_125 (by decide) ?_
                refine V_iadd (pc2 := 127) dX1_parsePiece_126 ?_
                refine V_iload_n (pc2 := 128) dX1_parsePiece_127 2 rfl rfl ?_
                obtain ⟨m26, e_m26, h⟩ := bS h
                obtain ⟨⟨fs_m26, o_m26⟩, e_m26⟩ := cV_of e_m26
                refine V_cVv (pc2 := 131) [.int (0 : Int32), .int (p0 + (1 : Int32)), .int p1] (st := []) o_m26 (hg_X1_parseJoined e_m26) dX1_parsePiece_128 wV_1_43 (hdd) rfl (Nat.le_of_ble_eq_true rfl) ?_
                refine V_aload_n (pc2 := 132) dX1_parsePiece_131 0 rfl rfl ?_
                obtain ⟨m27, e_m27, h⟩ := bS h
                obtain ⟨⟨fs_m27, o_m27⟩, e_m27⟩ := cV_of e_m27
                refine V_cVv (pc2 := 135) [] (st := []) o_m27 (tX1_parseClosing e_m27) dX1_parsePiece_132 wV_1_115 (by omega) rfl (Nat.le_of_ble_eq_true rfl) ?_
                refine V_goto (tgt := 142) dX1_parsePiece_135 ?_
                have e1 := inj1 h
                subst e1
                exact V_vret dX1_parsePiece_142 rfl ⟨rfl, rfl⟩
          · replace h := iT c73 h
            refine V_iload_n (pc2 := 77) dX1_parsePiece_76 2 rfl rfl ?_
            refine V_bipush (v := 8) (pc2 := 79) dX1_parsePiece_77 (by decide) ?_
            refine V_icmp_ge (pc2 := 82) (tgt := 103) dX1_parsePiece_79 (fun c79 => ?_) (fun c79 => ?_)
            · replace h := iT c79 h
              refine V_aload_n (pc2 := 104) dX1_parsePiece_103 0 rfl rfl ?_
              obtain ⟨x28, e_x28, h⟩ := bS h
              refine V_gI (pc2 := 107) e_x28 dX1_parsePiece_104 wF_1_34 ?_
              refine V_bipush (v := 40) (pc2 := 109) dX1_parsePiece_107 (by decide) ?_
              refine V_icmp_ne (pc2 := 112) (tgt := 138) dX1_parsePiece_109 (fun c109 => ?_) (fun c109 => ?_)
              · replace h := iF c109 h
                refine V_aload_n (pc2 := 139) dX1_parsePiece_138 0 rfl rfl ?_
                obtain ⟨m29, e_m29, h⟩ := bS h
                obtain ⟨⟨fs_m29, o_m29⟩, e_m29⟩ := cV_of e_m29
                refine V_cVv (pc2 := 142) [] (st := []) o_m29 (tX1_refuse e_m29) dX1_parsePiece_139 wV_1_47 (by omega) rfl (Nat.le_of_ble_eq_true rfl) ?_
                have e1 := inj1 h
                subst e1
                exact V_vret dX1_parsePiece_142 rfl ⟨rfl, rfl⟩
              · replace h := iT c109 h
                refine V_iload_n (pc2 := 113) dX1_parsePiece_112 1 rfl rfl ?_
                refine V_bipush (v := 8) (pc2 := 115) dX1_parsePiece_113 (by decide) ?_
                refine V_icmp_ge (pc2 := 118) (tgt := 138) dX1_parsePiece_115 (fun c115 => ?_) (fun c115 => ?_)
                · replace h := iT c115 h
                  refine V_aload_n (pc2 := 139) dX1_parsePiece_138 0 rfl rfl ?_
                  obtain ⟨m30, e_m30, h⟩ := bS h
                  obtain ⟨⟨fs_m30, o_m30⟩, e_m30⟩ := cV_of e_m30
                  refine V_cVv (pc2 := 142) [] (st := []) o_m30 (tX1_refuse e_m30) dX1_parsePiece_139 wV_1_47 (by omega) rfl (Nat.le_of_ble_eq_true rfl) ?_
                  have e1 := inj1 h
                  subst e1
                  exact V_vret dX1_parsePiece_142 rfl ⟨rfl, rfl⟩
                · replace h := iF c115 h
                  refine V_aload_n (pc2 := 119) dX1_parsePiece_118 0 rfl rfl ?_
                  obtain ⟨m31, e_m31, h⟩ := bS h
                  obtain ⟨⟨fs_m31, o_m31⟩, e_m31⟩ := cV_of e_m31
                  refine V_cVv (pc2 := 122) [] (st := []) o_m31 (tX1_advance e_m31) dX1_parsePiece_119 wV_1_37 (by omega) rfl (Nat.le_of_ble_eq_true rfl) ?_
                  refine V_aload_n (pc2 := 123) dX1_parsePiece_122 0 rfl rfl ?_
                  refine V_iconst (v := 0) (pc2 := 124) dX1_parsePiece_123 (by decide) ?_
                  refine V_iload_n (pc2 := 125) dX1_parsePiece_124 1 rfl rfl ?_
                  refine V_iconst (v := 1) (pc2 := 126) dX1_parsePiece_125 (by decide) ?_
                  refine V_iadd (pc2 := 127) dX1_parsePiece_126 ?_
                  refine V_iload_n (pc2 := 128) dX1_parsePiece_127 2 rfl rfl ?_
                  obtain ⟨m32, e_m32, h⟩ := bS h
                  obtain ⟨⟨fs_m32, o_m32⟩, e_m32⟩ := cV_of e_m32
                  refine V_cVv (pc2 := 131) [.int (0 : Int32), .int (p0 + (1 : Int32)), .int p1] (st := []) o_m32 (hg_X1_parseJoined e_m32) dX1_parsePiece_128 wV_1_43 (hdd) rfl (Nat.le_of_ble_eq_true rfl) ?_
                  refine V_aload_n (pc2 := 132) dX1_parsePiece_131 0 rfl rfl ?_
                  obtain ⟨m33, e_m33, h⟩ := bS h
                  obtain ⟨⟨fs_m33, o_m33⟩, e_m33⟩ := cV_of e_m33
                  refine V_cVv (pc2 := 135) [] (st := []) o_m33 (tX1_parseClosing e_m33) dX1_parsePiece_132 wV_1_115 (by omega) rfl (Nat.le_of_ble_eq_true rfl) ?_
                  refine V_goto (tgt := 142) dX1_parsePiece_135 ?_
                  have e1 := inj1 h
                  subst e1
                  exact V_vret dX1_parsePiece_142 rfl ⟨rfl, rfl⟩
            · replace h := iF c79 h
              refine V_aload_n (pc2 := 83) dX1_parsePiece_82 0 rfl rfl ?_
              obtain ⟨m34, e_m34, h⟩ := bS h
              obtain ⟨⟨fs_m34, o_m34⟩, e_m34⟩ := cV_of e_m34
              refine V_cVv (pc2 := 86) [] (st := []) o_m34 (tX1_advance e_m34) dX1_parsePiece_83 wV_1_37 (by omega) rfl (Nat.le_of_ble_eq_true rfl) ?_
              refine V_aload_n (pc2 := 87) dX1_parsePiece_86 0 rfl rfl ?_
              refine V_iload_n (pc2 := 88) dX1_parsePiece_87 1 rfl rfl ?_
              refine V_iload_n (pc2 := 89) dX1_parsePiece_88 2 rfl rfl ?_
              refine V_iconst (v := 1) (pc2 := 90) dX1_parsePiece_89 (by decide) ?_
              refine V_iadd (pc2 := 91) dX1_parsePiece_90 ?_
              obtain ⟨m35, e_m35, h⟩ := bS h
              obtain ⟨⟨fs_m35, o_m35⟩, e_m35⟩ := cV_of e_m35
              refine V_cVv (pc2 := 94) [.int p0, .int (p1 + (1 : Int32))] (st := []) o_m35 (hg_X1_parsePiece e_m35) dX1_parsePiece_91 wV_1_94 (hdd) rfl (Nat.le_of_ble_eq_true rfl) ?_
              refine V_aload_n (pc2 := 95) dX1_parsePiece_94 0 rfl rfl ?_
              refine V_bipush (v := -33) (pc2 := 97) dX1_parsePiece_95 (by decide) ?_
              obtain ⟨m36, e_m36, h⟩ := bS h
              obtain ⟨⟨fs_m36, o_m36⟩, e_m36⟩ := cV_of e_m36
              refine V_cVv (pc2 := 100) [.int (-33 : Int32)] (st := []) o_m36 (tX1_addStep e_m36) dX1_parsePiece_97 wV_1_102 (by omega) rfl (Nat.le_of_ble_eq_true rfl) ?_
              refine V_goto (tgt := 142) dX1_parsePiece_100 ?_
              have e1 := inj1 h
              subst e1
              exact V_vret dX1_parsePiece_142 rfl ⟨rfl, rfl⟩
        · replace h := iF c45 h
          refine V_aload_n (pc2 := 49) dX1_parsePiece_48 0 rfl rfl ?_
          refine V_sipush (v := 10000) (pc2 := 52) dX1_parsePiece_49 (by decide) ?_
          refine V_aload_n (pc2 := 53) dX1_parsePiece_52 0 rfl rfl ?_
          obtain ⟨x37, e_x37, h⟩ := bS h
          obtain ⟨⟨fs_x37, o_x37⟩, e_x37⟩ := cV_of e_x37
          refine V_cVi (pc2 := 56) [] (st := [.int (10000 : Int32), .ref a0]) o_x37 (tX1_nameHere e_x37) dX1_parsePiece_53 wV_1_112 (by omega) rfl (Nat.le_of_ble_eq_true rfl) ?_
          refine V_iadd (pc2 := 57) dX1_parsePiece_56 ?_
          obtain ⟨m38, e_m38, h⟩ := bS h
          obtain ⟨⟨fs_m38, o_m38⟩, e_m38⟩ := cV_of e_m38
          refine V_cVv (pc2 := 60) [.int ((10000 : Int32) + x37)] (st := []) o_m38 (tX1_addLeaf e_m38) dX1_parsePiece_57 wV_1_109 (by omega) rfl (Nat.le_of_ble_eq_true rfl) ?_
          refine V_aload_n (pc2 := 61) dX1_parsePiece_60 0 rfl rfl ?_
          obtain ⟨m39, e_m39, h⟩ := bS h
          obtain ⟨⟨fs_m39, o_m39⟩, e_m39⟩ := cV_of e_m39
          refine V_cVv (pc2 := 64) [] (st := []) o_m39 (tX1_advance e_m39) dX1_parsePiece_61 wV_1_37 (by omega) rfl (Nat.le_of_ble_eq_true rfl) ?_
          refine V_goto (tgt := 142) dX1_parsePiece_64 ?_
          have e1 := inj1 h
          subst e1
          exact V_vret dX1_parsePiece_142 rfl ⟨rfl, rfl⟩
    · replace h := iT c14 h
      refine V_aload_n (pc2 := 18) dX1_parsePiece_17 0 rfl rfl ?_
      refine V_aload_n (pc2 := 19) dX1_parsePiece_18 0 rfl rfl ?_
      obtain ⟨x40, e_x40, h⟩ := bS h
      obtain ⟨⟨fs_x40, o_x40⟩, e_x40⟩ := cV_of e_x40
      refine V_cVi (pc2 := 22) [] (st := [.ref a0]) o_x40 (tX1_numberHere e_x40) dX1_parsePiece_19 wV_1_106 (by omega) rfl (Nat.le_of_ble_eq_true rfl) ?_
      obtain ⟨m41, e_m41, h⟩ := bS h
      obtain ⟨⟨fs_m41, o_m41⟩, e_m41⟩ := cV_of e_m41
      refine V_cVv (pc2 := 25) [.int x40] (st := []) o_m41 (tX1_addLeaf e_m41) dX1_parsePiece_22 wV_1_109 (by omega) rfl (Nat.le_of_ble_eq_true rfl) ?_
      refine V_aload_n (pc2 := 26) dX1_parsePiece_25 0 rfl rfl ?_
      obtain ⟨m42, e_m42, h⟩ := bS h
      obtain ⟨⟨fs_m42, o_m42⟩, e_m42⟩ := cV_of e_m42
      refine V_cVv (pc2 := 29) [] (st := []) o_m42 (tX1_advance e_m42) dX1_parsePiece_26 wV_1_37 (by omega) rfl (Nat.le_of_ble_eq_true rfl) ?_
      refine V_goto (tgt := 142) dX1_parsePiece_29 ?_
      have e1 := inj1 h
      subst e1
      exact V_vret dX1_parsePiece_142 rfl ⟨rfl, rfl⟩
  · replace h := iF c4 h
    have e1 := inj1 h
    subst e1
    exact V_vret dX1_parsePiece_7 rfl ⟨rfl, rfl⟩
noncomputable def PJ : Nat → (Nat → Int32 → Int32 → Int32 → Mem → Option (Mem)) × (Nat → Int32 → Int32 → Mem → Option (Mem))
  | 0 => (fun _ _ _ _ _ => none, fun _ _ _ _ => none)
  | n + 1 => (fX1_parseJoined (PJ n).1 (PJ n).2, fX1_parsePiece (PJ n).1 (PJ n).2)
theorem tPJ {D : Dat} : ∀ (n : Nat), (∀ {a0 : Nat} {p0 p1 p2 : Int32} {m m1 : Mem}, (PJ n).1 a0 p0 p1 p2 m = some m1 → T D (10 + n) IX1_parseJoined [.ref a0, .int p0, .int p1, .int p2] m 0 0 (Qv m1)) ∧ (∀ {a0 : Nat} {p0 p1 : Int32} {m m1 : Mem}, (PJ n).2 a0 p0 p1 m = some m1 → T D (10 + n) IX1_parsePiece [.ref a0, .int p0, .int p1] m 0 0 (Qv m1)) := by
  intro n
  induction n with
  | zero => exact ⟨fun h => (by cases h), fun h => (by cases h)⟩
  | succ n ih =>
    have hdd : 10 + n < 10 + (n + 1) := by omega
    exact ⟨fun h => tX1_parseJoined hdd (fun {a q0 q1 q2 m9 m8} h => ih.1 h) (fun {a q0 q1 m9 m8} h => ih.2 h) (by omega) h, fun h => tX1_parsePiece hdd (fun {a q0 q1 q2 m9 m8} h => ih.1 h) (fun {a q0 q1 m9 m8} h => ih.2 h) (by omega) h⟩
noncomputable def FX1_parseJoined (a0 : Nat) (p0 p1 p2 : Int32) (m : Mem) : Option (Mem) := (PJ bigP).1 a0 p0 p1 p2 m
theorem TFX1_parseJoined {D : Dat} {a0 : Nat} {p0 p1 p2 : Int32} {m mR : Mem} (h : FX1_parseJoined a0 p0 p1 p2 m = some mR) : T D 130 IX1_parseJoined [.ref a0, .int p0, .int p1, .int p2] m 0 0 (Qv mR) := (tPJ bigP).1 h
noncomputable def fX1_parse (a0 : Nat) (m : Mem) : Option (Int32 × Mem) :=
  (pI m a0 1 5 (-1 : Int32)).bind fun m1 =>
  (pI m1 a0 1 7 (0 : Int32)).bind fun m2 =>
  (pI m2 a0 1 9 (0 : Int32)).bind fun m3 =>
  (pI m3 a0 1 4 (0 : Int32)).bind fun m4 =>
  (pI m4 a0 1 2 (-1 : Int32)).bind fun m5 =>
  (cV m5 a0 1 (fX1_advance a0 m5)).bind fun m6 =>
  (cV m6 a0 1 (fX1_parseKey a0 m6)).bind fun m7 =>
  (cV m7 a0 1 (FX1_parseJoined a0 (0 : Int32) (0 : Int32) (0 : Int32) m7)).bind fun m8 =>
  (gI m8 a0 1 2).bind fun x9 =>
  (
    if x9 = (-1 : Int32) then
      some m8
    else
      (cV m8 a0 1 (fX1_refuse a0 m8)).bind fun m10 =>
      some m10).bind fun m11 =>
  (gI m11 a0 1 5).bind fun x12 =>
  some (x12, m11)
set_option maxRecDepth 20000 in
theorem tX1_parse {D : Dat} {a0 : Nat} {m : Mem} {rR : Int32} {mR : Mem} (h : fX1_parse a0 m = some (rR, mR)) : T D 131 IX1_parse [.ref a0] m 0 0 (Qi rR mR) := by
  refine T_of_V (by decide) (Nat.le_of_ble_eq_true rfl) ?_
  show V D 131 IX1_parse 0 [(0, .ref a0)] [] m 0 0 (Qi rR mR)
  unfold fX1_parse at h
  refine V_aload_n (pc2 := 1) dX1_parse_0 0 rfl rfl ?_
  refine V_iconst (v := -1) (pc2 := 2) dX1_parse_1 (by decide) ?_
  obtain ⟨m1, e_m1, h⟩ := bS h
  refine V_pI (pc2 := 5) e_m1 dX1_parse_2 wP_1_22 rfl rfl ?_
  refine V_aload_n (pc2 := 6) dX1_parse_5 0 rfl rfl ?_
  refine V_iconst (v := 0) (pc2 := 7) dX1_parse_6 (by decide) ?_
  obtain ⟨m2, e_m2, h⟩ := bS h
  refine V_pI (pc2 := 10) e_m2 dX1_parse_7 wP_1_25 rfl rfl ?_
  refine V_aload_n (pc2 := 11) dX1_parse_10 0 rfl rfl ?_
  refine V_iconst (v := 0) (pc2 := 12) dX1_parse_11 (by decide) ?_
  obtain ⟨m3, e_m3, h⟩ := bS h
  refine V_pI (pc2 := 15) e_m3 dX1_parse_12 wP_1_28 rfl rfl ?_
  refine V_aload_n (pc2 := 16) dX1_parse_15 0 rfl rfl ?_
  refine V_iconst (v := 0) (pc2 := 17) dX1_parse_16 (by decide) ?_
  obtain ⟨m4, e_m4, h⟩ := bS h
  refine V_pI (pc2 := 20) e_m4 dX1_parse_17 wP_1_31 rfl rfl ?_
  refine V_aload_n (pc2 := 21) dX1_parse_20 0 rfl rfl ?_
  refine V_iconst (v := -1) (pc2 := 22) dX1_parse_21 (by decide) ?_
  obtain ⟨m5, e_m5, h⟩ := bS h
  refine V_pI (pc2 := 25) e_m5 dX1_parse_22 wP_1_34 rfl rfl ?_
  refine V_aload_n (pc2 := 26) dX1_parse_25 0 rfl rfl ?_
  obtain ⟨m6, e_m6, h⟩ := bS h
  obtain ⟨⟨fs_m6, o_m6⟩, e_m6⟩ := cV_of e_m6
  refine V_cVv (pc2 := 29) [] (st := []) o_m6 (tX1_advance e_m6) dX1_parse_26 wV_1_37 (by decide) rfl (Nat.le_of_ble_eq_true rfl) ?_
  refine V_aload_n (pc2 := 30) dX1_parse_29 0 rfl rfl ?_
  obtain ⟨m7, e_m7, h⟩ := bS h
  obtain ⟨⟨fs_m7, o_m7⟩, e_m7⟩ := cV_of e_m7
  refine V_cVv (pc2 := 33) [] (st := []) o_m7 (tX1_parseKey e_m7) dX1_parse_30 wV_1_40 (by decide) rfl (Nat.le_of_ble_eq_true rfl) ?_
  refine V_aload_n (pc2 := 34) dX1_parse_33 0 rfl rfl ?_
  refine V_iconst (v := 0) (pc2 := 35) dX1_parse_34 (by decide) ?_
  refine V_iconst (v := 0) (pc2 := 36) dX1_parse_35 (by decide) ?_
  refine V_iconst (v := 0) (pc2 := 37) dX1_parse_36 (by decide) ?_
  obtain ⟨m8, e_m8, h⟩ := bS h
  obtain ⟨⟨fs_m8, o_m8⟩, e_m8⟩ := cV_of e_m8
  refine V_cVv (pc2 := 40) [.int (0 : Int32), .int (0 : Int32), .int (0 : Int32)] (st := []) o_m8 (TFX1_parseJoined e_m8) dX1_parse_37 wV_1_43 (by decide) rfl (Nat.le_of_ble_eq_true rfl) ?_
  refine V_aload_n (pc2 := 41) dX1_parse_40 0 rfl rfl ?_
  obtain ⟨x9, e_x9, h⟩ := bS h
  refine V_gI (pc2 := 44) e_x9 dX1_parse_41 wF_1_34 ?_
  refine V_iconst (v := -1) (pc2 := 45) dX1_parse_44 (by decide) ?_
  obtain ⟨m11, hb, h⟩ := bS h
  have hJ52 : V D 131 IX1_parse 52 [(0, .ref a0)] [] m11 0 0 (Qi rR mR) := by
    refine V_aload_n (pc2 := 53) dX1_parse_52 0 rfl rfl ?_
    obtain ⟨x12, e_x12, h⟩ := bS h
    refine V_gI (pc2 := 56) e_x12 dX1_parse_53 wF_1_22 ?_
    obtain ⟨e1, e2⟩ := inj2 h
    subst e1
    subst e2
    exact V_iret dX1_parse_56 rfl ⟨rfl, rfl⟩
  clear h
  have h := hb
  clear hb
  refine V_icmp_eq (pc2 := 48) (tgt := 52) dX1_parse_45 (fun c45 => ?_) (fun c45 => ?_)
  · replace h := iT c45 h
    have e1 := inj1 h
    subst e1
    exact hJ52
  · replace h := iF c45 h
    refine V_aload_n (pc2 := 49) dX1_parse_48 0 rfl rfl ?_
    obtain ⟨m10, e_m10, h⟩ := bS h
    obtain ⟨⟨fs_m10, o_m10⟩, e_m10⟩ := cV_of e_m10
    refine V_cVv (pc2 := 52) [] (st := []) o_m10 (tX1_refuse e_m10) dX1_parse_49 wV_1_47 (by decide) rfl (Nat.le_of_ble_eq_true rfl) ?_
    have e1 := inj1 h
    subst e1
    exact hJ52
