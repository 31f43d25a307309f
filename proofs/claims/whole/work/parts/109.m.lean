noncomputable def fX8_pour_b0 (a0 : Nat) (p0 : Int32) : Int32 × Int32 × Mem → Option ((Int32 × Int32 × Mem) ⊕ (Int32 × Mem)) := fun (y4, y5, m6) =>
  (gR m6 a0 8 5).bind fun r7 =>
  (ldI m6 r7 p0).bind fun x8 =>
  if x8 ≤ y5 then
    some (.inr (y4, m6))
  else
    (gR m6 a0 8 0).bind fun r9 =>
    (ldI m6 r9 (1 : Int32)).bind fun x10 =>
    if x10 ≤ y5 then
      some (.inr (y4, m6))
    else
      (gR m6 a0 8 6).bind fun r11 =>
      (ldI m6 r11 (((24 : Int32) * p0) + y5)).bind fun x12 =>
      (
        if x12 = (-1000000005 : Int32) then
          (cV m6 a0 8 (fX8_of a0 y5 (1 : Int32) m6)).bind fun x14 =>
          some x14
        else
          (fX8_held x12 (0 : Int32) (99 : Int32) m6).bind fun x13 =>
          some x13).bind fun y15 =>
      (cV m6 a0 8 (fX8_becomes a0 (((42 : Int32) + ((3 : Int32) * y5)) + (1 : Int32)) y15 m6)).bind fun (x16, m17) =>
      (
        if y15 = x16 then
          some (0 : Int32)
        else
          some (1 : Int32)).bind fun y18 =>
      some (.inl (y4 + y18, y5 + (1 : Int32), m17))
noncomputable def fX8_pour (a0 : Nat) (p0 : Int32) (m : Mem) : Option (Int32 × Mem) :=
  (fX8_isSheet p0 m).bind fun b1 =>
  if b1 = true then
    (gR m a0 8 4).bind fun r2 =>
    (ldI m r2 p0).bind fun x3 =>
    if 0 ≤ x3 then
      (loopF (fX8_pour_b0 a0 p0) bigN ((0 : Int32), (0 : Int32), m)).bind fun (y19, m20) =>
      some (y19, m20)
    else
      some ((-1000000011 : Int32), m)
  else
    some ((-1000000001 : Int32), m)
set_option maxRecDepth 20000 in
theorem tX8_pour {D : Dat} {a0 : Nat} {p0 : Int32} {m : Mem} {rR : Int32} {mR : Mem} (h : fX8_pour a0 p0 m = some (rR, mR)) : T D 2 IX8_pour [.ref a0, .int p0] m 0 0 (Qi rR mR) := by
  refine T_of_V (by decide) (Nat.le_of_ble_eq_true rfl) ?_
  show V D 2 IX8_pour 0 [(0, .ref a0), (1, .int p0)] [] m 0 0 (Qi rR mR)
  unfold fX8_pour at h
  refine V_iload_n (pc2 := 1) dX8_pour_0 1 rfl rfl ?_
  obtain ⟨b1, e_b1, h⟩ := bS h
  refine V_cSi (pc2 := 4) [.int p0] (st := []) (tX8_isSheet e_b1) dX8_pour_1 wS_8_295 (by decide) rfl (Nat.le_of_ble_eq_true rfl) ?_
  refine V_ifb_ne (pc2 := 7) (tgt := 10) dX8_pour_4 (fun c4 => ?_) (fun c4 => ?_)
  · replace h := iT c4 h
    refine V_aload_n (pc2 := 11) dX8_pour_10 0 rfl rfl ?_
    obtain ⟨r2, e_r2, h⟩ := bS h
    refine V_gR (pc2 := 14) e_r2 dX8_pour_11 wF_8_19 ?_
    refine V_iload_n (pc2 := 15) dX8_pour_14 1 rfl rfl ?_
    obtain ⟨x3, e_x3, h⟩ := bS h
    refine V_ldI (pc2 := 16) e_x3 dX8_pour_15 ?_
    refine V_if_ge (pc2 := 19) (tgt := 23) dX8_pour_16 (fun c16 => ?_) (fun c16 => ?_)
    · replace h := iT c16 h
      refine V_iconst (v := 0) (pc2 := 24) dX8_pour_23 (by decide) ?_
      refine V_istore_n (pc2 := 25) (L2 := [(2, .int (0 : Int32)), (0, .ref a0), (1, .int p0)]) dX8_pour_24 ?_ rfl rfl rfl
      refine V_iconst (v := 0) (pc2 := 26) dX8_pour_25 (by decide) ?_
      refine V_istore_n (pc2 := 27) (L2 := [(3, .int (0 : Int32)), (2, .int (0 : Int32)), (0, .ref a0), (1, .int p0)]) dX8_pour_26 ?_ rfl rfl rfl
      obtain ⟨⟨y19, m20⟩, hl, h⟩ := bS h
      try dsimp only at h
      have hJ119 : V D 2 IX8_pour 119 [(2, .int y19)] [] m20 0 0 (Qi rR mR) := by
        refine V_iload_n (pc2 := 120) dX8_pour_119 0 rfl rfl ?_
        obtain ⟨e1, e2⟩ := inj2 h
        subst e1
        subst e2
        exact V_iret dX8_pour_120 rfl ⟨rfl, rfl⟩
      clear h
      have key27 : ∀ (n : Nat) (y4 : Int32) (y5 : Int32) (m6 : Mem), loopF (fX8_pour_b0 a0 p0) n (y4, y5, m6) = some (y19, m20) → V D 2 IX8_pour 27 [(0, .ref a0), (1, .int p0), (2, .int y4), (3, .int y5)] [] m6 0 0 (Qi rR mR) := by
        intro n
        induction n with
        | zero => intro y4 y5 m6 h; cases h
        | succ n ih =>
          intro y4 y5 m6 h
          obtain ⟨o, h, ho⟩ := loopF_inv h
          dsimp only [fX8_pour_b0] at h
          refine V_iload_n (pc2 := 28) dX8_pour_27 3 rfl rfl ?_
          refine V_aload_n (pc2 := 29) dX8_pour_28 0 rfl rfl ?_
          obtain ⟨r7, e_r7, h⟩ := bS h
          refine V_gR (pc2 := 32) e_r7 dX8_pour_29 wF_8_22 ?_
          refine V_iload_n (pc2 := 33) dX8_pour_32 1 rfl rfl ?_
          obtain ⟨x8, e_x8, h⟩ := bS h
          refine V_ldI (pc2 := 34) e_x8 dX8_pour_33 ?_
          refine V_icmp_ge (pc2 := 37) (tgt := 119) dX8_pour_34 (fun c34 => ?_) (fun c34 => ?_)
          · replace h := iT c34 h
            have ee := inj1 h
            subst ee
            obtain ⟨e1, e2⟩ := pinj2 (loopF_e ho)
            subst e1
            subst e2
            exact V_lv hJ119 [2] rfl
          · replace h := iF c34 h
            refine V_iload_n (pc2 := 38) dX8_pour_37 3 rfl rfl ?_
            refine V_aload_n (pc2 := 39) dX8_pour_38 0 rfl rfl ?_
            obtain ⟨r9, e_r9, h⟩ := bS h
            refine V_gR (pc2 := 42) e_r9 dX8_pour_39 wF_8_7 ?_
            refine V_iconst (v := 1) (pc2 := 43) dX8_pour_42 (by decide) ?_
            obtain ⟨x10, e_x10, h⟩ := bS h
            refine V_ldI (pc2 := 44) e_x10 dX8_pour_43 ?_
            refine V_icmp_ge (pc2 := 47) (tgt := 119) dX8_pour_44 (fun c44 => ?_) (fun c44 => ?_)
            · replace h := iT c44 h
              have ee := inj1 h
              subst ee
              obtain ⟨e1, e2⟩ := pinj2 (loopF_e ho)
              subst e1
              subst e2
              exact V_lv hJ119 [2] rfl
            · replace h := iF c44 h
              refine V_aload_n (pc2 := 48) dX8_pour_47 0 rfl rfl ?_
              obtain ⟨r11, e_r11, h⟩ := bS h
              refine V_gR (pc2 := 51) e_r11 dX8_pour_48 wF_8_25 ?_
              refine V_bipush (v := 24) (pc2 := 53) dX8_pour_51 (by decide) ?_
              refine V_iload_n (pc2 := 54) dX8_pour_53 1 rfl rfl ?_
              refine V_imul (pc2 := 55) dX8_pour_54 ?_
              refine V_iload_n (pc2 := 56) dX8_pour_55 3 rfl rfl ?_
              refine V_iadd (pc2 := 57) dX8_pour_56 ?_
              obtain ⟨x12, e_x12, h⟩ := bS h
              refine V_ldI (pc2 := 58) e_x12 dX8_pour_57 ?_
              refine V_istore (pc2 := 60) (L2 := [(4, .int x12), (0, .ref a0), (1, .int p0), (2, .int y4), (3, .int y5)]) dX8_pour_58 ?_ rfl rfl
              refine V_iload (pc2 := 62) dX8_pour_60 0 rfl ?_
              refine V_ldc (v := -1000000005) (pc2 := 64) dX8_pour_62 wconstant_8_64 ?_
              obtain ⟨y15, hb, h⟩ := bS h
              have hJ84 : V D 2 IX8_pour 84 [(0, .ref a0), (1, .int p0), (2, .int y4), (3, .int y5)] [.int y15] m6 0 0 (Qi rR mR) := by
                refine V_istore (pc2 := 86) (L2 := [(5, .int y15), (0, .ref a0), (1, .int p0), (2, .int y4), (3, .int y5)]) dX8_pour_84 ?_ rfl rfl
                refine V_iload_n (pc2 := 87) dX8_pour_86 3 rfl rfl ?_
                refine V_iload (pc2 := 89) dX8_pour_87 0 rfl ?_
                refine V_aload_n (pc2 := 90) dX8_pour_89 1 rfl rfl ?_
                refine V_bipush (v := 42) (pc2 := 92) dX8_pour_90 (by decide) ?_
                refine V_iconst (v := 3) (pc2 := 93) dX8_pour_92 (by decide) ?_
                refine V_iload_n (pc2 := 94) dX8_pour_93 4 rfl rfl ?_
                refine V_imul (pc2 := 95) dX8_pour_94 ?_
                refine V_iadd (pc2 := 96) dX8_pour_95 ?_
                refine V_iconst (v := 1) (pc2 := 97) dX8_pour_96 (by decide) ?_
                refine V_iadd (pc2 := 98) dX8_pour_97 ?_
                refine V_iload (pc2 := 100) dX8_pour_98 0 rfl ?_
                obtain ⟨⟨x16, m17⟩, e_x16, h⟩ := bS h
                try dsimp only at h
                obtain ⟨⟨fs_x16, o_x16⟩, e_x16⟩ := cV_of e_x16
                refine V_cVi (pc2 := 103) [.int (((42 : Int32) + ((3 : Int32) * y5)) + (1 : Int32)), .int y15] (st := [.int y15, .int y4]) o_x16 (tX8_becomes e_x16) dX8_pour_100 wV_8_112 (by decide) rfl (Nat.le_of_ble_eq_true rfl) ?_
                obtain ⟨y18, hb, h⟩ := bS h
                have hJ111 : V D 2 IX8_pour 111 [(0, .ref a0), (1, .int p0), (3, .int y5)] [.int y18, .int y4] m17 0 0 (Qi rR mR) := by
                  refine V_iadd (pc2 := 112) dX8_pour_111 ?_
                  refine V_istore_n (pc2 := 113) (L2 := [(2, .int (y4 + y18)), (0, .ref a0), (1, .int p0), (3, .int y5)]) dX8_pour_112 ?_ rfl rfl rfl
                  refine V_iinc (pc2 := 116) (v := y5 + (1 : Int32)) (L2 := [(3, .int (y5 + (1 : Int32))), (2, .int (y4 + y18)), (0, .ref a0), (1, .int p0)]) dX8_pour_113 3 rfl (by rfl) ?_ rfl rfl
                  refine V_goto (tgt := 27) dX8_pour_116 ?_
                  have ee := inj1 h
                  subst ee
                  exact V_lv (ih _ _ _ (loopF_c ho)) [2, 3, 1, 0] rfl
                clear h
                have h := hb
                clear hb
                refine V_icmp_ne (pc2 := 106) (tgt := 110) dX8_pour_103 (fun c103 => ?_) (fun c103 => ?_)
                · replace h := iF c103 h
                  refine V_iconst (v := 1) (pc2 := 111) dX8_pour_110 (by decide) ?_
                  have e1 := inj1 h
                  subst e1
                  exact V_lv hJ111 [1, 2, 4] rfl
                · replace h := iT c103 h
                  refine V_iconst (v := 0) (pc2 := 107) dX8_pour_106 (by decide) ?_
                  refine V_goto (tgt := 111) dX8_pour_107 ?_
                  have e1 := inj1 h
                  subst e1
                  exact V_lv hJ111 [1, 2, 4] rfl
              clear h
              have h := hb
              clear hb
              refine V_icmp_ne (pc2 := 67) (tgt := 76) dX8_pour_64 (fun c64 => ?_) (fun c64 => ?_)
              · replace h := iF c64 h
                refine V_iload (pc2 := 78) dX8_pour_76 0 rfl ?_
                refine V_iconst (v := 0) (pc2 := 79) dX8_pour_78 (by decide) ?_
                refine V_bipush (v := 99) (pc2 := 81) dX8_pour_79 (by decide) ?_
                obtain ⟨x13, e_x13, h⟩ := bS h
                refine V_cSi (pc2 := 84) [.int x12, .int (0 : Int32), .int (99 : Int32)] (st := []) (tX8_held e_x13) dX8_pour_81 wS_8_92 (by decide) rfl (Nat.le_of_ble_eq_true rfl) ?_
                have e1 := inj1 h
                subst e1
                exact V_lv hJ84 [1, 2, 3, 4] rfl
              · replace h := iT c64 h
                refine V_aload_n (pc2 := 68) dX8_pour_67 1 rfl rfl ?_
                refine V_iload_n (pc2 := 69) dX8_pour_68 4 rfl rfl ?_
                refine V_iconst (v := 1) (pc2 := 70) dX8_pour_69 (by decide) ?_
                obtain ⟨x14, e_x14, h⟩ := bS h
                obtain ⟨⟨fs_x14, o_x14⟩, e_x14⟩ := cV_of e_x14
                refine V_cVi (pc2 := 73) [.int y5, .int (1 : Int32)] (st := []) o_x14 (tX8_of e_x14) dX8_pour_70 wV_8_121 (by decide) rfl (Nat.le_of_ble_eq_true rfl) ?_
                refine V_goto (tgt := 84) dX8_pour_73 ?_
                have e1 := inj1 h
                subst e1
                exact V_lv hJ84 [1, 2, 3, 4] rfl
      exact V_lv (key27 _ _ _ _ hl) [2, 3, 1, 0] rfl
    · replace h := iF c16 h
      refine V_ldcw (v := -1000000011) (pc2 := 22) dX8_pour_19 wconstant_8_301 ?_
      obtain ⟨e1, e2⟩ := inj2 h
      subst e1
      subst e2
      exact V_iret dX8_pour_22 rfl ⟨rfl, rfl⟩
  · replace h := iF c4 h
    refine V_ldc (v := -1000000001) (pc2 := 9) dX8_pour_7 wconstant_8_72 ?_
    obtain ⟨e1, e2⟩ := inj2 h
    subst e1
    subst e2
    exact V_iret dX8_pour_9 rfl ⟨rfl, rfl⟩
noncomputable def fX8_reads_b0 (a0 : Nat) (p0 : Int32) (m : Mem) : Int32 → Option (Int32 ⊕ Int32) := fun y4 =>
  (gR m a0 8 5).bind fun r5 =>
  (ldI m r5 p0).bind fun x6 =>
  if x6 ≤ y4 then
    some (.inr (-1000000005 : Int32))
  else
    (gR m a0 8 6).bind fun r7 =>
    (ldI m r7 (((24 : Int32) * p0) + y4)).bind fun x8 =>
    if x8 = (-1000000005 : Int32) then
      some (.inl (y4 + (1 : Int32)))
    else
      (gR m a0 8 0).bind fun r9 =>
      (ldI m r9 (0 : Int32)).bind fun x10 =>
      if x10 ≤ y4 then
        some (.inr y4)
      else
        (cV m a0 8 (fX8_own a0 y4 (1 : Int32) m)).bind fun x11 =>
        if x8 = x11 then
          some (.inl (y4 + (1 : Int32)))
        else
          some (.inr y4)
noncomputable def fX8_reads (a0 : Nat) (p0 : Int32) (m : Mem) : Option (Int32) :=
  (fX8_isSheet p0 m).bind fun b1 =>
  if b1 = true then
    (gR m a0 8 4).bind fun r2 =>
    (ldI m r2 p0).bind fun x3 =>
    if 0 ≤ x3 then
      loopF (fX8_reads_b0 a0 p0 m) bigN (0 : Int32)
    else
      some (-1000000011 : Int32)
  else
    some (-1000000001 : Int32)
set_option maxRecDepth 20000 in
theorem tX8_reads {D : Dat} {a0 : Nat} {p0 : Int32} {m : Mem} {rR : Int32} (h : fX8_reads a0 p0 m = some rR) : T D 2 IX8_reads [.ref a0, .int p0] m 0 0 (Qi rR m) := by
  refine T_of_V (by decide) (Nat.le_of_ble_eq_true rfl) ?_
  show V D 2 IX8_reads 0 [(0, .ref a0), (1, .int p0)] [] m 0 0 (Qi rR m)
  unfold fX8_reads at h
  refine V_iload_n (pc2 := 1) dX8_reads_0 1 rfl rfl ?_
  obtain ⟨b1, e_b1, h⟩ := bS h
  refine V_cSi (pc2 := 4) [.int p0] (st := []) (tX8_isSheet e_b1) dX8_reads_1 wS_8_295 (by decide) rfl (Nat.le_of_ble_eq_true rfl) ?_
  refine V_ifb_ne (pc2 := 7) (tgt := 10) dX8_reads_4 (fun c4 => ?_) (fun c4 => ?_)
  · replace h := iT c4 h
    refine V_aload_n (pc2 := 11) dX8_reads_10 0 rfl rfl ?_
    obtain ⟨r2, e_r2, h⟩ := bS h
    refine V_gR (pc2 := 14) e_r2 dX8_reads_11 wF_8_19 ?_
    refine V_iload_n (pc2 := 15) dX8_reads_14 1 rfl rfl ?_
    obtain ⟨x3, e_x3, h⟩ := bS h
    refine V_ldI (pc2 := 16) e_x3 dX8_reads_15 ?_
    refine V_if_ge (pc2 := 19) (tgt := 23) dX8_reads_16 (fun c16 => ?_) (fun c16 => ?_)
    · replace h := iT c16 h
      refine V_iconst (v := 0) (pc2 := 24) dX8_reads_23 (by decide) ?_
      refine V_istore_n (pc2 := 25) (L2 := [(2, .int (0 : Int32)), (0, .ref a0), (1, .int p0)]) dX8_reads_24 ?_ rfl rfl rfl
      have hl := h
      clear h
      have key25 : ∀ (n : Nat) (y4 : Int32), loopF (fX8_reads_b0 a0 p0 m) n y4 = some rR → V D 2 IX8_reads 25 [(0, .ref a0), (1, .int p0), (2, .int y4)] [] m 0 0 (Qi rR m) := by
        intro n
        induction n with
        | zero => intro y4 h; cases h
        | succ n ih =>
          intro y4 h
          obtain ⟨o, h, ho⟩ := loopF_inv h
          dsimp only [fX8_reads_b0] at h
          refine V_iload_n (pc2 := 26) dX8_reads_25 2 rfl rfl ?_
          refine V_aload_n (pc2 := 27) dX8_reads_26 0 rfl rfl ?_
          obtain ⟨r5, e_r5, h⟩ := bS h
          refine V_gR (pc2 := 30) e_r5 dX8_reads_27 wF_8_22 ?_
          refine V_iload_n (pc2 := 31) dX8_reads_30 1 rfl rfl ?_
          obtain ⟨x6, e_x6, h⟩ := bS h
          refine V_ldI (pc2 := 32) e_x6 dX8_reads_31 ?_
          refine V_icmp_ge (pc2 := 35) (tgt := 81) dX8_reads_32 (fun c32 => ?_) (fun c32 => ?_)
          · replace h := iT c32 h
            refine V_ldc (v := -1000000005) (pc2 := 83) dX8_reads_81 wconstant_8_64 ?_
            have ee := inj1 h
            subst ee
            have e1 := pinj1 (loopF_e ho)
            subst e1
            exact V_iret dX8_reads_83 rfl ⟨rfl, rfl⟩
          · replace h := iF c32 h
            refine V_aload_n (pc2 := 36) dX8_reads_35 0 rfl rfl ?_
            obtain ⟨r7, e_r7, h⟩ := bS h
            refine V_gR (pc2 := 39) e_r7 dX8_reads_36 wF_8_25 ?_
            refine V_bipush (v := 24) (pc2 := 41) dX8_reads_39 (by decide) ?_
            refine V_iload_n (pc2 := 42) dX8_reads_41 1 rfl rfl ?_
            refine V_imul (pc2 := 43) dX8_reads_42 ?_
            refine V_iload_n (pc2 := 44) dX8_reads_43 2 rfl rfl ?_
            refine V_iadd (pc2 := 45) dX8_reads_44 ?_
            obtain ⟨x8, e_x8, h⟩ := bS h
            refine V_ldI (pc2 := 46) e_x8 dX8_reads_45 ?_
            refine V_istore_n (pc2 := 47) (L2 := [(3, .int x8), (0, .ref a0), (1, .int p0), (2, .int y4)]) dX8_reads_46 ?_ rfl rfl rfl
            refine V_iload_n (pc2 := 48) dX8_reads_47 0 rfl rfl ?_
            refine V_ldc (v := -1000000005) (pc2 := 50) dX8_reads_48 wconstant_8_64 ?_
            refine V_icmp_eq (pc2 := 53) (tgt := 75) dX8_reads_50 (fun c50 => ?_) (fun c50 => ?_)
            · replace h := iT c50 h
              refine V_iinc (pc2 := 78) (v := y4 + (1 : Int32)) (L2 := [(2, .int (y4 + (1 : Int32))), (3, .int x8), (0, .ref a0), (1, .int p0)]) dX8_reads_75 3 rfl (by rfl) ?_ rfl rfl
              refine V_goto (tgt := 25) dX8_reads_78 ?_
              have ee := inj1 h
              subst ee
              exact V_lv (ih _ (loopF_c ho)) [2, 3, 0] rfl
            · replace h := iF c50 h
              refine V_iload_n (pc2 := 54) dX8_reads_53 3 rfl rfl ?_
              refine V_aload_n (pc2 := 55) dX8_reads_54 1 rfl rfl ?_
              obtain ⟨r9, e_r9, h⟩ := bS h
              refine V_gR (pc2 := 58) e_r9 dX8_reads_55 wF_8_7 ?_
              refine V_iconst (v := 0) (pc2 := 59) dX8_reads_58 (by decide) ?_
              obtain ⟨x10, e_x10, h⟩ := bS h
              refine V_ldI (pc2 := 60) e_x10 dX8_reads_59 ?_
              refine V_icmp_ge (pc2 := 63) (tgt := 73) dX8_reads_60 (fun c60 => ?_) (fun c60 => ?_)
              · replace h := iT c60 h
                refine V_iload_n (pc2 := 74) dX8_reads_73 3 rfl rfl ?_
                have ee := inj1 h
                subst ee
                have e1 := pinj1 (loopF_e ho)
                subst e1
                exact V_iret dX8_reads_74 rfl ⟨rfl, rfl⟩
              · replace h := iF c60 h
                refine V_iload_n (pc2 := 64) dX8_reads_63 0 rfl rfl ?_
                refine V_aload_n (pc2 := 65) dX8_reads_64 1 rfl rfl ?_
                refine V_iload_n (pc2 := 66) dX8_reads_65 3 rfl rfl ?_
                refine V_iconst (v := 1) (pc2 := 67) dX8_reads_66 (by decide) ?_
                obtain ⟨x11, e_x11, h⟩ := bS h
                obtain ⟨⟨fs_x11, o_x11⟩, e_x11⟩ := cV_of e_x11
                refine V_cVi (pc2 := 70) [.int y4, .int (1 : Int32)] (st := [.int x8]) o_x11 (tX8_own e_x11) dX8_reads_67 wV_8_74 (by decide) rfl (Nat.le_of_ble_eq_true rfl) ?_
                refine V_icmp_eq (pc2 := 73) (tgt := 75) dX8_reads_70 (fun c70 => ?_) (fun c70 => ?_)
                · replace h := iT c70 h
                  refine V_iinc (pc2 := 78) (v := y4 + (1 : Int32)) (L2 := [(2, .int (y4 + (1 : Int32))), (3, .int x8), (0, .ref a0), (1, .int p0)]) dX8_reads_75 3 rfl (by rfl) ?_ rfl rfl
                  refine V_goto (tgt := 25) dX8_reads_78 ?_
                  have ee := inj1 h
                  subst ee
                  exact V_lv (ih _ (loopF_c ho)) [2, 3, 0] rfl
                · replace h := iF c70 h
                  refine V_iload_n (pc2 := 74) dX8_reads_73 3 rfl rfl ?_
                  have ee := inj1 h
                  subst ee
                  have e1 := pinj1 (loopF_e ho)
                  subst e1
                  exact V_iret dX8_reads_74 rfl ⟨rfl, rfl⟩
      exact V_lv (key25 _ _ hl) [1, 2, 0] rfl
    · replace h := iF c16 h
      refine V_ldcw (v := -1000000011) (pc2 := 22) dX8_reads_19 wconstant_8_301 ?_
      have e1 := inj1 h
      subst e1
      exact V_iret dX8_reads_22 rfl ⟨rfl, rfl⟩
  · replace h := iF c4 h
    refine V_ldc (v := -1000000001) (pc2 := 9) dX8_reads_7 wconstant_8_72 ?_
    have e1 := inj1 h
    subst e1
    exact V_iret dX8_reads_9 rfl ⟨rfl, rfl⟩
noncomputable def fX8_filmed_b2 (a0 : Nat) (p0 : Int32) : Int32 × Int32 × Mem → Option ((Int32 × Int32 × Mem) ⊕ (Int32 × Mem)) := fun (y17, y18, m19) =>
  (gR m19 a0 8 5).bind fun r20 =>
  (ldI m19 r20 p0).bind fun x21 =>
  if x21 ≤ y18 then
    some (.inr (y17, m19))
  else
    (gR m19 a0 8 6).bind fun r22 =>
    (ldI m19 r22 (((24 : Int32) * p0) + y18)).bind fun x23 =>
    (cV m19 a0 8 (fX8_turn a0 m19)).bind fun (x24, m25) =>
    (
      if x23 = (-1000000005 : Int32) then
        some (0 : Int32)
      else
        if x23 = x24 then
          some (0 : Int32)
        else
          some (1 : Int32)).bind fun y26 =>
    some (.inl (y17 + y26, y18 + (1 : Int32), m25))
noncomputable def fX8_filmed_b1 (a0 : Nat) (y8 : Int32) : Int32 × Mem → Option ((Int32 × Mem) ⊕ Mem) := fun (y10, m11) =>
  (gR m11 a0 8 0).bind fun r12 =>
  (ldI m11 r12 (1 : Int32)).bind fun x13 =>
  if x13 ≤ y10 then
    some (.inr m11)
  else
    (gR m11 a0 8 0).bind fun r14 =>
    (stI m11 r14 (((42 : Int32) + ((3 : Int32) * y10)) + (1 : Int32)) y8).bind fun m15 =>
    some (.inl (y10 + (1 : Int32), m15))
noncomputable def fX8_filmed_b0 (a0 : Nat) (p0 : Int32) : Int32 × Int32 × Int32 × Mem → Option ((Int32 × Int32 × Int32 × Mem) ⊕ (Int32 × Int32 × Mem)) := fun (y6, y7, y8, m9) =>
  if (40 : Int32) < y8 then
    some (.inr (y6, y7, m9))
  else
    (loopF (fX8_filmed_b1 a0 y8) bigN ((0 : Int32), m9)).bind fun m16 =>
    (loopF (fX8_filmed_b2 a0 p0) bigN ((0 : Int32), (0 : Int32), m16)).bind fun (y27, m28) =>
    (cV m28 a0 8 (fX8_laysBack a0 m28)).bind fun m29 =>
    (
      if y6 < 0 then
        some (y8, y27)
      else
        if y7 ≤ y27 then
          some (y6, y7)
        else
          some (y8, y27)).bind fun (y30, y31) =>
    some (.inl (y30, y31, y8 + (1 : Int32), m29))
noncomputable def fX8_filmed (a0 : Nat) (p0 : Int32) (p1 : Int32) (m : Mem) : Option (Int32 × Mem) :=
  (fX8_isSheet p0 m).bind fun b1 =>
  if b1 = true then
    (fX8_isIn p1.toInt64 (0 : Int64) (1 : Int64) m).bind fun b2 =>
    if b2 = true then
      (gR m a0 8 4).bind fun r3 =>
      (ldI m r3 p0).bind fun x4 =>
      if 0 ≤ x4 then
        (cV m a0 8 (fX8_laysBy a0 m)).bind fun m5 =>
        (loopF (fX8_filmed_b0 a0 p0) bigN ((-1 : Int32), (0 : Int32), (0 : Int32), m5)).bind fun (y32, y33, m34) =>
        if p1 = 0 then
          some (y32, m34)
        else
          some (y33, m34)
      else
        some ((-1000000011 : Int32), m)
    else
      some ((-1000000001 : Int32), m)
  else
    some ((-1000000001 : Int32), m)
set_option maxRecDepth 20000 in
theorem tX8_filmed {D : Dat} {a0 : Nat} {p0 : Int32} {p1 : Int32} {m : Mem} {rR : Int32} {mR : Mem} (h : fX8_filmed a0 p0 p1 m = some (rR, mR)) : T D 7 IX8_filmed [.ref a0, .int p0, .int p1] m 0 0 (Qi rR mR) := by
  refine T_of_V (by decide) (Nat.le_of_ble_eq_true rfl) ?_
  show V D 7 IX8_filmed 0 [(0, .ref a0), (1, .int p0), (2, .int p1)] [] m 0 0 (Qi rR mR)
  unfold fX8_filmed at h
  refine V_iload_n (pc2 := 1) dX8_filmed_0 1 rfl rfl ?_
  obtain ⟨b1, e_b1, h⟩ := bS h
  refine V_cSi (pc2 := 4) [.int p0] (st := []) (tX8_isSheet e_b1) dX8_filmed_1 wS_8_295 (by decide) rfl (Nat.le_of_ble_eq_true rfl) ?_
  refine V_ifb_eq (pc2 := 7) (tgt := 17) dX8_filmed_4 (fun c4 => ?_) (fun c4 => ?_)
  · replace h := iF c4 h
    refine V_ldc (v := -1000000001) (pc2 := 19) dX8_filmed_17 wconstant_8_72 ?_
    obtain ⟨e1, e2⟩ := inj2 h
    subst e1
    subst e2
    exact V_iret dX8_filmed_19 rfl ⟨rfl, rfl⟩
  · replace h := iT c4 h
    refine V_iload_n (pc2 := 8) dX8_filmed_7 2 rfl rfl ?_
    refine V_i2l (pc2 := 9) dX8_filmed_8 rfl ?_
    refine V_lconst (v := 0) (pc2 := 10) dX8_filmed_9 (by decide) ?_
    refine V_lconst (v := 1) (pc2 := 11) dX8_filmed_10 (by decide) ?_
    obtain ⟨b2, e_b2, h⟩ := bS h
    refine V_cSi (pc2 := 14) [.long p1.toInt64, .long (0 : Int64), .long (1 : Int64)] (st := []) (tX8_isIn e_b2) dX8_filmed_11 wS_8_65 (by decide) rfl (Nat.le_of_ble_eq_true rfl) ?_
    refine V_ifb_ne (pc2 := 17) (tgt := 20) dX8_filmed_14 (fun c14 => ?_) (fun c14 => ?_)
    · replace h := iT c14 h
      refine V_aload_n (pc2 := 21) dX8_filmed_20 0 rfl rfl ?_
      obtain ⟨r3, e_r3, h⟩ := bS h
      refine V_gR (pc2 := 24) e_r3 dX8_filmed_21 wF_8_19 ?_
      refine V_iload_n (pc2 := 25) dX8_filmed_24 1 rfl rfl ?_
      obtain ⟨x4, e_x4, h⟩ := bS h
      refine V_ldI (pc2 := 26) e_x4 dX8_filmed_25 ?_
      refine V_if_ge (pc2 := 29) (tgt := 33) dX8_filmed_26 (fun c26 => ?_) (fun c26 => ?_)
      · replace h := iT c26 h
        refine V_aload_n (pc2 := 34) dX8_filmed_33 0 rfl rfl ?_
        obtain ⟨m5, e_m5, h⟩ := bS h
        obtain ⟨⟨fs_m5, o_m5⟩, e_m5⟩ := cV_of e_m5
        refine V_cVv (pc2 := 37) [] (st := []) o_m5 (tX8_laysBy e_m5) dX8_filmed_34 wV_8_176 (by decide) rfl (Nat.le_of_ble_eq_true rfl) ?_
        refine V_iconst (v := -1) (pc2 := 38) dX8_filmed_37 (by decide) ?_
        refine V_istore_n (pc2 := 39) (L2 := [(3, .int (-1 : Int32)), (0, .ref a0), (1, .int p0), (2, .int p1)]) dX8_filmed_38 ?_ rfl rfl rfl
        refine V_iconst (v := 0) (pc2 := 40) dX8_filmed_39 (by decide) ?_
        refine V_istore (pc2 := 42) (L2 := [(4, .int (0 : Int32)), (3, .int (-1 : Int32)), (0, .ref a0), (1, .int p0), (2, .int p1)]) dX8_filmed_40 ?_ rfl rfl
        refine V_iconst (v := 0) (pc2 := 43) dX8_filmed_42 (by decide) ?_
        refine V_istore (pc2 := 45) (L2 := [(5, .int (0 : Int32)), (4, .int (0 : Int32)), (3, .int (-1 : Int32)), (0, .ref a0), (1, .int p0), (2, .int p1)]) dX8_filmed_43 ?_ rfl rfl
        obtain ⟨⟨y32, y33, m34⟩, hl, h⟩ := bS h
        try dsimp only at h
        have hJ183 : V D 7 IX8_filmed 183 [(2, .int p1), (3, .int y32), (4, .int y33)] [] m34 0 0 (Qi rR mR) := by
          refine V_iload_n (pc2 := 184) dX8_filmed_183 0 rfl rfl ?_
          refine V_if_ne (pc2 := 187) (tgt := 191) dX8_filmed_184 (fun c184 => ?_) (fun c184 => ?_)
          · replace h := iF c184 h
            refine V_iload (pc2 := 193) dX8_filmed_191 2 rfl ?_
            obtain ⟨e1, e2⟩ := inj2 h
            subst e1
            subst e2
            exact V_iret dX8_filmed_193 rfl ⟨rfl, rfl⟩
          · replace h := iT c184 h
            refine V_iload_n (pc2 := 188) dX8_filmed_187 1 rfl rfl ?_
            refine V_goto (tgt := 193) dX8_filmed_188 ?_
            obtain ⟨e1, e2⟩ := inj2 h
            subst e1
            subst e2
            exact V_iret dX8_filmed_193 rfl ⟨rfl, rfl⟩
        clear h
        have key45 : ∀ (n : Nat) (y6 : Int32) (y7 : Int32) (y8 : Int32) (m9 : Mem), loopF (fX8_filmed_b0 a0 p0) n (y6, y7, y8, m9) = some (y32, y33, m34) → V D 7 IX8_filmed 45 [(0, .ref a0), (1, .int p0), (2, .int p1), (3, .int y6), (4, .int y7), (5, .int y8)] [] m9 0 0 (Qi rR mR) := by
          intro n
          induction n with
          | zero => intro y6 y7 y8 m9 h; cases h
          | succ n ih =>
            intro y6 y7 y8 m9 h
            obtain ⟨o, h, ho⟩ := loopF_inv h
            dsimp only [fX8_filmed_b0] at h
            refine V_iload (pc2 := 47) dX8_filmed_45 5 rfl ?_
            refine V_bipush (v := 40) (pc2 := 49) dX8_filmed_47 (by decide) ?_
            refine V_icmp_gt (pc2 := 52) (tgt := 183) dX8_filmed_49 (fun c49 => ?_) (fun c49 => ?_)
            · replace h := iT c49 h
              have ee := inj1 h
              subst ee
              obtain ⟨e1, e2, e3⟩ := pinj3 (loopF_e ho)
              subst e1
              subst e2
              subst e3
              exact V_lv hJ183 [2, 3, 4] rfl
            · replace h := iF c49 h
              refine V_iconst (v := 0) (pc2 := 53) dX8_filmed_52 (by decide) ?_
              refine V_istore (pc2 := 55) (L2 := [(6, .int (0 : Int32)), (0, .ref a0), (1, .int p0), (2, .int p1), (3, .int y6), (4, .int y7), (5, .int y8)]) dX8_filmed_53 ?_ rfl rfl
              obtain ⟨m16, hl, h⟩ := bS h
              have hJ88 : V D 7 IX8_filmed 88 [(0, .ref a0), (1, .int p0), (2, .int p1), (3, .int y6), (4, .int y7), (5, .int y8)] [] m16 0 0 (Qi rR mR) := by
                refine V_iconst (v := 0) (pc2 := 89) dX8_filmed_88 (by decide) ?_
                refine V_istore (pc2 := 91) (L2 := [(6, .int (0 : Int32)), (0, .ref a0), (1, .int p0), (2, .int p1), (3, .int y6), (4, .int y7), (5, .int y8)]) dX8_filmed_89 ?_ rfl rfl
                refine V_iconst (v := 0) (pc2 := 92) dX8_filmed_91 (by decide) ?_
                refine V_istore (pc2 := 94) (L2 := [(7, .int (0 : Int32)), (6, .int (0 : Int32)), (0, .ref a0), (1, .int p0), (2, .int p1), (3, .int y6), (4, .int y7), (5, .int y8)]) dX8_filmed_92 ?_ rfl rfl
                obtain ⟨⟨y27, m28⟩, hl, h⟩ := bS h
                try dsimp only at h
                have hJ155 : V D 7 IX8_filmed 155 [(0, .ref a0), (1, .int p0), (2, .int p1), (3, .int y6), (4, .int y7), (5, .int y8), (6, .int y27)] [] m28 0 0 (Qi rR mR) := by
                  refine V_aload_n (pc2 := 156) dX8_filmed_155 0 rfl rfl ?_
                  obtain ⟨m29, e_m29, h⟩ := bS h
                  obtain ⟨⟨fs_m29, o_m29⟩, e_m29⟩ := cV_of e_m29
                  refine V_cVv (pc2 := 159) [] (st := []) o_m29 (tX8_laysBack e_m29) dX8_filmed_156 wV_8_188 (by decide) rfl (Nat.le_of_ble_eq_true rfl) ?_
                  refine V_iload_n (pc2 := 160) dX8_filmed_159 3 rfl rfl ?_
                  obtain ⟨⟨y30, y31⟩, hb, h⟩ := bS h
                  try dsimp only at h
                  have hJ177 : V D 7 IX8_filmed 177 [(0, .ref a0), (1, .int p0), (2, .int p1), (3, .int y30), (4, .int y31), (5, .int y8)] [] m29 0 0 (Qi rR mR) := by
                    refine V_iinc (pc2 := 180) (v := y8 + (1 : Int32)) (L2 := [(5, .int (y8 + (1 : Int32))), (0, .ref a0), (1, .int p0), (2, .int p1), (3, .int y30), (4, .int y31)]) dX8_filmed_177 5 rfl (by rfl) ?_ rfl rfl
                    refine V_goto (tgt := 45) dX8_filmed_180 ?_
                    have ee := inj1 h
                    subst ee
                    exact V_lv (ih _ _ _ _ (loopF_c ho)) [1, 2, 3, 4, 5, 0] rfl
                  clear h
                  have h := hb
                  clear hb
                  refine V_if_lt (pc2 := 163) (tgt := 170) dX8_filmed_160 (fun c160 => ?_) (fun c160 => ?_)
                  · replace h := iT c160 h
                    refine V_iload (pc2 := 172) dX8_filmed_170 5 rfl ?_
                    refine V_istore_n (pc2 := 173) (L2 := [(3, .int y8), (0, .ref a0), (1, .int p0), (2, .int p1), (4, .int y7), (5, .int y8), (6, .int y27)]) dX8_filmed_172 ?_ rfl rfl rfl
                    refine V_iload (pc2 := 175) dX8_filmed_173 6 rfl ?_
                    refine V_istore (pc2 := 177) (L2 := [(4, .int y27), (3, .int y8), (0, .ref a0), (1, .int p0), (2, .int p1), (5, .int y8), (6, .int y27)]) dX8_filmed_175 ?_ rfl rfl
                    obtain ⟨e1, e2⟩ := inj2 h
                    subst e1
                    subst e2
                    exact V_lv hJ177 [2, 3, 4, 1, 0, 5] rfl
                  · replace h := iF c160 h
                    refine V_iload (pc2 := 165) dX8_filmed_163 6 rfl ?_
                    refine V_iload (pc2 := 167) dX8_filmed_165 4 rfl ?_
                    refine V_icmp_ge (pc2 := 170) (tgt := 177) dX8_filmed_167 (fun c167 => ?_) (fun c167 => ?_)
                    · replace h := iT c167 h
                      obtain ⟨e1, e2⟩ := inj2 h
                      subst e1
                      subst e2
                      exact V_lv hJ177 [0, 1, 2, 3, 4, 5] rfl
                    · replace h := iF c167 h
                      refine V_iload (pc2 := 172) dX8_filmed_170 5 rfl ?_
                      refine V_istore_n (pc2 := 173) (L2 := [(3, .int y8), (0, .ref a0), (1, .int p0), (2, .int p1), (4, .int y7), (5, .int y8), (6, .int y27)]) dX8_filmed_172 ?_ rfl rfl rfl
                      refine V_iload (pc2 := 175) dX8_filmed_173 6 rfl ?_
                      refine V_istore (pc2 := 177) (L2 := [(4, .int y27), (3, .int y8), (0, .ref a0), (1, .int p0), (2, .int p1), (5, .int y8), (6, .int y27)]) dX8_filmed_175 ?_ rfl rfl
                      obtain ⟨e1, e2⟩ := inj2 h
                      subst e1
                      subst e2
                      exact V_lv hJ177 [2, 3, 4, 1, 0, 5] rfl
                clear h
                have key94 : ∀ (n : Nat) (y17 : Int32) (y18 : Int32) (m19 : Mem), loopF (fX8_filmed_b2 a0 p0) n (y17, y18, m19) = some (y27, m28) → V D 7 IX8_filmed 94 [(0, .ref a0), (1, .int p0), (2, .int p1), (3, .int y6), (4, .int y7), (5, .int y8), (6, .int y17), (7, .int y18)] [] m19 0 0 (Qi rR mR) := by
                  intro n
                  induction n with
                  | zero => intro y17 y18 m19 h; cases h
                  | succ n ih =>
                    intro y17 y18 m19 h
                    obtain ⟨o, h, ho⟩ := loopF_inv h
                    dsimp only [fX8_filmed_b2] at h
                    refine V_iload (pc2 := 96) dX8_filmed_94 7 rfl ?_
                    refine V_aload_n (pc2 := 97) dX8_filmed_96 0 rfl rfl ?_
                    obtain ⟨r20, e_r20, h⟩ := bS h
                    refine V_gR (pc2 := 100) e_r20 dX8_filmed_97 wF_8_22 ?_
                    refine V_iload_n (pc2 := 101) dX8_filmed_100 1 rfl rfl ?_
                    obtain ⟨x21, e_x21, h⟩ := bS h
                    refine V_ldI (pc2 := 102) e_x21 dX8_filmed_101 ?_
                    refine V_icmp_ge (pc2 := 105) (tgt := 155) dX8_filmed_102 (fun c102 => ?_) (fun c102 => ?_)
                    · replace h := iT c102 h
                      have ee := inj1 h
                      subst ee
                      obtain ⟨e1, e2⟩ := pinj2 (loopF_e ho)
                      subst e1
                      subst e2
                      exact V_lv hJ155 [0, 1, 2, 3, 4, 5, 6] rfl
                    · replace h := iF c102 h
                      refine V_aload_n (pc2 := 106) dX8_filmed_105 0 rfl rfl ?_
                      obtain ⟨r22, e_r22, h⟩ := bS h
                      refine V_gR (pc2 := 109) e_r22 dX8_filmed_106 wF_8_25 ?_
                      refine V_bipush (v := 24) (pc2 := 111) dX8_filmed_109 (by decide) ?_
                      refine V_iload_n (pc2 := 112) dX8_filmed_111 1 rfl rfl ?_
                      refine V_imul (pc2 := 113) dX8_filmed_112 ?_
                      refine V_iload (pc2 := 115) dX8_filmed_113 7 rfl ?_
                      refine V_iadd (pc2 := 116) dX8_filmed_115 ?_
                      obtain ⟨x23, e_x23, h⟩ := bS h
                      refine V_ldI (pc2 := 117) e_x23 dX8_filmed_116 ?_
                      refine V_istore (pc2 := 119) (L2 := [(8, .int x23), (0, .ref a0), (1, .int p0), (2, .int p1), (3, .int y6), (4, .int y7), (5, .int y8), (6, .int y17), (7, .int y18)]) dX8_filmed_117 ?_ rfl rfl
                      refine V_aload_n (pc2 := 120) dX8_filmed_119 1 rfl rfl ?_
                      obtain ⟨⟨x24, m25⟩, e_x24, h⟩ := bS h
                      try dsimp only at h
                      obtain ⟨⟨fs_x24, o_x24⟩, e_x24⟩ := cV_of e_x24
                      refine V_cVi (pc2 := 123) [] (st := []) o_x24 (tX8_turn e_x24) dX8_filmed_120 wV_8_172 (by decide) rfl (Nat.le_of_ble_eq_true rfl) ?_
                      refine V_istore (pc2 := 125) (L2 := [(9, .int x24), (8, .int x23), (0, .ref a0), (1, .int p0), (2, .int p1), (3, .int y6), (4, .int y7), (5, .int y8), (6, .int y17), (7, .int y18)]) dX8_filmed_123 ?_ rfl rfl
                      refine V_iload (pc2 := 127) dX8_filmed_125 8 rfl ?_
                      refine V_iload (pc2 := 129) dX8_filmed_127 1 rfl ?_
                      refine V_ldc (v := -1000000005) (pc2 := 131) dX8_filmed_129 wconstant_8_64 ?_
                      obtain ⟨y26, hb, h⟩ := bS h
                      have hJ146 : V D 7 IX8_filmed 146 [(0, .ref a0), (1, .int p0), (2, .int p1), (3, .int y6), (4, .int y7), (5, .int y8), (7, .int y18)] [.int y26, .int y17] m25 0 0 (Qi rR mR) := by
                        refine V_iadd (pc2 := 147) dX8_filmed_146 ?_
                        refine V_istore (pc2 := 149) (L2 := [(6, .int (y17 + y26)), (0, .ref a0), (1, .int p0), (2, .int p1), (3, .int y6), (4, .int y7), (5, .int y8), (7, .int y18)]) dX8_filmed_147 ?_ rfl rfl
                        refine V_iinc (pc2 := 152) (v := y18 + (1 : Int32)) (L2 := [(7, .int (y18 + (1 : Int32))), (6, .int (y17 + y26)), (0, .ref a0), (1, .int p0), (2, .int p1), (3, .int y6), (4, .int y7), (5, .int y8)]) dX8_filmed_149 7 rfl (by rfl) ?_ rfl rfl
                        refine V_goto (tgt := 94) dX8_filmed_152 ?_
                        have ee := inj1 h
                        subst ee
                        exact V_lv (ih _ _ _ (loopF_c ho)) [2, 3, 4, 5, 6, 7, 1, 0] rfl
                      clear h
                      have h := hb
                      clear hb
                      refine V_icmp_eq (pc2 := 134) (tgt := 141) dX8_filmed_131 (fun c131 => ?_) (fun c131 => ?_)
                      · replace h := iT c131 h
                        refine V_iconst (v := 0) (pc2 := 142) dX8_filmed_141 (by decide) ?_
                        refine V_goto (tgt := 146) dX8_filmed_142 ?_
                        have e1 := inj1 h
                        subst e1
                        exact V_lv hJ146 [2, 3, 4, 5, 6, 7, 9] rfl
                      · replace h := iF c131 h
                        refine V_iload (pc2 := 136) dX8_filmed_134 1 rfl ?_
                        refine V_iload (pc2 := 138) dX8_filmed_136 0 rfl ?_
                        refine V_icmp_ne (pc2 := 141) (tgt := 145) dX8_filmed_138 (fun c138 => ?_) (fun c138 => ?_)
                        · replace h := iF c138 h
                          refine V_iconst (v := 1) (pc2 := 146) dX8_filmed_145 (by decide) ?_
                          have e1 := inj1 h
                          subst e1
                          exact V_lv hJ146 [2, 3, 4, 5, 6, 7, 9] rfl
                        · replace h := iT c138 h
                          refine V_iconst (v := 0) (pc2 := 142) dX8_filmed_141 (by decide) ?_
                          refine V_goto (tgt := 146) dX8_filmed_142 ?_
                          have e1 := inj1 h
                          subst e1
                          exact V_lv hJ146 [2, 3, 4, 5, 6, 7, 9] rfl
                exact V_lv (key94 _ _ _ _ hl) [2, 3, 4, 5, 6, 7, 1, 0] rfl
              clear h
              have key55 : ∀ (n : Nat) (y10 : Int32) (m11 : Mem), loopF (fX8_filmed_b1 a0 y8) n (y10, m11) = some m16 → V D 7 IX8_filmed 55 [(0, .ref a0), (1, .int p0), (2, .int p1), (3, .int y6), (4, .int y7), (5, .int y8), (6, .int y10)] [] m11 0 0 (Qi rR mR) := by
                intro n
                induction n with
                | zero => intro y10 m11 h; cases h
                | succ n ih =>
                  intro y10 m11 h
                  obtain ⟨o, h, ho⟩ := loopF_inv h
                  dsimp only [fX8_filmed_b1] at h
                  refine V_iload (pc2 := 57) dX8_filmed_55 6 rfl ?_
                  refine V_aload_n (pc2 := 58) dX8_filmed_57 0 rfl rfl ?_
                  obtain ⟨r12, e_r12, h⟩ := bS h
                  refine V_gR (pc2 := 61) e_r12 dX8_filmed_58 wF_8_7 ?_
                  refine V_iconst (v := 1) (pc2 := 62) dX8_filmed_61 (by decide) ?_
                  obtain ⟨x13, e_x13, h⟩ := bS h
                  refine V_ldI (pc2 := 63) e_x13 dX8_filmed_62 ?_
                  refine V_icmp_ge (pc2 := 66) (tgt := 88) dX8_filmed_63 (fun c63 => ?_) (fun c63 => ?_)
                  · replace h := iT c63 h
                    have ee := inj1 h
                    subst ee
                    have e1 := pinj1 (loopF_e ho)
                    subst e1
                    exact V_lv hJ88 [0, 1, 2, 3, 4, 5] rfl
                  · replace h := iF c63 h
                    refine V_aload_n (pc2 := 67) dX8_filmed_66 0 rfl rfl ?_
                    obtain ⟨r14, e_r14, h⟩ := bS h
                    refine V_gR (pc2 := 70) e_r14 dX8_filmed_67 wF_8_7 ?_
                    refine V_bipush (v := 42) (pc2 := 72) dX8_filmed_70 (by decide) ?_
                    refine V_iconst (v := 3) (pc2 := 73) dX8_filmed_72 (by decide) ?_
                    refine V_iload (pc2 := 75) dX8_filmed_73 6 rfl ?_
                    refine V_imul (pc2 := 76) dX8_filmed_75 ?_
                    refine V_iadd (pc2 := 77) dX8_filmed_76 ?_
                    refine V_iconst (v := 1) (pc2 := 78) dX8_filmed_77 (by decide) ?_
                    refine V_iadd (pc2 := 79) dX8_filmed_78 ?_
                    refine V_iload (pc2 := 81) dX8_filmed_79 5 rfl ?_
                    obtain ⟨m15, e_m15, h⟩ := bS h
                    refine V_stI (pc2 := 82) e_m15 dX8_filmed_81 ?_
                    refine V_iinc (pc2 := 85) (v := y10 + (1 : Int32)) (L2 := [(6, .int (y10 + (1 : Int32))), (0, .ref a0), (1, .int p0), (2, .int p1), (3, .int y6), (4, .int y7), (5, .int y8)]) dX8_filmed_82 6 rfl (by rfl) ?_ rfl rfl
                    refine V_goto (tgt := 55) dX8_filmed_85 ?_
                    have ee := inj1 h
                    subst ee
                    exact V_lv (ih _ _ (loopF_c ho)) [1, 2, 3, 4, 5, 6, 0] rfl
              exact V_lv (key55 _ _ _ hl) [1, 2, 3, 4, 5, 6, 0] rfl
        exact V_lv (key45 _ _ _ _ _ hl) [3, 4, 5, 2, 1, 0] rfl
      · replace h := iF c26 h
        refine V_ldcw (v := -1000000011) (pc2 := 32) dX8_filmed_29 wconstant_8_301 ?_
        obtain ⟨e1, e2⟩ := inj2 h
        subst e1
        subst e2
        exact V_iret dX8_filmed_32 rfl ⟨rfl, rfl⟩
    · replace h := iF c14 h
      refine V_ldc (v := -1000000001) (pc2 := 19) dX8_filmed_17 wconstant_8_72 ?_
      obtain ⟨e1, e2⟩ := inj2 h
      subst e1
      subst e2
      exact V_iret dX8_filmed_19 rfl ⟨rfl, rfl⟩
noncomputable def fX8_copy_b1 (a0 : Nat) (p2 : Int32) (p3 : Int32) (p4 : Int32) : Int32 × Mem → Option ((Int32 × Mem) ⊕ Mem) := fun (y22, m23) =>
  if p4 ≤ y22 then
    some (.inr m23)
  else
    (gR m23 a0 8 6).bind fun r24 =>
    (gR m23 a0 8 27).bind fun r25 =>
    (ldI m23 r25 y22).bind fun x26 =>
    (stI m23 r24 ((((24 : Int32) * p2) + p3) + y22) x26).bind fun m27 =>
    some (.inl (y22 + (1 : Int32), m27))
noncomputable def fX8_copy_b0 (a0 : Nat) (p0 : Int32) (p1 : Int32) (p4 : Int32) : Int32 × Mem → Option ((Int32 × Mem) ⊕ Mem) := fun (y15, m16) =>
  if p4 ≤ y15 then
    some (.inr m16)
  else
    (gR m16 a0 8 27).bind fun r17 =>
    (gR m16 a0 8 6).bind fun r18 =>
    (ldI m16 r18 ((((24 : Int32) * p0) + p1) + y15)).bind fun x19 =>
    (stI m16 r17 y15 x19).bind fun m20 =>
    some (.inl (y15 + (1 : Int32), m20))
noncomputable def fX8_copy (a0 : Nat) (p0 : Int32) (p1 : Int32) (p2 : Int32) (p3 : Int32) (p4 : Int32) (m : Mem) : Option (Int32 × Mem) :=
  (fX8_isSheet p0 m).bind fun b1 =>
  if b1 = true then
    (fX8_isSheet p2 m).bind fun b2 =>
    if b2 = true then
      (gR m a0 8 4).bind fun r3 =>
      (ldI m r3 p0).bind fun x4 =>
      if x4 < 0 then
        some ((-1000000011 : Int32), m)
      else
        (gR m a0 8 4).bind fun r5 =>
        (ldI m r5 p2).bind fun x6 =>
        if 0 ≤ x6 then
          (gR m a0 8 4).bind fun r7 =>
          (ldI m r7 p0).bind fun x8 =>
          (gR m a0 8 4).bind fun r9 =>
          (ldI m r9 p2).bind fun x10 =>
          if x8 = x10 then
            if p1 < 0 then
              some ((-1000000013 : Int32), m)
            else
              if p3 < 0 then
                some ((-1000000013 : Int32), m)
              else
                if p4 < 0 then
                  some ((-1000000013 : Int32), m)
                else
                  (gR m a0 8 5).bind fun r11 =>
                  (ldI m r11 p0).bind fun x12 =>
                  if 0 < (lg_cmp (p1.toInt64 + p4.toInt64) x12.toInt64) then
                    some ((-1000000013 : Int32), m)
                  else
                    (gR m a0 8 5).bind fun r13 =>
                    (ldI m r13 p2).bind fun x14 =>
                    if (lg_cmp (p3.toInt64 + p4.toInt64) x14.toInt64) ≤ 0 then
                      (loopF (fX8_copy_b0 a0 p0 p1 p4) bigN ((0 : Int32), m)).bind fun m21 =>
                      (loopF (fX8_copy_b1 a0 p2 p3 p4) bigN ((0 : Int32), m21)).bind fun m28 =>
                      some (p4, m28)
                    else
                      some ((-1000000013 : Int32), m)
          else
            some ((-1000000012 : Int32), m)
        else
          some ((-1000000011 : Int32), m)
    else
      some ((-1000000001 : Int32), m)
  else
    some ((-1000000001 : Int32), m)
set_option maxRecDepth 20000 in
theorem tX8_copy {D : Dat} {a0 : Nat} {p0 : Int32} {p1 : Int32} {p2 : Int32} {p3 : Int32} {p4 : Int32} {m : Mem} {rR : Int32} {mR : Mem} (h : fX8_copy a0 p0 p1 p2 p3 p4 m = some (rR, mR)) : T D 2 IX8_copy [.ref a0, .int p0, .int p1, .int p2, .int p3, .int p4] m 0 0 (Qi rR mR) := by
  refine T_of_V (by decide) (Nat.le_of_ble_eq_true rfl) ?_
  show V D 2 IX8_copy 0 [(0, .ref a0), (1, .int p0), (2, .int p1), (3, .int p2), (4, .int p3), (5, .int p4)] [] m 0 0 (Qi rR mR)
  unfold fX8_copy at h
  refine V_iload_n (pc2 := 1) dX8_copy_0 1 rfl rfl ?_
  obtain ⟨b1, e_b1, h⟩ := bS h
  refine V_cSi (pc2 := 4) [.int p0] (st := []) (tX8_isSheet e_b1) dX8_copy_1 wS_8_295 (by decide) rfl (Nat.le_of_ble_eq_true rfl) ?_
  refine V_ifb_eq (pc2 := 7) (tgt := 14) dX8_copy_4 (fun c4 => ?_) (fun c4 => ?_)
  · replace h := iF c4 h
    refine V_ldc (v := -1000000001) (pc2 := 16) dX8_copy_14 wconstant_8_72 ?_
    obtain ⟨e1, e2⟩ := inj2 h
    subst e1
    subst e2
    exact V_iret dX8_copy_16 rfl ⟨rfl, rfl⟩
  · replace h := iT c4 h
    refine V_iload_n (pc2 := 8) dX8_copy_7 3 rfl rfl ?_
    obtain ⟨b2, e_b2, h⟩ := bS h
    refine V_cSi (pc2 := 11) [.int p2] (st := []) (tX8_isSheet e_b2) dX8_copy_8 wS_8_295 (by decide) rfl (Nat.le_of_ble_eq_true rfl) ?_
    refine V_ifb_ne (pc2 := 14) (tgt := 17) dX8_copy_11 (fun c11 => ?_) (fun c11 => ?_)
    · replace h := iT c11 h
      refine V_aload_n (pc2 := 18) dX8_copy_17 0 rfl rfl ?_
      obtain ⟨r3, e_r3, h⟩ := bS h
      refine V_gR (pc2 := 21) e_r3 dX8_copy_18 wF_8_19 ?_
      refine V_iload_n (pc2 := 22) dX8_copy_21 1 rfl rfl ?_
      obtain ⟨x4, e_x4, h⟩ := bS h
      refine V_ldI (pc2 := 23) e_x4 dX8_copy_22 ?_
      refine V_if_lt (pc2 := 26) (tgt := 35) dX8_copy_23 (fun c23 => ?_) (fun c23 => ?_)
      · replace h := iT c23 h
        refine V_ldcw (v := -1000000011) (pc2 := 38) dX8_copy_35 wconstant_8_301 ?_
        obtain ⟨e1, e2⟩ := inj2 h
        subst e1
        subst e2
        exact V_iret dX8_copy_38 rfl ⟨rfl, rfl⟩
      · replace h := iF c23 h
        refine V_aload_n (pc2 := 27) dX8_copy_26 0 rfl rfl ?_
        obtain ⟨r5, e_r5, h⟩ := bS h
        refine V_gR (pc2 := 30) e_r5 dX8_copy_27 wF_8_19 ?_
        refine V_iload_n (pc2 := 31) dX8_copy_30 3 rfl rfl ?_
        obtain ⟨x6, e_x6, h⟩ := bS h
        refine V_ldI (pc2 := 32) e_x6 dX8_copy_31 ?_
        refine V_if_ge (pc2 := 35) (tgt := 39) dX8_copy_32 (fun c32 => ?_) (fun c32 => ?_)
        · replace h := iT c32 h
          refine V_aload_n (pc2 := 40) dX8_copy_39 0 rfl rfl ?_
          obtain ⟨r7, e_r7, h⟩ := bS h
          refine V_gR (pc2 := 43) e_r7 dX8_copy_40 wF_8_19 ?_
          refine V_iload_n (pc2 := 44) dX8_copy_43 1 rfl rfl ?_
          obtain ⟨x8, e_x8, h⟩ := bS h
          refine V_ldI (pc2 := 45) e_x8 dX8_copy_44 ?_
          refine V_aload_n (pc2 := 46) dX8_copy_45 0 rfl rfl ?_
          obtain ⟨r9, e_r9, h⟩ := bS h
          refine V_gR (pc2 := 49) e_r9 dX8_copy_46 wF_8_19 ?_
          refine V_iload_n (pc2 := 50) dX8_copy_49 3 rfl rfl ?_
          obtain ⟨x10, e_x10, h⟩ := bS h
          refine V_ldI (pc2 := 51) e_x10 dX8_copy_50 ?_
          refine V_icmp_eq (pc2 := 54) (tgt := 57) dX8_copy_51 (fun c51 => ?_) (fun c51 => ?_)
          · replace h := iT c51 h
            refine V_iload_n (pc2 := 58) dX8_copy_57 2 rfl rfl ?_
            refine V_if_lt (pc2 := 61) (tgt := 106) dX8_copy_58 (fun c58 => ?_) (fun c58 => ?_)
            · replace h := iT c58 h
              refine V_ldcw (v := -1000000013) (pc2 := 109) dX8_copy_106 wconstant_8_302 ?_
              obtain ⟨e1, e2⟩ := inj2 h
              subst e1
              subst e2
              exact V_iret dX8_copy_109 rfl ⟨rfl, rfl⟩
            · replace h := iF c58 h
              refine V_iload (pc2 := 63) dX8_copy_61 4 rfl ?_
              refine V_if_lt (pc2 := 66) (tgt := 106) dX8_copy_63 (fun c63 => ?_) (fun c63 => ?_)
              · replace h := iT c63 h
                refine V_ldcw (v := -1000000013) (pc2 := 109) dX8_copy_106 wconstant_8_302 ?_
                obtain ⟨e1, e2⟩ := inj2 h
                subst e1
                subst e2
                exact V_iret dX8_copy_109 rfl ⟨rfl, rfl⟩
              · replace h := iF c63 h
                refine V_iload (pc2 := 68) dX8_copy_66 5 rfl ?_
                refine V_if_lt (pc2 := 71) (tgt := 106) dX8_copy_68 (fun c68 => ?_) (fun c68 => ?_)
                · replace h := iT c68 h
                  refine V_ldcw (v := -1000000013) (pc2 := 109) dX8_copy_106 wconstant_8_302 ?_
                  obtain ⟨e1, e2⟩ := inj2 h
                  subst e1
                  subst e2
                  exact V_iret dX8_copy_109 rfl ⟨rfl, rfl⟩
                · replace h := iF c68 h
                  refine V_iload_n (pc2 := 72) dX8_copy_71 2 rfl rfl ?_
                  refine V_i2l (pc2 := 73) dX8_copy_72 rfl ?_
                  refine V_iload (pc2 := 75) dX8_copy_73 5 rfl ?_
                  refine V_i2l (pc2 := 76) dX8_copy_75 rfl ?_
                  refine V_ladd (pc2 := 77) dX8_copy_76 ?_
                  refine V_aload_n (pc2 := 78) dX8_copy_77 0 rfl rfl ?_
                  obtain ⟨r11, e_r11, h⟩ := bS h
                  refine V_gR (pc2 := 81) e_r11 dX8_copy_78 wF_8_22 ?_
                  refine V_iload_n (pc2 := 82) dX8_copy_81 1 rfl rfl ?_
                  obtain ⟨x12, e_x12, h⟩ := bS h
                  refine V_ldI (pc2 := 83) e_x12 dX8_copy_82 ?_
                  refine V_i2l (pc2 := 84) dX8_copy_83 rfl ?_
                  refine V_lcmp (pc2 := 85) dX8_copy_84 ?_
                  refine V_if_gt (pc2 := 88) (tgt := 106) dX8_copy_85 (fun c85 => ?_) (fun c85 => ?_)
                  · replace h := iT c85 h
                    refine V_ldcw (v := -1000000013) (pc2 := 109) dX8_copy_106 wconstant_8_302 ?_
                    obtain ⟨e1, e2⟩ := inj2 h
                    subst e1
                    subst e2
                    exact V_iret dX8_copy_109 rfl ⟨rfl, rfl⟩
                  · replace h := iF c85 h
                    refine V_iload (pc2 := 90) dX8_copy_88 4 rfl ?_
                    refine V_i2l (pc2 := 91) dX8_copy_90 rfl ?_
                    refine V_iload (pc2 := 93) dX8_copy_91 5 rfl ?_
                    refine V_i2l (pc2 := 94) dX8_copy_93 rfl ?_
                    refine V_ladd (pc2 := 95) dX8_copy_94 ?_
                    refine V_aload_n (pc2 := 96) dX8_copy_95 0 rfl rfl ?_
                    obtain ⟨r13, e_r13, h⟩ := bS h
                    refine V_gR (pc2 := 99) e_r13 dX8_copy_96 wF_8_22 ?_
                    refine V_iload_n (pc2 := 100) dX8_copy_99 3 rfl rfl ?_
                    obtain ⟨x14, e_x14, h⟩ := bS h
                    refine V_ldI (pc2 := 101) e_x14 dX8_copy_100 ?_
                    refine V_i2l (pc2 := 102) dX8_copy_101 rfl ?_
                    refine V_lcmp (pc2 := 103) dX8_copy_102 ?_
                    refine V_if_le (pc2 := 106) (tgt := 110) dX8_copy_103 (fun c103 => ?_) (fun c103 => ?_)
                    · replace h := iT c103 h
                      refine V_iconst (v := 0) (pc2 := 111) dX8_copy_110 (by decide) ?_
                      refine V_istore (pc2 := 113) (L2 := [(6, .int (0 : Int32)), (0, .ref a0), (1, .int p0), (2, .int p1), (3, .int p2), (4, .int p3), (5, .int p4)]) dX8_copy_111 ?_ rfl rfl
                      obtain ⟨m21, hl, h⟩ := bS h
                      have hJ147 : V D 2 IX8_copy 147 [(0, .ref a0), (3, .int p2), (4, .int p3), (5, .int p4)] [] m21 0 0 (Qi rR mR) := by
                        refine V_iconst (v := 0) (pc2 := 148) dX8_copy_147 (by decide) ?_
                        refine V_istore (pc2 := 150) (L2 := [(6, .int (0 : Int32)), (0, .ref a0), (3, .int p2), (4, .int p3), (5, .int p4)]) dX8_copy_148 ?_ rfl rfl
                        obtain ⟨m28, hl, h⟩ := bS h
                        have hJ185 : V D 2 IX8_copy 185 [(5, .int p4)] [] m28 0 0 (Qi rR mR) := by
                          refine V_iload (pc2 := 187) dX8_copy_185 0 rfl ?_
                          obtain ⟨e1, e2⟩ := inj2 h
                          subst e1
                          subst e2
                          exact V_iret dX8_copy_187 rfl ⟨rfl, rfl⟩
                        clear h
                        have key150 : ∀ (n : Nat) (y22 : Int32) (m23 : Mem), loopF (fX8_copy_b1 a0 p2 p3 p4) n (y22, m23) = some m28 → V D 2 IX8_copy 150 [(0, .ref a0), (3, .int p2), (4, .int p3), (5, .int p4), (6, .int y22)] [] m23 0 0 (Qi rR mR) := by
                          intro n
                          induction n with
                          | zero => intro y22 m23 h; cases h
                          | succ n ih =>
                            intro y22 m23 h
                            obtain ⟨o, h, ho⟩ := loopF_inv h
                            dsimp only [fX8_copy_b1] at h
                            refine V_iload (pc2 := 152) dX8_copy_150 4 rfl ?_
                            refine V_iload (pc2 := 154) dX8_copy_152 3 rfl ?_
                            refine V_icmp_ge (pc2 := 157) (tgt := 185) dX8_copy_154 (fun c154 => ?_) (fun c154 => ?_)
                            · replace h := iT c154 h
                              have ee := inj1 h
                              subst ee
                              have e1 := pinj1 (loopF_e ho)
                              subst e1
                              exact V_lv hJ185 [3] rfl
                            · replace h := iF c154 h
                              refine V_aload_n (pc2 := 158) dX8_copy_157 0 rfl rfl ?_
                              obtain ⟨r24, e_r24, h⟩ := bS h
                              refine V_gR (pc2 := 161) e_r24 dX8_copy_158 wF_8_25 ?_
                              refine V_bipush (v := 24) (pc2 := 163) dX8_copy_161 (by decide) ?_
                              refine V_iload_n (pc2 := 164) dX8_copy_163 1 rfl rfl ?_
                              refine V_imul (pc2 := 165) dX8_copy_164 ?_
                              refine V_iload (pc2 := 167) dX8_copy_165 2 rfl ?_
                              refine V_iadd (pc2 := 168) dX8_copy_167 ?_
                              refine V_iload (pc2 := 170) dX8_copy_168 4 rfl ?_
                              refine V_iadd (pc2 := 171) dX8_copy_170 ?_
                              refine V_aload_n (pc2 := 172) dX8_copy_171 0 rfl rfl ?_
                              obtain ⟨r25, e_r25, h⟩ := bS h
                              refine V_gR (pc2 := 175) e_r25 dX8_copy_172 wF_8_55 ?_
                              refine V_iload (pc2 := 177) dX8_copy_175 4 rfl ?_
                              obtain ⟨x26, e_x26, h⟩ := bS h
                              refine V_ldI (pc2 := 178) e_x26 dX8_copy_177 ?_
                              obtain ⟨m27, e_m27, h⟩ := bS h
                              refine V_stI (pc2 := 179) e_m27 dX8_copy_178 ?_
                              refine V_iinc (pc2 := 182) (v := y22 + (1 : Int32)) (L2 := [(6, .int (y22 + (1 : Int32))), (0, .ref a0), (3, .int p2), (4, .int p3), (5, .int p4)]) dX8_copy_179 4 rfl (by rfl) ?_ rfl rfl
                              refine V_goto (tgt := 150) dX8_copy_182 ?_
                              have ee := inj1 h
                              subst ee
                              exact V_lv (ih _ _ (loopF_c ho)) [1, 2, 3, 4, 0] rfl
                        exact V_lv (key150 _ _ _ hl) [1, 2, 3, 4, 0] rfl
                      clear h
                      have key113 : ∀ (n : Nat) (y15 : Int32) (m16 : Mem), loopF (fX8_copy_b0 a0 p0 p1 p4) n (y15, m16) = some m21 → V D 2 IX8_copy 113 [(0, .ref a0), (1, .int p0), (2, .int p1), (3, .int p2), (4, .int p3), (5, .int p4), (6, .int y15)] [] m16 0 0 (Qi rR mR) := by
                        intro n
                        induction n with
                        | zero => intro y15 m16 h; cases h
                        | succ n ih =>
                          intro y15 m16 h
                          obtain ⟨o, h, ho⟩ := loopF_inv h
                          dsimp only [fX8_copy_b0] at h
                          refine V_iload (pc2 := 115) dX8_copy_113 6 rfl ?_
                          refine V_iload (pc2 := 117) dX8_copy_115 5 rfl ?_
                          refine V_icmp_ge (pc2 := 120) (tgt := 147) dX8_copy_117 (fun c117 => ?_) (fun c117 => ?_)
                          · replace h := iT c117 h
                            have ee := inj1 h
                            subst ee
                            have e1 := pinj1 (loopF_e ho)
                            subst e1
                            exact V_lv hJ147 [0, 3, 4, 5] rfl
                          · replace h := iF c117 h
                            refine V_aload_n (pc2 := 121) dX8_copy_120 0 rfl rfl ?_
                            obtain ⟨r17, e_r17, h⟩ := bS h
                            refine V_gR (pc2 := 124) e_r17 dX8_copy_121 wF_8_55 ?_
                            refine V_iload (pc2 := 126) dX8_copy_124 6 rfl ?_
                            refine V_aload_n (pc2 := 127) dX8_copy_126 0 rfl rfl ?_
                            obtain ⟨r18, e_r18, h⟩ := bS h
                            refine V_gR (pc2 := 130) e_r18 dX8_copy_127 wF_8_25 ?_
                            refine V_bipush (v := 24) (pc2 := 132) dX8_copy_130 (by decide) ?_
                            refine V_iload_n (pc2 := 133) dX8_copy_132 1 rfl rfl ?_
                            refine V_imul (pc2 := 134) dX8_copy_133 ?_
                            refine V_iload_n (pc2 := 135) dX8_copy_134 2 rfl rfl ?_
                            refine V_iadd (pc2 := 136) dX8_copy_135 ?_
                            refine V_iload (pc2 := 138) dX8_copy_136 6 rfl ?_
                            refine V_iadd (pc2 := 139) dX8_copy_138 ?_
                            obtain ⟨x19, e_x19, h⟩ := bS h
                            refine V_ldI (pc2 := 140) e_x19 dX8_copy_139 ?_
                            obtain ⟨m20, e_m20, h⟩ := bS h
                            refine V_stI (pc2 := 141) e_m20 dX8_copy_140 ?_
                            refine V_iinc (pc2 := 144) (v := y15 + (1 : Int32)) (L2 := [(6, .int (y15 + (1 : Int32))), (0, .ref a0), (1, .int p0), (2, .int p1), (3, .int p2), (4, .int p3), (5, .int p4)]) dX8_copy_141 6 rfl (by rfl) ?_ rfl rfl
                            refine V_goto (tgt := 113) dX8_copy_144 ?_
                            have ee := inj1 h
                            subst ee
                            exact V_lv (ih _ _ (loopF_c ho)) [1, 2, 3, 4, 5, 6, 0] rfl
                      exact V_lv (key113 _ _ _ hl) [1, 2, 3, 4, 5, 6, 0] rfl
                    · replace h := iF c103 h
                      refine V_ldcw (v := -1000000013) (pc2 := 109) dX8_copy_106 wconstant_8_302 ?_
                      obtain ⟨e1, e2⟩ := inj2 h
                      subst e1
                      subst e2
                      exact V_iret dX8_copy_109 rfl ⟨rfl, rfl⟩
          · replace h := iF c51 h
            refine V_ldc (v := -1000000012) (pc2 := 56) dX8_copy_54 wconstant_8_140 ?_
            obtain ⟨e1, e2⟩ := inj2 h
            subst e1
            subst e2
            exact V_iret dX8_copy_56 rfl ⟨rfl, rfl⟩
        · replace h := iF c32 h
          refine V_ldcw (v := -1000000011) (pc2 := 38) dX8_copy_35 wconstant_8_301 ?_
          obtain ⟨e1, e2⟩ := inj2 h
          subst e1
          subst e2
          exact V_iret dX8_copy_38 rfl ⟨rfl, rfl⟩
    · replace h := iF c11 h
      refine V_ldc (v := -1000000001) (pc2 := 16) dX8_copy_14 wconstant_8_72 ?_
      obtain ⟨e1, e2⟩ := inj2 h
      subst e1
      subst e2
      exact V_iret dX8_copy_16 rfl ⟨rfl, rfl⟩
noncomputable def fX8_isSlot (p0 : Int32) (m : Mem) : Option (Bool) :=
  (fX8_isIn p0.toInt64 (0 : Int64) (4 : Int64) m).bind fun b1 =>
  some b1
set_option maxRecDepth 20000 in
theorem tX8_isSlot {D : Dat} {p0 : Int32} {m : Mem} {rR : Bool} (h : fX8_isSlot p0 m = some rR) : T D 1 IX8_isSlot [.int p0] m 0 0 (Qi (zb rR) m) := by
  refine T_of_V (by decide) (Nat.le_of_ble_eq_true rfl) ?_
  show V D 1 IX8_isSlot 0 [(0, .int p0)] [] m 0 0 (Qi (zb rR) m)
  unfold fX8_isSlot at h
  refine V_iload_n (pc2 := 1) dX8_isSlot_0 0 rfl rfl ?_
  refine V_i2l (pc2 := 2) dX8_isSlot_1 rfl ?_
  refine V_lconst (v := 0) (pc2 := 3) dX8_isSlot_2 (by decide) ?_
  refine V_ldc2 (v := 4) (pc2 := 6) dX8_isSlot_3 wconstantLong_8_307 ?_
  obtain ⟨b1, e_b1, h⟩ := bS h
  refine V_cSi (pc2 := 9) [.long p0.toInt64, .long (0 : Int64), .long (4 : Int64)] (st := []) (tX8_isIn e_b1) dX8_isSlot_6 wS_8_65 (by decide) rfl (Nat.le_of_ble_eq_true rfl) ?_
  have e1 := inj1 h
  subst e1
  exact V_bret (b := b1) dX8_isSlot_9 rfl ⟨rfl, rfl⟩
noncomputable def fX8_lay_b0 (a0 : Nat) (p0 : Int32) (p2 : Int32) : Int32 × Mem → Option ((Int32 × Mem) ⊕ Mem) := fun (y22, m23) =>
  if (24 : Int32) ≤ y22 then
    some (.inr m23)
  else
    (gR m23 a0 8 11).bind fun r24 =>
    (gR m23 a0 8 6).bind fun r25 =>
    (ldI m23 r25 (((24 : Int32) * p2) + y22)).bind fun x26 =>
    (stI m23 r24 (((24 : Int32) * p0) + y22) x26).bind fun m27 =>
    some (.inl (y22 + (1 : Int32), m27))
noncomputable def fX8_lay_b1 (a0 : Nat) (p0 : Int32) (p2 : Int32) : Int32 × Mem → Option ((Int32 × Mem) ⊕ Mem) := fun (y47, m48) =>
  if (24 : Int32) ≤ y47 then
    some (.inr m48)
  else
    (gR m48 a0 8 11).bind fun r49 =>
    (gR m48 a0 8 6).bind fun r50 =>
    (ldI m48 r50 (((24 : Int32) * p2) + y47)).bind fun x51 =>
    (stI m48 r49 (((24 : Int32) * p0) + y47) x51).bind fun m52 =>
    some (.inl (y47 + (1 : Int32), m52))
noncomputable def fX8_lay (a0 : Nat) (p0 : Int32) (p1 : Int32) (p2 : Int32) (m : Mem) : Option (Int32 × Mem) :=
  (
    if p1 = 0 then
      some (1 : Int32)
    else
      if p1 = (3 : Int32) then
        some (1 : Int32)
      else
        if p1 = (1 : Int32) then
          (cV m a0 8 (fX8_isStop a0 p2 m)).bind fun b2 =>
          if b2 = true then
            some (1 : Int32)
          else
            if p1 = (2 : Int32) then
              (fX8_isSheet p2 m).bind fun b3 =>
              if b3 = true then
                some (1 : Int32)
              else
                some (0 : Int32)
            else
              some (0 : Int32)
        else
          if p1 = (2 : Int32) then
            (fX8_isSheet p2 m).bind fun b1 =>
            if b1 = true then
              some (1 : Int32)
            else
              some (0 : Int32)
          else
            some (0 : Int32)).bind fun y4 =>
  (fX8_isSlot p0 m).bind fun b5 =>
  if b5 = true then
    if y4 = 0 then
      some ((-1000000001 : Int32), m)
    else
      if p1 = (2 : Int32) then
        (gR m a0 8 4).bind fun r29 =>
        (ldI m r29 p2).bind fun x30 =>
        if 0 ≤ x30 then
          (gR m a0 8 7).bind fun r31 =>
          (ldI m r31 p0).bind fun x32 =>
          (gR m a0 8 7).bind fun r33 =>
          (stI m r33 p0 p1).bind fun m34 =>
          (gR m34 a0 8 8).bind fun r35 =>
          (
            if p1 = (1 : Int32) then
              (cV m34 a0 8 (fX8_of a0 p2 (0 : Int32) m34)).bind fun x36 =>
              some x36
            else
              some p2).bind fun y37 =>
          (stI m34 r35 p0 y37).bind fun m38 =>
          (gR m38 a0 8 9).bind fun r39 =>
          (
            if p1 = (1 : Int32) then
              (cV m38 a0 8 (fX8_worth a0 p2 m38)).bind fun x40 =>
              some x40
            else
              some (0 : Int32)).bind fun y41 =>
          (stI m38 r39 p0 y41).bind fun m42 =>
          if p1 = (2 : Int32) then
            (gR m42 a0 8 10).bind fun r43 =>
            (gR m42 a0 8 5).bind fun r44 =>
            (ldI m42 r44 p2).bind fun x45 =>
            (stI m42 r43 p0 x45).bind fun m46 =>
            (loopF (fX8_lay_b1 a0 p0 p2) bigN ((0 : Int32), m46)).bind fun m53 =>
            some (x32, m53)
          else
            some (x32, m42)
        else
          some ((-1000000011 : Int32), m)
      else
        (gR m a0 8 7).bind fun r6 =>
        (ldI m r6 p0).bind fun x7 =>
        (gR m a0 8 7).bind fun r8 =>
        (stI m r8 p0 p1).bind fun m9 =>
        (gR m9 a0 8 8).bind fun r10 =>
        (
          if p1 = (1 : Int32) then
            (cV m9 a0 8 (fX8_of a0 p2 (0 : Int32) m9)).bind fun x11 =>
            some x11
          else
            some p2).bind fun y12 =>
        (stI m9 r10 p0 y12).bind fun m13 =>
        (gR m13 a0 8 9).bind fun r14 =>
        (
          if p1 = (1 : Int32) then
            (cV m13 a0 8 (fX8_worth a0 p2 m13)).bind fun x15 =>
            some x15
          else
            some (0 : Int32)).bind fun y16 =>
        (stI m13 r14 p0 y16).bind fun m17 =>
        if p1 = (2 : Int32) then
          (gR m17 a0 8 10).bind fun r18 =>
          (gR m17 a0 8 5).bind fun r19 =>
          (ldI m17 r19 p2).bind fun x20 =>
          (stI m17 r18 p0 x20).bind fun m21 =>
          (loopF (fX8_lay_b0 a0 p0 p2) bigN ((0 : Int32), m21)).bind fun m28 =>
          some (x7, m28)
        else
          some (x7, m17)
  else
    some ((-1000000001 : Int32), m)
set_option maxRecDepth 20000 in
theorem tX8_lay {D : Dat} {a0 : Nat} {p0 : Int32} {p1 : Int32} {p2 : Int32} {m : Mem} {rR : Int32} {mR : Mem} (h : fX8_lay a0 p0 p1 p2 m = some (rR, mR)) : T D 2 IX8_lay [.ref a0, .int p0, .int p1, .int p2] m 0 0 (Qi rR mR) := by
  refine T_of_V (by decide) (Nat.le_of_ble_eq_true rfl) ?_
  show V D 2 IX8_lay 0 [(0, .ref a0), (1, .int p0), (2, .int p1), (3, .int p2)] [] m 0 0 (Qi rR mR)
  unfold fX8_lay at h
  refine V_iload_n (pc2 := 1) dX8_lay_0 2 rfl rfl ?_
  obtain ⟨y4, hb, h⟩ := bS h
  have hJ39 : V D 2 IX8_lay 39 [(0, .ref a0), (1, .int p0), (2, .int p1), (3, .int p2)] [.int y4] m 0 0 (Qi rR mR) := by
    refine V_istore (pc2 := 41) (L2 := [(4, .int y4), (0, .ref a0), (1, .int p0), (2, .int p1), (3, .int p2)]) dX8_lay_39 ?_ rfl rfl
    refine V_iload_n (pc2 := 42) dX8_lay_41 2 rfl rfl ?_
    obtain ⟨b5, e_b5, h⟩ := bS h
    refine V_cSi (pc2 := 45) [.int p0] (st := []) (tX8_isSlot e_b5) dX8_lay_42 wS_8_309 (by decide) rfl (Nat.le_of_ble_eq_true rfl) ?_
    refine V_ifb_eq (pc2 := 48) (tgt := 53) dX8_lay_45 (fun c45 => ?_) (fun c45 => ?_)
    · replace h := iF c45 h
      refine V_ldc (v := -1000000001) (pc2 := 55) dX8_lay_53 wconstant_8_72 ?_
      obtain ⟨e1, e2⟩ := inj2 h
      subst e1
      subst e2
      exact V_iret dX8_lay_55 rfl ⟨rfl, rfl⟩
    · replace h := iT c45 h
      refine V_iload (pc2 := 50) dX8_lay_48 0 rfl ?_
      refine V_if_ne (pc2 := 53) (tgt := 56) dX8_lay_50 (fun c50 => ?_) (fun c50 => ?_)
      · replace h := iF c50 h
        refine V_iload_n (pc2 := 57) dX8_lay_56 3 rfl rfl ?_
        refine V_iconst (v := 2) (pc2 := 58) dX8_lay_57 (by decide) ?_
        refine V_icmp_ne (pc2 := 61) (tgt := 74) dX8_lay_58 (fun c58 => ?_) (fun c58 => ?_)
        · replace h := iF c58 h
          refine V_aload_n (pc2 := 75) dX8_lay_74 1 rfl rfl ?_
          obtain ⟨r6, e_r6, h⟩ := bS h
          refine V_gR (pc2 := 78) e_r6 dX8_lay_75 wF_8_28 ?_
          refine V_iload_n (pc2 := 79) dX8_lay_78 2 rfl rfl ?_
          obtain ⟨x7, e_x7, h⟩ := bS h
          refine V_ldI (pc2 := 80) e_x7 dX8_lay_79 ?_
          refine V_istore (pc2 := 82) (L2 := [(5, .int x7), (4, .int y4), (0, .ref a0), (1, .int p0), (2, .int p1), (3, .int p2)]) dX8_lay_80 ?_ rfl rfl
          refine V_aload_n (pc2 := 83) dX8_lay_82 2 rfl rfl ?_
          obtain ⟨r8, e_r8, h⟩ := bS h
          refine V_gR (pc2 := 86) e_r8 dX8_lay_83 wF_8_28 ?_
          refine V_iload_n (pc2 := 87) dX8_lay_86 3 rfl rfl ?_
          refine V_iload_n (pc2 := 88) dX8_lay_87 4 rfl rfl ?_
          obtain ⟨m9, e_m9, h⟩ := bS h
          refine V_stI (pc2 := 89) e_m9 dX8_lay_88 ?_
          refine V_aload_n (pc2 := 90) dX8_lay_89 2 rfl rfl ?_
          obtain ⟨r10, e_r10, h⟩ := bS h
          refine V_gR (pc2 := 93) e_r10 dX8_lay_90 wF_8_31 ?_
          refine V_iload_n (pc2 := 94) dX8_lay_93 3 rfl rfl ?_
          refine V_iload_n (pc2 := 95) dX8_lay_94 4 rfl rfl ?_
          refine V_iconst (v := 1) (pc2 := 96) dX8_lay_95 (by decide) ?_
          obtain ⟨y12, hb, h⟩ := bS h
          have hJ109 : V D 2 IX8_lay 109 [(0, .ref a0), (1, .int p0), (2, .int p1), (3, .int p2), (5, .int x7)] [.int y12, .int p0, .ref r10] m9 0 0 (Qi rR mR) := by
            obtain ⟨m13, e_m13, h⟩ := bS h
            refine V_stI (pc2 := 110) e_m13 dX8_lay_109 ?_
            refine V_aload_n (pc2 := 111) dX8_lay_110 0 rfl rfl ?_
            obtain ⟨r14, e_r14, h⟩ := bS h
            refine V_gR (pc2 := 114) e_r14 dX8_lay_111 wF_8_34 ?_
            refine V_iload_n (pc2 := 115) dX8_lay_114 1 rfl rfl ?_
            refine V_iload_n (pc2 := 116) dX8_lay_115 2 rfl rfl ?_
            refine V_iconst (v := 1) (pc2 := 117) dX8_lay_116 (by decide) ?_
            obtain ⟨y16, hb, h⟩ := bS h
            have hJ129 : V D 2 IX8_lay 129 [(0, .ref a0), (1, .int p0), (2, .int p1), (3, .int p2), (5, .int x7)] [.int y16, .int p0, .ref r14] m13 0 0 (Qi rR mR) := by
              obtain ⟨m17, e_m17, h⟩ := bS h
              refine V_stI (pc2 := 130) e_m17 dX8_lay_129 ?_
              refine V_iload_n (pc2 := 131) dX8_lay_130 2 rfl rfl ?_
              refine V_iconst (v := 2) (pc2 := 132) dX8_lay_131 (by decide) ?_
              refine V_icmp_ne (pc2 := 135) (tgt := 187) dX8_lay_132 (fun c132 => ?_) (fun c132 => ?_)
              · replace h := iF c132 h
                refine V_iload (pc2 := 189) dX8_lay_187 4 rfl ?_
                obtain ⟨e1, e2⟩ := inj2 h
                subst e1
                subst e2
                exact V_iret dX8_lay_189 rfl ⟨rfl, rfl⟩
              · replace h := iT c132 h
                refine V_aload_n (pc2 := 136) dX8_lay_135 0 rfl rfl ?_
                obtain ⟨r18, e_r18, h⟩ := bS h
                refine V_gR (pc2 := 139) e_r18 dX8_lay_136 wF_8_37 ?_
                refine V_iload_n (pc2 := 140) dX8_lay_139 1 rfl rfl ?_
                refine V_aload_n (pc2 := 141) dX8_lay_140 0 rfl rfl ?_
                obtain ⟨r19, e_r19, h⟩ := bS h
                refine V_gR (pc2 := 144) e_r19 dX8_lay_141 wF_8_22 ?_
                refine V_iload_n (pc2 := 145) dX8_lay_144 3 rfl rfl ?_
                obtain ⟨x20, e_x20, h⟩ := bS h
                refine V_ldI (pc2 := 146) e_x20 dX8_lay_145 ?_
                obtain ⟨m21, e_m21, h⟩ := bS h
                refine V_stI (pc2 := 147) e_m21 dX8_lay_146 ?_
                refine V_iconst (v := 0) (pc2 := 148) dX8_lay_147 (by decide) ?_
                refine V_istore (pc2 := 150) (L2 := [(6, .int (0 : Int32)), (0, .ref a0), (1, .int p0), (2, .int p1), (3, .int p2), (5, .int x7)]) dX8_lay_148 ?_ rfl rfl
                obtain ⟨m28, hl, h⟩ := bS h
                have hJ187 : V D 2 IX8_lay 187 [(5, .int x7)] [] m28 0 0 (Qi rR mR) := by
                  refine V_iload (pc2 := 189) dX8_lay_187 0 rfl ?_
                  obtain ⟨e1, e2⟩ := inj2 h
                  subst e1
                  subst e2
                  exact V_iret dX8_lay_189 rfl ⟨rfl, rfl⟩
                clear h
                have key150 : ∀ (n : Nat) (y22 : Int32) (m23 : Mem), loopF (fX8_lay_b0 a0 p0 p2) n (y22, m23) = some m28 → V D 2 IX8_lay 150 [(0, .ref a0), (1, .int p0), (3, .int p2), (5, .int x7), (6, .int y22)] [] m23 0 0 (Qi rR mR) := by
                  intro n
                  induction n with
                  | zero => intro y22 m23 h; cases h
                  | succ n ih =>
                    intro y22 m23 h
                    obtain ⟨o, h, ho⟩ := loopF_inv h
                    dsimp only [fX8_lay_b0] at h
                    refine V_iload (pc2 := 152) dX8_lay_150 4 rfl ?_
                    refine V_bipush (v := 24) (pc2 := 154) dX8_lay_152 (by decide) ?_
                    refine V_icmp_ge (pc2 := 157) (tgt := 187) dX8_lay_154 (fun c154 => ?_) (fun c154 => ?_)
                    · replace h := iT c154 h
                      have ee := inj1 h
                      subst ee
                      have e1 := pinj1 (loopF_e ho)
                      subst e1
                      exact V_lv hJ187 [3] rfl
                    · replace h := iF c154 h
                      refine V_aload_n (pc2 := 158) dX8_lay_157 0 rfl rfl ?_
                      obtain ⟨r24, e_r24, h⟩ := bS h
                      refine V_gR (pc2 := 161) e_r24 dX8_lay_158 wF_8_40 ?_
                      refine V_bipush (v := 24) (pc2 := 163) dX8_lay_161 (by decide) ?_
                      refine V_iload_n (pc2 := 164) dX8_lay_163 1 rfl rfl ?_
                      refine V_imul (pc2 := 165) dX8_lay_164 ?_
                      refine V_iload (pc2 := 167) dX8_lay_165 4 rfl ?_
                      refine V_iadd (pc2 := 168) dX8_lay_167 ?_
                      refine V_aload_n (pc2 := 169) dX8_lay_168 0 rfl rfl ?_
                      obtain ⟨r25, e_r25, h⟩ := bS h
                      refine V_gR (pc2 := 172) e_r25 dX8_lay_169 wF_8_25 ?_
                      refine V_bipush (v := 24) (pc2 := 174) dX8_lay_172 (by decide) ?_
                      refine V_iload_n (pc2 := 175) dX8_lay_174 2 rfl rfl ?_
                      refine V_imul (pc2 := 176) dX8_lay_175 ?_
                      refine V_iload (pc2 := 178) dX8_lay_176 4 rfl ?_
                      refine V_iadd (pc2 := 179) dX8_lay_178 ?_
                      obtain ⟨x26, e_x26, h⟩ := bS h
                      refine V_ldI (pc2 := 180) e_x26 dX8_lay_179 ?_
                      obtain ⟨m27, e_m27, h⟩ := bS h
                      refine V_stI (pc2 := 181) e_m27 dX8_lay_180 ?_
                      refine V_iinc (pc2 := 184) (v := y22 + (1 : Int32)) (L2 := [(6, .int (y22 + (1 : Int32))), (0, .ref a0), (1, .int p0), (3, .int p2), (5, .int x7)]) dX8_lay_181 4 rfl (by rfl) ?_ rfl rfl
                      refine V_goto (tgt := 150) dX8_lay_184 ?_
                      have ee := inj1 h
                      subst ee
                      exact V_lv (ih _ _ (loopF_c ho)) [1, 2, 3, 4, 0] rfl
                exact V_lv (key150 _ _ _ hl) [1, 2, 4, 5, 0] rfl
            clear h
            have h := hb
            clear hb
            refine V_icmp_ne (pc2 := 120) (tgt := 128) dX8_lay_117 (fun c117 => ?_) (fun c117 => ?_)
            · replace h := iF c117 h
              refine V_iconst (v := 0) (pc2 := 129) dX8_lay_128 (by decide) ?_
              have e1 := inj1 h
              subst e1
              exact hJ129
            · replace h := iT c117 h
              refine V_aload_n (pc2 := 121) dX8_lay_120 0 rfl rfl ?_
              refine V_iload_n (pc2 := 122) dX8_lay_121 3 rfl rfl ?_
              obtain ⟨x15, e_x15, h⟩ := bS h
              obtain ⟨⟨fs_x15, o_x15⟩, e_x15⟩ := cV_of e_x15
              refine V_cVi (pc2 := 125) [.int p2] (st := [.int p0, .ref r14]) o_x15 (tX8_worth e_x15) dX8_lay_122 wV_8_133 (by decide) rfl (Nat.le_of_ble_eq_true rfl) ?_
              refine V_goto (tgt := 129) dX8_lay_125 ?_
              have e1 := inj1 h
              subst e1
              exact hJ129
          clear h
          have h := hb
          clear hb
          refine V_icmp_ne (pc2 := 99) (tgt := 108) dX8_lay_96 (fun c96 => ?_) (fun c96 => ?_)
          · replace h := iF c96 h
            refine V_iload_n (pc2 := 109) dX8_lay_108 5 rfl rfl ?_
            have e1 := inj1 h
            subst e1
            exact V_lv hJ109 [2, 3, 4, 5, 0] rfl
          · replace h := iT c96 h
            refine V_aload_n (pc2 := 100) dX8_lay_99 2 rfl rfl ?_
            refine V_iload_n (pc2 := 101) dX8_lay_100 5 rfl rfl ?_
            refine V_iconst (v := 0) (pc2 := 102) dX8_lay_101 (by decide) ?_
            obtain ⟨x11, e_x11, h⟩ := bS h
            obtain ⟨⟨fs_x11, o_x11⟩, e_x11⟩ := cV_of e_x11
            refine V_cVi (pc2 := 105) [.int p2, .int (0 : Int32)] (st := [.int p0, .ref r10]) o_x11 (tX8_of e_x11) dX8_lay_102 wV_8_121 (by decide) rfl (Nat.le_of_ble_eq_true rfl) ?_
            refine V_goto (tgt := 109) dX8_lay_105 ?_
            have e1 := inj1 h
            subst e1
            exact V_lv hJ109 [2, 3, 4, 5, 0] rfl
        · replace h := iT c58 h
          refine V_aload_n (pc2 := 62) dX8_lay_61 1 rfl rfl ?_
          obtain ⟨r29, e_r29, h⟩ := bS h
          refine V_gR (pc2 := 65) e_r29 dX8_lay_62 wF_8_19 ?_
          refine V_iload_n (pc2 := 66) dX8_lay_65 4 rfl rfl ?_
          obtain ⟨x30, e_x30, h⟩ := bS h
          refine V_ldI (pc2 := 67) e_x30 dX8_lay_66 ?_
          refine V_if_ge (pc2 := 70) (tgt := 74) dX8_lay_67 (fun c67 => ?_) (fun c67 => ?_)
          · replace h := iT c67 h
            refine V_aload_n (pc2 := 75) dX8_lay_74 1 rfl rfl ?_
            obtain ⟨r31, e_r31, h⟩ := bS h
            refine V_gR (pc2 := 78) e_r31 dX8_lay_75 wF_8_28 ?_
            refine V_iload_n (pc2 := 79) dX8_lay_78 2 rfl rfl ?_
            obtain ⟨x32, e_x32, h⟩ := bS h
            refine V_ldI (pc2 := 80) e_x32 dX8_lay_79 ?_
            refine V_istore (pc2 := 82) (L2 := [(5, .int x32), (4, .int y4), (0, .ref a0), (1, .int p0), (2, .int p1), (3, .int p2)]) dX8_lay_80 ?_ rfl rfl
            refine V_aload_n (pc2 := 83) dX8_lay_82 2 rfl rfl ?_
            obtain ⟨r33, e_r33, h⟩ := bS h
            refine V_gR (pc2 := 86) e_r33 dX8_lay_83 wF_8_28 ?_
            refine V_iload_n (pc2 := 87) dX8_lay_86 3 rfl rfl ?_
            refine V_iload_n (pc2 := 88) dX8_lay_87 4 rfl rfl ?_
            obtain ⟨m34, e_m34, h⟩ := bS h
            refine V_stI (pc2 := 89) e_m34 dX8_lay_88 ?_
            refine V_aload_n (pc2 := 90) dX8_lay_89 2 rfl rfl ?_
            obtain ⟨r35, e_r35, h⟩ := bS h
            refine V_gR (pc2 := 93) e_r35 dX8_lay_90 wF_8_31 ?_
            refine V_iload_n (pc2 := 94) dX8_lay_93 3 rfl rfl ?_
            refine V_iload_n (pc2 := 95) dX8_lay_94 4 rfl rfl ?_
            refine V_iconst (v := 1) (pc2 := 96) dX8_lay_95 (by decide) ?_
            obtain ⟨y37, hb, h⟩ := bS h
            have hJ109 : V D 2 IX8_lay 109 [(0, .ref a0), (1, .int p0), (2, .int p1), (3, .int p2), (5, .int x32)] [.int y37, .int p0, .ref r35] m34 0 0 (Qi rR mR) := by
              obtain ⟨m38, e_m38, h⟩ := bS h
              refine V_stI (pc2 := 110) e_m38 dX8_lay_109 ?_
              refine V_aload_n (pc2 := 111) dX8_lay_110 0 rfl rfl ?_
              obtain ⟨r39, e_r39, h⟩ := bS h
              refine V_gR (pc2 := 114) e_r39 dX8_lay_111 wF_8_34 ?_
              refine V_iload_n (pc2 := 115) dX8_lay_114 1 rfl rfl ?_
              refine V_iload_n (pc2 := 116) dX8_lay_115 2 rfl rfl ?_
              refine V_iconst (v := 1) (pc2 := 117) dX8_lay_116 (by decide) ?_
              obtain ⟨y41, hb, h⟩ := bS h
              have hJ129 : V D 2 IX8_lay 129 [(0, .ref a0), (1, .int p0), (2, .int p1), (3, .int p2), (5, .int x32)] [.int y41, .int p0, .ref r39] m38 0 0 (Qi rR mR) := by
                obtain ⟨m42, e_m42, h⟩ := bS h
                refine V_stI (pc2 := 130) e_m42 dX8_lay_129 ?_
                refine V_iload_n (pc2 := 131) dX8_lay_130 2 rfl rfl ?_
                refine V_iconst (v := 2) (pc2 := 132) dX8_lay_131 (by decide) ?_
                refine V_icmp_ne (pc2 := 135) (tgt := 187) dX8_lay_132 (fun c132 => ?_) (fun c132 => ?_)
                · replace h := iF c132 h
                  refine V_iload (pc2 := 189) dX8_lay_187 4 rfl ?_
                  obtain ⟨e1, e2⟩ := inj2 h
                  subst e1
                  subst e2
                  exact V_iret dX8_lay_189 rfl ⟨rfl, rfl⟩
                · replace h := iT c132 h
                  refine V_aload_n (pc2 := 136) dX8_lay_135 0 rfl rfl ?_
                  obtain ⟨r43, e_r43, h⟩ := bS h
                  refine V_gR (pc2 := 139) e_r43 dX8_lay_136 wF_8_37 ?_
                  refine V_iload_n (pc2 := 140) dX8_lay_139 1 rfl rfl ?_
                  refine V_aload_n (pc2 := 141) dX8_lay_140 0 rfl rfl ?_
                  obtain ⟨r44, e_r44, h⟩ := bS h
                  refine V_gR (pc2 := 144) e_r44 dX8_lay_141 wF_8_22 ?_
                  refine V_iload_n (pc2 := 145) dX8_lay_144 3 rfl rfl ?_
                  obtain ⟨x45, e_x45, h⟩ := bS h
                  refine V_ldI (pc2 := 146) e_x45 dX8_lay_145 ?_
                  obtain ⟨m46, e_m46, h⟩ := bS h
                  refine V_stI (pc2 := 147) e_m46 dX8_lay_146 ?_
                  refine V_iconst (v := 0) (pc2 := 148) dX8_lay_147 (by decide) ?_
                  refine V_istore (pc2 := 150) (L2 := [(6, .int (0 : Int32)), (0, .ref a0), (1, .int p0), (2, .int p1), (3, .int p2), (5, .int x32)]) dX8_lay_148 ?_ rfl rfl
                  obtain ⟨m53, hl, h⟩ := bS h
                  have hJ187 : V D 2 IX8_lay 187 [(5, .int x32)] [] m53 0 0 (Qi rR mR) := by
                    refine V_iload (pc2 := 189) dX8_lay_187 0 rfl ?_
                    obtain ⟨e1, e2⟩ := inj2 h
                    subst e1
                    subst e2
                    exact V_iret dX8_lay_189 rfl ⟨rfl, rfl⟩
                  clear h
                  have key150 : ∀ (n : Nat) (y47 : Int32) (m48 : Mem), loopF (fX8_lay_b1 a0 p0 p2) n (y47, m48) = some m53 → V D 2 IX8_lay 150 [(0, .ref a0), (1, .int p0), (3, .int p2), (5, .int x32), (6, .int y47)] [] m48 0 0 (Qi rR mR) := by
                    intro n
                    induction n with
                    | zero => intro y47 m48 h; cases h
                    | succ n ih =>
                      intro y47 m48 h
                      obtain ⟨o, h, ho⟩ := loopF_inv h
                      dsimp only [fX8_lay_b1] at h
                      refine V_iload (pc2 := 152) dX8_lay_150 4 rfl ?_
                      refine V_bipush (v := 24) (pc2 := 154) dX8_lay_152 (by decide) ?_
                      refine V_icmp_ge (pc2 := 157) (tgt := 187) dX8_lay_154 (fun c154 => ?_) (fun c154 => ?_)
                      · replace h := iT c154 h
                        have ee := inj1 h
                        subst ee
                        have e1 := pinj1 (loopF_e ho)
                        subst e1
                        exact V_lv hJ187 [3] rfl
                      · replace h := iF c154 h
                        refine V_aload_n (pc2 := 158) dX8_lay_157 0 rfl rfl ?_
                        obtain ⟨r49, e_r49, h⟩ := bS h
                        refine V_gR (pc2 := 161) e_r49 dX8_lay_158 wF_8_40 ?_
                        refine V_bipush (v := 24) (pc2 := 163) dX8_lay_161 (by decide) ?_
                        refine V_iload_n (pc2 := 164) dX8_lay_163 1 rfl rfl ?_
                        refine V_imul (pc2 := 165) dX8_lay_164 ?_
                        refine V_iload (pc2 := 167) dX8_lay_165 4 rfl ?_
                        refine V_iadd (pc2 := 168) dX8_lay_167 ?_
                        refine V_aload_n (pc2 := 169) dX8_lay_168 0 rfl rfl ?_
                        obtain ⟨r50, e_r50, h⟩ := bS h
                        refine V_gR (pc2 := 172) e_r50 dX8_lay_169 wF_8_25 ?_
                        refine V_bipush (v := 24) (pc2 := 174) dX8_lay_172 (by decide) ?_
                        refine V_iload_n (pc2 := 175) dX8_lay_174 2 rfl rfl ?_
                        refine V_imul (pc2 := 176) dX8_lay_175 ?_
                        refine V_iload (pc2 := 178) dX8_lay_176 4 rfl ?_
                        refine V_iadd (pc2 := 179) dX8_lay_178 ?_
                        obtain ⟨x51, e_x51, h⟩ := bS h
                        refine V_ldI (pc2 := 180) e_x51 dX8_lay_179 ?_
                        obtain ⟨m52, e_m52, h⟩ := bS h
                        refine V_stI (pc2 := 181) e_m52 dX8_lay_180 ?_
                        refine V_iinc (pc2 := 184) (v := y47 + (1 : Int32)) (L2 := [(6, .int (y47 + (1 : Int32))), (0, .ref a0), (1, .int p0), (3, .int p2), (5, .int x32)]) dX8_lay_181 4 rfl (by rfl) ?_ rfl rfl
                        refine V_goto (tgt := 150) dX8_lay_184 ?_
                        have ee := inj1 h
                        subst ee
                        exact V_lv (ih _ _ (loopF_c ho)) [1, 2, 3, 4, 0] rfl
                  exact V_lv (key150 _ _ _ hl) [1, 2, 4, 5, 0] rfl
              clear h
              have h := hb
              clear hb
              refine V_icmp_ne (pc2 := 120) (tgt := 128) dX8_lay_117 (fun c117 => ?_) (fun c117 => ?_)
              · replace h := iF c117 h
                refine V_iconst (v := 0) (pc2 := 129) dX8_lay_128 (by decide) ?_
                have e1 := inj1 h
                subst e1
                exact hJ129
              · replace h := iT c117 h
                refine V_aload_n (pc2 := 121) dX8_lay_120 0 rfl rfl ?_
                refine V_iload_n (pc2 := 122) dX8_lay_121 3 rfl rfl ?_
                obtain ⟨x40, e_x40, h⟩ := bS h
                obtain ⟨⟨fs_x40, o_x40⟩, e_x40⟩ := cV_of e_x40
                refine V_cVi (pc2 := 125) [.int p2] (st := [.int p0, .ref r39]) o_x40 (tX8_worth e_x40) dX8_lay_122 wV_8_133 (by decide) rfl (Nat.le_of_ble_eq_true rfl) ?_
                refine V_goto (tgt := 129) dX8_lay_125 ?_
                have e1 := inj1 h
                subst e1
                exact hJ129
            clear h
            have h := hb
            clear hb
            refine V_icmp_ne (pc2 := 99) (tgt := 108) dX8_lay_96 (fun c96 => ?_) (fun c96 => ?_)
            · replace h := iF c96 h
              refine V_iload_n (pc2 := 109) dX8_lay_108 5 rfl rfl ?_
              have e1 := inj1 h
              subst e1
              exact V_lv hJ109 [2, 3, 4, 5, 0] rfl
            · replace h := iT c96 h
              refine V_aload_n (pc2 := 100) dX8_lay_99 2 rfl rfl ?_
              refine V_iload_n (pc2 := 101) dX8_lay_100 5 rfl rfl ?_
              refine V_iconst (v := 0) (pc2 := 102) dX8_lay_101 (by decide) ?_
              obtain ⟨x36, e_x36, h⟩ := bS h
              obtain ⟨⟨fs_x36, o_x36⟩, e_x36⟩ := cV_of e_x36
              refine V_cVi (pc2 := 105) [.int p2, .int (0 : Int32)] (st := [.int p0, .ref r35]) o_x36 (tX8_of e_x36) dX8_lay_102 wV_8_121 (by decide) rfl (Nat.le_of_ble_eq_true rfl) ?_
              refine V_goto (tgt := 109) dX8_lay_105 ?_
              have e1 := inj1 h
              subst e1
              exact V_lv hJ109 [2, 3, 4, 5, 0] rfl
          · replace h := iF c67 h
            refine V_ldcw (v := -1000000011) (pc2 := 73) dX8_lay_70 wconstant_8_301 ?_
            obtain ⟨e1, e2⟩ := inj2 h
            subst e1
            subst e2
            exact V_iret dX8_lay_73 rfl ⟨rfl, rfl⟩
      · replace h := iT c50 h
        refine V_ldc (v := -1000000001) (pc2 := 55) dX8_lay_53 wconstant_8_72 ?_
        obtain ⟨e1, e2⟩ := inj2 h
        subst e1
        subst e2
        exact V_iret dX8_lay_55 rfl ⟨rfl, rfl⟩
  clear h
  have h := hb
  clear hb
  refine V_if_eq (pc2 := 4) (tgt := 34) dX8_lay_1 (fun c1 => ?_) (fun c1 => ?_)
  · replace h := iT c1 h
    refine V_iconst (v := 1) (pc2 := 35) dX8_lay_34 (by decide) ?_
    refine V_goto (tgt := 39) dX8_lay_35 ?_
    have e1 := inj1 h
    subst e1
    exact hJ39
  · replace h := iF c1 h
    refine V_iload_n (pc2 := 5) dX8_lay_4 2 rfl rfl ?_
    refine V_iconst (v := 3) (pc2 := 6) dX8_lay_5 (by decide) ?_
    refine V_icmp_eq (pc2 := 9) (tgt := 34) dX8_lay_6 (fun c6 => ?_) (fun c6 => ?_)
    · replace h := iT c6 h
      refine V_iconst (v := 1) (pc2 := 35) dX8_lay_34 (by decide) ?_
      refine V_goto (tgt := 39) dX8_lay_35 ?_
      have e1 := inj1 h
      subst e1
      exact hJ39
    · replace h := iF c6 h
      refine V_iload_n (pc2 := 10) dX8_lay_9 2 rfl rfl ?_
      refine V_iconst (v := 1) (pc2 := 11) dX8_lay_10 (by decide) ?_
      refine V_icmp_ne (pc2 := 14) (tgt := 22) dX8_lay_11 (fun c11 => ?_) (fun c11 => ?_)
      · replace h := iF c11 h
        refine V_iload_n (pc2 := 23) dX8_lay_22 2 rfl rfl ?_
        refine V_iconst (v := 2) (pc2 := 24) dX8_lay_23 (by decide) ?_
        refine V_icmp_ne (pc2 := 27) (tgt := 38) dX8_lay_24 (fun c24 => ?_) (fun c24 => ?_)
        · replace h := iF c24 h
          refine V_iconst (v := 0) (pc2 := 39) dX8_lay_38 (by decide) ?_
          have e1 := inj1 h
          subst e1
          exact hJ39
        · replace h := iT c24 h
          refine V_iload_n (pc2 := 28) dX8_lay_27 3 rfl rfl ?_
          obtain ⟨b1, e_b1, h⟩ := bS h
          refine V_cSi (pc2 := 31) [.int p2] (st := []) (tX8_isSheet e_b1) dX8_lay_28 wS_8_295 (by decide) rfl (Nat.le_of_ble_eq_true rfl) ?_
          refine V_ifb_eq (pc2 := 34) (tgt := 38) dX8_lay_31 (fun c31 => ?_) (fun c31 => ?_)
          · replace h := iF c31 h
            refine V_iconst (v := 0) (pc2 := 39) dX8_lay_38 (by decide) ?_
            have e1 := inj1 h
            subst e1
            exact hJ39
          · replace h := iT c31 h
            refine V_iconst (v := 1) (pc2 := 35) dX8_lay_34 (by decide) ?_
            refine V_goto (tgt := 39) dX8_lay_35 ?_
            have e1 := inj1 h
            subst e1
            exact hJ39
      · replace h := iT c11 h
        refine V_aload_n (pc2 := 15) dX8_lay_14 0 rfl rfl ?_
        refine V_iload_n (pc2 := 16) dX8_lay_15 3 rfl rfl ?_
        obtain ⟨b2, e_b2, h⟩ := bS h
        obtain ⟨⟨fs_b2, o_b2⟩, e_b2⟩ := cV_of e_b2
        refine V_cVi (pc2 := 19) [.int p2] (st := []) o_b2 (tX8_isStop e_b2) dX8_lay_16 wV_8_127 (by decide) rfl (Nat.le_of_ble_eq_true rfl) ?_
        refine V_ifb_ne (pc2 := 22) (tgt := 34) dX8_lay_19 (fun c19 => ?_) (fun c19 => ?_)
        · replace h := iT c19 h
          refine V_iconst (v := 1) (pc2 := 35) dX8_lay_34 (by decide) ?_
          refine V_goto (tgt := 39) dX8_lay_35 ?_
          have e1 := inj1 h
          subst e1
          exact hJ39
        · replace h := iF c19 h
          refine V_iload_n (pc2 := 23) dX8_lay_22 2 rfl rfl ?_
          refine V_iconst (v := 2) (pc2 := 24) dX8_lay_23 (by decide) ?_
          refine V_icmp_ne (pc2 := 27) (tgt := 38) dX8_lay_24 (fun c24 => ?_) (fun c24 => ?_)
          · replace h := iF c24 h
            refine V_iconst (v := 0) (pc2 := 39) dX8_lay_38 (by decide) ?_
            have e1 := inj1 h
            subst e1
            exact hJ39
          · replace h := iT c24 h
            refine V_iload_n (pc2 := 28) dX8_lay_27 3 rfl rfl ?_
            obtain ⟨b3, e_b3, h⟩ := bS h
            refine V_cSi (pc2 := 31) [.int p2] (st := []) (tX8_isSheet e_b3) dX8_lay_28 wS_8_295 (by decide) rfl (Nat.le_of_ble_eq_true rfl) ?_
            refine V_ifb_eq (pc2 := 34) (tgt := 38) dX8_lay_31 (fun c31 => ?_) (fun c31 => ?_)
            · replace h := iF c31 h
              refine V_iconst (v := 0) (pc2 := 39) dX8_lay_38 (by decide) ?_
              have e1 := inj1 h
              subst e1
              exact hJ39
            · replace h := iT c31 h
              refine V_iconst (v := 1) (pc2 := 35) dX8_lay_34 (by decide) ?_
              refine V_goto (tgt := 39) dX8_lay_35 ?_
              have e1 := inj1 h
              subst e1
              exact hJ39
noncomputable def fX8_ask (a0 : Nat) (p0 : Int32) (p1 : Int32) (m : Mem) : Option (Int32) :=
  (fX8_isSlot p0 m).bind fun b1 =>
  if b1 = true then
    (fX8_isIn p1.toInt64 (0 : Int64) (5 : Int64) m).bind fun b2 =>
    if b2 = true then
      (gR m a0 8 7).bind fun r3 =>
      (ldI m r3 p0).bind fun x4 =>
      if x4 = 0 then
        some (-1000000011 : Int32)
      else
        (gR m a0 8 7).bind fun r5 =>
        (ldI m r5 p0).bind fun x6 =>
        if x6 = (1 : Int32) then
          (gR m a0 8 8).bind fun r7 =>
          (ldI m r7 p0).bind fun x8 =>
          (fX8_isOf x8 p1 m).bind fun b9 =>
          if b9 = true then
            (gR m a0 8 9).bind fun r10 =>
            (ldI m r10 p0).bind fun x11 =>
            some x11
          else
            some (-1000000012 : Int32)
        else
          some (-1000000012 : Int32)
    else
      some (-1000000001 : Int32)
  else
    some (-1000000001 : Int32)
set_option maxRecDepth 20000 in
theorem tX8_ask {D : Dat} {a0 : Nat} {p0 : Int32} {p1 : Int32} {m : Mem} {rR : Int32} (h : fX8_ask a0 p0 p1 m = some rR) : T D 2 IX8_ask [.ref a0, .int p0, .int p1] m 0 0 (Qi rR m) := by
  refine T_of_V (by decide) (Nat.le_of_ble_eq_true rfl) ?_
  show V D 2 IX8_ask 0 [(0, .ref a0), (1, .int p0), (2, .int p1)] [] m 0 0 (Qi rR m)
  unfold fX8_ask at h
  refine V_iload_n (pc2 := 1) dX8_ask_0 1 rfl rfl ?_
  obtain ⟨b1, e_b1, h⟩ := bS h
  refine V_cSi (pc2 := 4) [.int p0] (st := []) (tX8_isSlot e_b1) dX8_ask_1 wS_8_309 (by decide) rfl (Nat.le_of_ble_eq_true rfl) ?_
  refine V_ifb_eq (pc2 := 7) (tgt := 19) dX8_ask_4 (fun c4 => ?_) (fun c4 => ?_)
  · replace h := iF c4 h
    refine V_ldc (v := -1000000001) (pc2 := 21) dX8_ask_19 wconstant_8_72 ?_
    have e1 := inj1 h
    subst e1
    exact V_iret dX8_ask_21 rfl ⟨rfl, rfl⟩
  · replace h := iT c4 h
    refine V_iload_n (pc2 := 8) dX8_ask_7 2 rfl rfl ?_
    refine V_i2l (pc2 := 9) dX8_ask_8 rfl ?_
    refine V_lconst (v := 0) (pc2 := 10) dX8_ask_9 (by decide) ?_
    refine V_ldc2 (v := 5) (pc2 := 13) dX8_ask_10 wconstantLong_8_115 ?_
    obtain ⟨b2, e_b2, h⟩ := bS h
    refine V_cSi (pc2 := 16) [.long p1.toInt64, .long (0 : Int64), .long (5 : Int64)] (st := []) (tX8_isIn e_b2) dX8_ask_13 wS_8_65 (by decide) rfl (Nat.le_of_ble_eq_true rfl) ?_
    refine V_ifb_ne (pc2 := 19) (tgt := 22) dX8_ask_16 (fun c16 => ?_) (fun c16 => ?_)
    · replace h := iT c16 h
      refine V_aload_n (pc2 := 23) dX8_ask_22 0 rfl rfl ?_
      obtain ⟨r3, e_r3, h⟩ := bS h
      refine V_gR (pc2 := 26) e_r3 dX8_ask_23 wF_8_28 ?_
      refine V_iload_n (pc2 := 27) dX8_ask_26 1 rfl rfl ?_
      obtain ⟨x4, e_x4, h⟩ := bS h
      refine V_ldI (pc2 := 28) e_x4 dX8_ask_27 ?_
      refine V_if_ne (pc2 := 31) (tgt := 35) dX8_ask_28 (fun c28 => ?_) (fun c28 => ?_)
      · replace h := iF c28 h
        refine V_aload_n (pc2 := 36) dX8_ask_35 0 rfl rfl ?_
        obtain ⟨r5, e_r5, h⟩ := bS h
        refine V_gR (pc2 := 39) e_r5 dX8_ask_36 wF_8_28 ?_
        refine V_iload_n (pc2 := 40) dX8_ask_39 1 rfl rfl ?_
        obtain ⟨x6, e_x6, h⟩ := bS h
        refine V_ldI (pc2 := 41) e_x6 dX8_ask_40 ?_
        refine V_iconst (v := 1) (pc2 := 42) dX8_ask_41 (by decide) ?_
        refine V_icmp_ne (pc2 := 45) (tgt := 67) dX8_ask_42 (fun c42 => ?_) (fun c42 => ?_)
        · replace h := iF c42 h
          refine V_ldc (v := -1000000012) (pc2 := 69) dX8_ask_67 wconstant_8_140 ?_
          have e1 := inj1 h
          subst e1
          exact V_iret dX8_ask_69 rfl ⟨rfl, rfl⟩
        · replace h := iT c42 h
          refine V_aload_n (pc2 := 46) dX8_ask_45 0 rfl rfl ?_
          obtain ⟨r7, e_r7, h⟩ := bS h
          refine V_gR (pc2 := 49) e_r7 dX8_ask_46 wF_8_31 ?_
          refine V_iload_n (pc2 := 50) dX8_ask_49 1 rfl rfl ?_
          obtain ⟨x8, e_x8, h⟩ := bS h
          refine V_ldI (pc2 := 51) e_x8 dX8_ask_50 ?_
          refine V_iload_n (pc2 := 52) dX8_ask_51 2 rfl rfl ?_
          obtain ⟨b9, e_b9, h⟩ := bS h
          refine V_cSi (pc2 := 55) [.int x8, .int p1] (st := []) (tX8_isOf e_b9) dX8_ask_52 wS_8_136 (by decide) rfl (Nat.le_of_ble_eq_true rfl) ?_
          refine V_ifb_eq (pc2 := 58) (tgt := 67) dX8_ask_55 (fun c55 => ?_) (fun c55 => ?_)
          · replace h := iF c55 h
            refine V_ldc (v := -1000000012) (pc2 := 69) dX8_ask_67 wconstant_8_140 ?_
            have e1 := inj1 h
            subst e1
            exact V_iret dX8_ask_69 rfl ⟨rfl, rfl⟩
          · replace h := iT c55 h
            refine V_aload_n (pc2 := 59) dX8_ask_58 0 rfl rfl ?_
            obtain ⟨r10, e_r10, h⟩ := bS h
            refine V_gR (pc2 := 62) e_r10 dX8_ask_59 wF_8_34 ?_
            refine V_iload_n (pc2 := 63) dX8_ask_62 1 rfl rfl ?_
            obtain ⟨x11, e_x11, h⟩ := bS h
            refine V_ldI (pc2 := 64) e_x11 dX8_ask_63 ?_
            refine V_goto (tgt := 69) dX8_ask_64 ?_
            have e1 := inj1 h
            subst e1
            exact V_iret dX8_ask_69 rfl ⟨rfl, rfl⟩
      · replace h := iT c28 h
        refine V_ldcw (v := -1000000011) (pc2 := 34) dX8_ask_31 wconstant_8_301 ?_
        have e1 := inj1 h
        subst e1
        exact V_iret dX8_ask_34 rfl ⟨rfl, rfl⟩
    · replace h := iF c16 h
      refine V_ldc (v := -1000000001) (pc2 := 21) dX8_ask_19 wconstant_8_72 ?_
      have e1 := inj1 h
      subst e1
      exact V_iret dX8_ask_21 rfl ⟨rfl, rfl⟩
noncomputable def fX8_item (a0 : Nat) (p0 : Int32) (p1 : Int32) (m : Mem) : Option (Int32) :=
  (fX8_isSlot p0 m).bind fun b1 =>
  if b1 = true then
    (gR m a0 8 7).bind fun r2 =>
    (ldI m r2 p0).bind fun x3 =>
    if x3 = (2 : Int32) then
      (gR m a0 8 10).bind fun r4 =>
      (ldI m r4 p0).bind fun x5 =>
      (fX8_isIn p1.toInt64 (0 : Int64) ((x5 - (1 : Int32)).toInt64) m).bind fun b6 =>
      if b6 = true then
        (gR m a0 8 11).bind fun r7 =>
        (ldI m r7 (((24 : Int32) * p0) + p1)).bind fun x8 =>
        if x8 = (-1000000005 : Int32) then
          some (-1000000012 : Int32)
        else
          some x8
      else
        some (-1000000013 : Int32)
    else
      (gR m a0 8 7).bind fun r9 =>
      (ldI m r9 p0).bind fun x10 =>
      if x10 = 0 then
        some (-1000000011 : Int32)
      else
        some (-1000000012 : Int32)
  else
    some (-1000000001 : Int32)
set_option maxRecDepth 20000 in
theorem tX8_item {D : Dat} {a0 : Nat} {p0 : Int32} {p1 : Int32} {m : Mem} {rR : Int32} (h : fX8_item a0 p0 p1 m = some rR) : T D 2 IX8_item [.ref a0, .int p0, .int p1] m 0 0 (Qi rR m) := by
  refine T_of_V (by decide) (Nat.le_of_ble_eq_true rfl) ?_
  show V D 2 IX8_item 0 [(0, .ref a0), (1, .int p0), (2, .int p1)] [] m 0 0 (Qi rR m)
  unfold fX8_item at h
  refine V_iload_n (pc2 := 1) dX8_item_0 1 rfl rfl ?_
  obtain ⟨b1, e_b1, h⟩ := bS h
  refine V_cSi (pc2 := 4) [.int p0] (st := []) (tX8_isSlot e_b1) dX8_item_1 wS_8_309 (by decide) rfl (Nat.le_of_ble_eq_true rfl) ?_
  refine V_ifb_ne (pc2 := 7) (tgt := 10) dX8_item_4 (fun c4 => ?_) (fun c4 => ?_)
  · replace h := iT c4 h
    refine V_aload_n (pc2 := 11) dX8_item_10 0 rfl rfl ?_
    obtain ⟨r2, e_r2, h⟩ := bS h
    refine V_gR (pc2 := 14) e_r2 dX8_item_11 wF_8_28 ?_
    refine V_iload_n (pc2 := 15) dX8_item_14 1 rfl rfl ?_
    obtain ⟨x3, e_x3, h⟩ := bS h
    refine V_ldI (pc2 := 16) e_x3 dX8_item_15 ?_
    refine V_iconst (v := 2) (pc2 := 17) dX8_item_16 (by decide) ?_
    refine V_icmp_eq (pc2 := 20) (tgt := 38) dX8_item_17 (fun c17 => ?_) (fun c17 => ?_)
    · replace h := iT c17 h
      refine V_iload_n (pc2 := 39) dX8_item_38 2 rfl rfl ?_
      refine V_i2l (pc2 := 40) dX8_item_39 rfl ?_
      refine V_lconst (v := 0) (pc2 := 41) dX8_item_40 (by decide) ?_
      refine V_aload_n (pc2 := 42) dX8_item_41 0 rfl rfl ?_
      obtain ⟨r4, e_r4, h⟩ := bS h
      refine V_gR (pc2 := 45) e_r4 dX8_item_42 wF_8_37 ?_
      refine V_iload_n (pc2 := 46) dX8_item_45 1 rfl rfl ?_
      obtain ⟨x5, e_x5, h⟩ := bS h
      refine V_ldI (pc2 := 47) e_x5 dX8_item_46 ?_
      refine V_iconst (v := 1) (pc2 := 48) dX8_item_47 (by decide) ?_
      refine V_isub (pc2 := 49) dX8_item_48 ?_
      refine V_i2l (pc2 := 50) dX8_item_49 rfl ?_
      obtain ⟨b6, e_b6, h⟩ := bS h
      refine V_cSi (pc2 := 53) [.long p1.toInt64, .long (0 : Int64), .long ((x5 - (1 : Int32)).toInt64)] (st := []) (tX8_isIn e_b6) dX8_item_50 wS_8_65 (by decide) rfl (Nat.le_of_ble_eq_true rfl) ?_
      refine V_ifb_ne (pc2 := 56) (tgt := 60) dX8_item_53 (fun c53 => ?_) (fun c53 => ?_)
      · replace h := iT c53 h
        refine V_aload_n (pc2 := 61) dX8_item_60 0 rfl rfl ?_
        obtain ⟨r7, e_r7, h⟩ := bS h
        refine V_gR (pc2 := 64) e_r7 dX8_item_61 wF_8_40 ?_
        refine V_bipush (v := 24) (pc2 := 66) dX8_item_64 (by decide) ?_
        refine V_iload_n (pc2 := 67) dX8_item_66 1 rfl rfl ?_
        refine V_imul (pc2 := 68) dX8_item_67 ?_
        refine V_iload_n (pc2 := 69) dX8_item_68 2 rfl rfl ?_
        refine V_iadd (pc2 := 70) dX8_item_69 ?_
        obtain ⟨x8, e_x8, h⟩ := bS h
        refine V_ldI (pc2 := 71) e_x8 dX8_item_70 ?_
        refine V_istore_n (pc2 := 72) (L2 := [(3, .int x8), (0, .ref a0), (1, .int p0), (2, .int p1)]) dX8_item_71 ?_ rfl rfl rfl
        refine V_iload_n (pc2 := 73) dX8_item_72 0 rfl rfl ?_
        refine V_ldc (v := -1000000005) (pc2 := 75) dX8_item_73 wconstant_8_64 ?_
        refine V_icmp_ne (pc2 := 78) (tgt := 83) dX8_item_75 (fun c75 => ?_) (fun c75 => ?_)
        · replace h := iF c75 h
          refine V_iload_n (pc2 := 84) dX8_item_83 0 rfl rfl ?_
          have e1 := inj1 h
          subst e1
          exact V_iret dX8_item_84 rfl ⟨rfl, rfl⟩
        · replace h := iT c75 h
          refine V_ldc (v := -1000000012) (pc2 := 80) dX8_item_78 wconstant_8_140 ?_
          refine V_goto (tgt := 84) dX8_item_80 ?_
          have e1 := inj1 h
          subst e1
          exact V_iret dX8_item_84 rfl ⟨rfl, rfl⟩
      · replace h := iF c53 h
        refine V_ldcw (v := -1000000013) (pc2 := 59) dX8_item_56 wconstant_8_302 ?_
        have e1 := inj1 h
        subst e1
        exact V_iret dX8_item_59 rfl ⟨rfl, rfl⟩
    · replace h := iF c17 h
      refine V_aload_n (pc2 := 21) dX8_item_20 0 rfl rfl ?_
      obtain ⟨r9, e_r9, h⟩ := bS h
      refine V_gR (pc2 := 24) e_r9 dX8_item_21 wF_8_28 ?_
      refine V_iload_n (pc2 := 25) dX8_item_24 1 rfl rfl ?_
      obtain ⟨x10, e_x10, h⟩ := bS h
      refine V_ldI (pc2 := 26) e_x10 dX8_item_25 ?_
      refine V_if_ne (pc2 := 29) (tgt := 35) dX8_item_26 (fun c26 => ?_) (fun c26 => ?_)
      · replace h := iF c26 h
        refine V_ldc (v := -1000000012) (pc2 := 37) dX8_item_35 wconstant_8_140 ?_
        have e1 := inj1 h
        subst e1
        exact V_iret dX8_item_37 rfl ⟨rfl, rfl⟩
      · replace h := iT c26 h
        refine V_ldcw (v := -1000000011) (pc2 := 32) dX8_item_29 wconstant_8_301 ?_
        refine V_goto (tgt := 37) dX8_item_32 ?_
        have e1 := inj1 h
        subst e1
        exact V_iret dX8_item_37 rfl ⟨rfl, rfl⟩
  · replace h := iF c4 h
    refine V_ldc (v := -1000000001) (pc2 := 9) dX8_item_7 wconstant_8_72 ?_
    have e1 := inj1 h
    subst e1
    exact V_iret dX8_item_9 rfl ⟨rfl, rfl⟩
noncomputable def fX8_rest (a0 : Nat) (p0 : Int32) (p1 : Int32) (m : Mem) : Option (Int32) :=
  (fX8_isSlot p0 m).bind fun b1 =>
  if b1 = true then
    (gR m a0 8 7).bind fun r2 =>
    (ldI m r2 p0).bind fun x3 =>
    if x3 = (3 : Int32) then
      if p1 = 0 then
        some (-1000000002 : Int32)
      else
        (gR m a0 8 8).bind fun r4 =>
        (ldI m r4 p0).bind fun x5 =>
        (rmI x5 p1).bind fun x6 =>
        some x6
    else
      (gR m a0 8 7).bind fun r7 =>
      (ldI m r7 p0).bind fun x8 =>
      if x8 = 0 then
        some (-1000000011 : Int32)
      else
        some (-1000000012 : Int32)
  else
    some (-1000000001 : Int32)
set_option maxRecDepth 20000 in
theorem tX8_rest {D : Dat} {a0 : Nat} {p0 : Int32} {p1 : Int32} {m : Mem} {rR : Int32} (h : fX8_rest a0 p0 p1 m = some rR) : T D 2 IX8_rest [.ref a0, .int p0, .int p1] m 0 0 (Qi rR m) := by
  refine T_of_V (by decide) (Nat.le_of_ble_eq_true rfl) ?_
  show V D 2 IX8_rest 0 [(0, .ref a0), (1, .int p0), (2, .int p1)] [] m 0 0 (Qi rR m)
  unfold fX8_rest at h
  refine V_iload_n (pc2 := 1) dX8_rest_0 1 rfl rfl ?_
  obtain ⟨b1, e_b1, h⟩ := bS h
  refine V_cSi (pc2 := 4) [.int p0] (st := []) (tX8_isSlot e_b1) dX8_rest_1 wS_8_309 (by decide) rfl (Nat.le_of_ble_eq_true rfl) ?_
  refine V_ifb_ne (pc2 := 7) (tgt := 10) dX8_rest_4 (fun c4 => ?_) (fun c4 => ?_)
  · replace h := iT c4 h
    refine V_aload_n (pc2 := 11) dX8_rest_10 0 rfl rfl ?_
    obtain ⟨r2, e_r2, h⟩ := bS h
    refine V_gR (pc2 := 14) e_r2 dX8_rest_11 wF_8_28 ?_
    refine V_iload_n (pc2 := 15) dX8_rest_14 1 rfl rfl ?_
    obtain ⟨x3, e_x3, h⟩ := bS h
    refine V_ldI (pc2 := 16) e_x3 dX8_rest_15 ?_
    refine V_iconst (v := 3) (pc2 := 17) dX8_rest_16 (by decide) ?_
    refine V_icmp_eq (pc2 := 20) (tgt := 38) dX8_rest_17 (fun c17 => ?_) (fun c17 => ?_)
    · replace h := iT c17 h
      refine V_iload_n (pc2 := 39) dX8_rest_38 2 rfl rfl ?_
      refine V_if_ne (pc2 := 42) (tgt := 47) dX8_rest_39 (fun c39 => ?_) (fun c39 => ?_)
      · replace h := iF c39 h
        refine V_aload_n (pc2 := 48) dX8_rest_47 0 rfl rfl ?_
        obtain ⟨r4, e_r4, h⟩ := bS h
        refine V_gR (pc2 := 51) e_r4 dX8_rest_48 wF_8_31 ?_
        refine V_iload_n (pc2 := 52) dX8_rest_51 1 rfl rfl ?_
        obtain ⟨x5, e_x5, h⟩ := bS h
        refine V_ldI (pc2 := 53) e_x5 dX8_rest_52 ?_
        refine V_iload_n (pc2 := 54) dX8_rest_53 2 rfl rfl ?_
        obtain ⟨x6, e_x6, h⟩ := bS h
        refine V_rmI (pc2 := 55) e_x6 dX8_rest_54 ?_
        have e1 := inj1 h
        subst e1
        exact V_iret dX8_rest_55 rfl ⟨rfl, rfl⟩
      · replace h := iT c39 h
        refine V_ldc (v := -1000000002) (pc2 := 44) dX8_rest_42 wconstant_8_175 ?_
        refine V_goto (tgt := 55) dX8_rest_44 ?_
        have e1 := inj1 h
        subst e1
        exact V_iret dX8_rest_55 rfl ⟨rfl, rfl⟩
    · replace h := iF c17 h
      refine V_aload_n (pc2 := 21) dX8_rest_20 0 rfl rfl ?_
      obtain ⟨r7, e_r7, h⟩ := bS h
      refine V_gR (pc2 := 24) e_r7 dX8_rest_21 wF_8_28 ?_
      refine V_iload_n (pc2 := 25) dX8_rest_24 1 rfl rfl ?_
      obtain ⟨x8, e_x8, h⟩ := bS h
      refine V_ldI (pc2 := 26) e_x8 dX8_rest_25 ?_
      refine V_if_ne (pc2 := 29) (tgt := 35) dX8_rest_26 (fun c26 => ?_) (fun c26 => ?_)
      · replace h := iF c26 h
        refine V_ldc (v := -1000000012) (pc2 := 37) dX8_rest_35 wconstant_8_140 ?_
        have e1 := inj1 h
        subst e1
        exact V_iret dX8_rest_37 rfl ⟨rfl, rfl⟩
      · replace h := iT c26 h
        refine V_ldcw (v := -1000000011) (pc2 := 32) dX8_rest_29 wconstant_8_301 ?_
        refine V_goto (tgt := 37) dX8_rest_32 ?_
        have e1 := inj1 h
        subst e1
        exact V_iret dX8_rest_37 rfl ⟨rfl, rfl⟩
  · replace h := iF c4 h
    refine V_ldc (v := -1000000001) (pc2 := 9) dX8_rest_7 wconstant_8_72 ?_
    have e1 := inj1 h
    subst e1
    exact V_iret dX8_rest_9 rfl ⟨rfl, rfl⟩
noncomputable def fX8_tell (a0 : Nat) (p0 : Int32) (m : Mem) : Option (Int32 × Mem) :=
  (gI m a0 8 29).bind fun x1 =>
  if x1 = (60 : Int32) then
    some ((-1000000003 : Int32), m)
  else
    (gR m a0 8 28).bind fun r2 =>
    (gI m a0 8 29).bind fun x3 =>
    (stI m r2 x3 p0).bind fun m4 =>
    (gI m4 a0 8 29).bind fun x5 =>
    (pI m4 a0 8 29 (x5 + (1 : Int32))).bind fun m6 =>
    (gI m6 a0 8 29).bind fun x7 =>
    some (x7, m6)
set_option maxRecDepth 20000 in
theorem tX8_tell {D : Dat} {a0 : Nat} {p0 : Int32} {m : Mem} {rR : Int32} {mR : Mem} (h : fX8_tell a0 p0 m = some (rR, mR)) : T D 0 IX8_tell [.ref a0, .int p0] m 0 0 (Qi rR mR) := by
  refine T_of_V (by decide) (Nat.le_of_ble_eq_true rfl) ?_
  show V D 0 IX8_tell 0 [(0, .ref a0), (1, .int p0)] [] m 0 0 (Qi rR mR)
  unfold fX8_tell at h
  refine V_aload_n (pc2 := 1) dX8_tell_0 0 rfl rfl ?_
  obtain ⟨x1, e_x1, h⟩ := bS h
  refine V_gI (pc2 := 4) e_x1 dX8_tell_1 wF_8_312 ?_
  refine V_bipush (v := 60) (pc2 := 6) dX8_tell_4 (by decide) ?_
  refine V_icmp_ne (pc2 := 9) (tgt := 12) dX8_tell_6 (fun c6 => ?_) (fun c6 => ?_)
  · replace h := iF c6 h
    refine V_aload_n (pc2 := 13) dX8_tell_12 0 rfl rfl ?_
    obtain ⟨r2, e_r2, h⟩ := bS h
    refine V_gR (pc2 := 16) e_r2 dX8_tell_13 wF_8_58 ?_
    refine V_aload_n (pc2 := 17) dX8_tell_16 0 rfl rfl ?_
    obtain ⟨x3, e_x3, h⟩ := bS h
    refine V_gI (pc2 := 20) e_x3 dX8_tell_17 wF_8_312 ?_
    refine V_iload_n (pc2 := 21) dX8_tell_20 1 rfl rfl ?_
    obtain ⟨m4, e_m4, h⟩ := bS h
    refine V_stI (pc2 := 22) e_m4 dX8_tell_21 ?_
    refine V_aload_n (pc2 := 23) dX8_tell_22 0 rfl rfl ?_
    refine V_dup (pc2 := 24) dX8_tell_23 rfl ?_
    obtain ⟨x5, e_x5, h⟩ := bS h
    refine V_gI (pc2 := 27) e_x5 dX8_tell_24 wF_8_312 ?_
    refine V_iconst (v := 1) (pc2 := 28) dX8_tell_27 (by decide) ?_
    refine V_iadd (pc2 := 29) dX8_tell_28 ?_
    obtain ⟨m6, e_m6, h⟩ := bS h
    refine V_pI (pc2 := 32) e_m6 dX8_tell_29 wP_8_312 rfl rfl ?_
    refine V_aload_n (pc2 := 33) dX8_tell_32 0 rfl rfl ?_
    obtain ⟨x7, e_x7, h⟩ := bS h
    refine V_gI (pc2 := 36) e_x7 dX8_tell_33 wF_8_312 ?_
    obtain ⟨e1, e2⟩ := inj2 h
    subst e1
    subst e2
    exact V_iret dX8_tell_36 rfl ⟨rfl, rfl⟩
  · replace h := iT c6 h
    refine V_ldc (v := -1000000003) (pc2 := 11) dX8_tell_9 wconstant_8_73 ?_
    obtain ⟨e1, e2⟩ := inj2 h
    subst e1
    subst e2
    exact V_iret dX8_tell_11 rfl ⟨rfl, rfl⟩
noncomputable def fX8_setAside_b0 (p0 : Nat) (p1 : Nat) : Int32 × Mem → Option ((Int32 × Mem) ⊕ Mem) := fun (y1, m2) =>
  if (2892 : Int32) ≤ y1 then
    some (.inr m2)
  else
    (ldI m2 p0 y1).bind fun x3 =>
    (stI m2 p1 y1 x3).bind fun m4 =>
    some (.inl (y1 + (1 : Int32), m4))
noncomputable def fX8_setAside (a0 : Nat) (p0 : Nat) (p1 : Nat) (m : Mem) : Option (Mem) :=
  (loopF (fX8_setAside_b0 p0 p1) bigN ((0 : Int32), m)).bind fun m5 =>
  some m5
set_option maxRecDepth 20000 in
theorem tX8_setAside {D : Dat} {a0 : Nat} {p0 : Nat} {p1 : Nat} {m : Mem} {mR : Mem} (h : fX8_setAside a0 p0 p1 m = some mR) : T D 0 IX8_setAside [.ref a0, .ref p0, .ref p1] m 0 0 (Qv mR) := by
  refine T_of_V (by decide) (Nat.le_of_ble_eq_true rfl) ?_
  show V D 0 IX8_setAside 0 [(0, .ref a0), (1, .ref p0), (2, .ref p1)] [] m 0 0 (Qv mR)
  unfold fX8_setAside at h
  refine V_iconst (v := 0) (pc2 := 1) dX8_setAside_0 (by decide) ?_
  refine V_istore_n (pc2 := 2) (L2 := [(3, .int (0 : Int32)), (0, .ref a0), (1, .ref p0), (2, .ref p1)]) dX8_setAside_1 ?_ rfl rfl rfl
  obtain ⟨m5, hl, h⟩ := bS h
  have hJ21 : V D 0 IX8_setAside 21 [] [] m5 0 0 (Qv mR) := by
    have e1 := inj1 h
    subst e1
    exact V_vret dX8_setAside_21 rfl ⟨rfl, rfl⟩
  clear h
  have key2 : ∀ (n : Nat) (y1 : Int32) (m2 : Mem), loopF (fX8_setAside_b0 p0 p1) n (y1, m2) = some m5 → V D 0 IX8_setAside 2 [(1, .ref p0), (2, .ref p1), (3, .int y1)] [] m2 0 0 (Qv mR) := by
    intro n
    induction n with
    | zero => intro y1 m2 h; cases h
    | succ n ih =>
      intro y1 m2 h
      obtain ⟨o, h, ho⟩ := loopF_inv h
      dsimp only [fX8_setAside_b0] at h
      refine V_iload_n (pc2 := 3) dX8_setAside_2 2 rfl rfl ?_
      refine V_sipush (v := 2892) (pc2 := 6) dX8_setAside_3 (by decide) ?_
      refine V_icmp_ge (pc2 := 9) (tgt := 21) dX8_setAside_6 (fun c6 => ?_) (fun c6 => ?_)
      · replace h := iT c6 h
        have ee := inj1 h
        subst ee
        have e1 := pinj1 (loopF_e ho)
        subst e1
        exact V_lv hJ21 [] rfl
      · replace h := iF c6 h
        refine V_aload_n (pc2 := 10) dX8_setAside_9 1 rfl rfl ?_
        refine V_iload_n (pc2 := 11) dX8_setAside_10 2 rfl rfl ?_
        refine V_aload_n (pc2 := 12) dX8_setAside_11 0 rfl rfl ?_
        refine V_iload_n (pc2 := 13) dX8_setAside_12 2 rfl rfl ?_
        obtain ⟨x3, e_x3, h⟩ := bS h
        refine V_ldI (pc2 := 14) e_x3 dX8_setAside_13 ?_
        obtain ⟨m4, e_m4, h⟩ := bS h
        refine V_stI (pc2 := 15) e_m4 dX8_setAside_14 ?_
        refine V_iinc (pc2 := 18) (v := y1 + (1 : Int32)) (L2 := [(3, .int (y1 + (1 : Int32))), (1, .ref p0), (2, .ref p1)]) dX8_setAside_15 2 rfl (by rfl) ?_ rfl rfl
        refine V_goto (tgt := 2) dX8_setAside_18 ?_
        have ee := inj1 h
        subst ee
        exact V_lv (ih _ _ (loopF_c ho)) [1, 2, 0] rfl
  exact V_lv (key2 _ _ _ hl) [2, 3, 0] rfl
noncomputable def fX8_check_b1 (a0 : Nat) (x1 : Int32) (y23 : Int32) (m27 : Mem) : Int32 → Option (Int32 ⊕ Int32) := fun y28 =>
  if x1 ≤ y28 then
    some (.inr y28)
  else
    if y23 ≤ y28 then
      some (.inr y28)
    else
      (gR m27 a0 8 28).bind fun r29 =>
      (ldI m27 r29 y28).bind fun x30 =>
      (gR m27 a0 8 30).bind fun r31 =>
      (ldI m27 r31 y28).bind fun x32 =>
      if x30 = x32 then
        some (.inl (y28 + (1 : Int32)))
      else
        some (.inr y28)
noncomputable def fX8_check_b0 (a0 : Nat) (p0 : Int32) : Int32 × Int32 × Mem → Option ((Int32 × Int32 × Mem) ⊕ (Int32 × Mem)) := fun (y11, y12, m13) =>
  if p0 ≤ y12 then
    some (.inr (y11, m13))
  else
    (gR m13 a0 8 0).bind fun r14 =>
    (ldI m13 r14 (4 : Int32)).bind fun x15 =>
    if (9999 : Int32) ≤ x15 then
      some (.inr (y11, m13))
    else
      (gR m13 a0 8 30).bind fun r16 =>
      (cV m13 a0 8 (fX8_turn a0 m13)).bind fun (x17, m18) =>
      (stI m18 r16 y11 x17).bind fun m19 =>
      (gR m19 a0 8 30).bind fun r20 =>
      (cV m19 a0 8 (fX8_spread a0 m19)).bind fun x21 =>
      (stI m19 r20 (y11 + (1 : Int32)) x21).bind fun m22 =>
      some (.inl (y11 + (2 : Int32), y12 + (1 : Int32), m22))
noncomputable def fX8_check (a0 : Nat) (p0 : Int32) (m : Mem) : Option (Int32 × Mem) :=
  (gI m a0 8 29).bind fun x1 =>
  (pI m a0 8 29 (0 : Int32)).bind fun m2 =>
  (fX8_isIn p0.toInt64 (1 : Int64) (30 : Int64) m2).bind fun b3 =>
  if b3 = true then
    (gI m2 a0 8 3).bind fun x4 =>
    if x4 = 0 then
      some ((-1000000002 : Int32), m2)
    else
      (gR m2 a0 8 0).bind fun r5 =>
      (gR m2 a0 8 2).bind fun r6 =>
      (cV m2 a0 8 (fX8_setAside a0 r5 r6 m2)).bind fun m7 =>
      (gR m7 a0 8 1).bind fun r8 =>
      (gR m7 a0 8 0).bind fun r9 =>
      (cV m7 a0 8 (fX8_setAside a0 r8 r9 m7)).bind fun m10 =>
      (loopF (fX8_check_b0 a0 p0) bigN ((0 : Int32), (0 : Int32), m10)).bind fun (y23, m24) =>
      (gR m24 a0 8 2).bind fun r25 =>
      (gR m24 a0 8 0).bind fun r26 =>
      (cV m24 a0 8 (fX8_setAside a0 r25 r26 m24)).bind fun m27 =>
      (loopF (fX8_check_b1 a0 x1 y23 m27) bigN (0 : Int32)).bind fun y33 =>
      if y33 = x1 then
        if y33 = y23 then
          some ((0 : Int32), m27)
        else
          some ((1 : Int32) + y33, m27)
      else
        some ((1 : Int32) + y33, m27)
  else
    some ((-1000000001 : Int32), m2)
set_option maxRecDepth 20000 in
theorem tX8_check {D : Dat} {a0 : Nat} {p0 : Int32} {m : Mem} {rR : Int32} {mR : Mem} (h : fX8_check a0 p0 m = some (rR, mR)) : T D 7 IX8_check [.ref a0, .int p0] m 0 0 (Qi rR mR) := by
  refine T_of_V (by decide) (Nat.le_of_ble_eq_true rfl) ?_
  show V D 7 IX8_check 0 [(0, .ref a0), (1, .int p0)] [] m 0 0 (Qi rR mR)
  unfold fX8_check at h
  refine V_aload_n (pc2 := 1) dX8_check_0 0 rfl rfl ?_
  obtain ⟨x1, e_x1, h⟩ := bS h
  refine V_gI (pc2 := 4) e_x1 dX8_check_1 wF_8_312 ?_
  refine V_istore_n (pc2 := 5) (L2 := [(2, .int x1), (0, .ref a0), (1, .int p0)]) dX8_check_4 ?_ rfl rfl rfl
  refine V_aload_n (pc2 := 6) dX8_check_5 1 rfl rfl ?_
  refine V_iconst (v := 0) (pc2 := 7) dX8_check_6 (by decide) ?_
  obtain ⟨m2, e_m2, h⟩ := bS h
  refine V_pI (pc2 := 10) e_m2 dX8_check_7 wP_8_312 rfl rfl ?_
  refine V_iload_n (pc2 := 11) dX8_check_10 2 rfl rfl ?_
  refine V_i2l (pc2 := 12) dX8_check_11 rfl ?_
  refine V_lconst (v := 1) (pc2 := 13) dX8_check_12 (by decide) ?_
  refine V_ldc2 (v := 30) (pc2 := 16) dX8_check_13 wconstantLong_8_191 ?_
  obtain ⟨b3, e_b3, h⟩ := bS h
  refine V_cSi (pc2 := 19) [.long p0.toInt64, .long (1 : Int64), .long (30 : Int64)] (st := []) (tX8_isIn e_b3) dX8_check_16 wS_8_65 (by decide) rfl (Nat.le_of_ble_eq_true rfl) ?_
  refine V_ifb_ne (pc2 := 22) (tgt := 25) dX8_check_19 (fun c19 => ?_) (fun c19 => ?_)
  · replace h := iT c19 h
    refine V_aload_n (pc2 := 26) dX8_check_25 1 rfl rfl ?_
    obtain ⟨x4, e_x4, h⟩ := bS h
    refine V_gI (pc2 := 29) e_x4 dX8_check_26 wF_8_315 ?_
    refine V_if_ne (pc2 := 32) (tgt := 35) dX8_check_29 (fun c29 => ?_) (fun c29 => ?_)
    · replace h := iF c29 h
      refine V_aload_n (pc2 := 36) dX8_check_35 1 rfl rfl ?_
      refine V_aload_n (pc2 := 37) dX8_check_36 1 rfl rfl ?_
      obtain ⟨r5, e_r5, h⟩ := bS h
      refine V_gR (pc2 := 40) e_r5 dX8_check_37 wF_8_7 ?_
      refine V_aload_n (pc2 := 41) dX8_check_40 1 rfl rfl ?_
      obtain ⟨r6, e_r6, h⟩ := bS h
      refine V_gR (pc2 := 44) e_r6 dX8_check_41 wF_8_16 ?_
      obtain ⟨m7, e_m7, h⟩ := bS h
      obtain ⟨⟨fs_m7, o_m7⟩, e_m7⟩ := cV_of e_m7
      refine V_cVv (pc2 := 47) [.ref r5, .ref r6] (st := []) o_m7 (tX8_setAside e_m7) dX8_check_44 wV_8_319 (by decide) rfl (Nat.le_of_ble_eq_true rfl) ?_
      refine V_aload_n (pc2 := 48) dX8_check_47 1 rfl rfl ?_
      refine V_aload_n (pc2 := 49) dX8_check_48 1 rfl rfl ?_
      obtain ⟨r8, e_r8, h⟩ := bS h
      refine V_gR (pc2 := 52) e_r8 dX8_check_49 wF_8_13 ?_
      refine V_aload_n (pc2 := 53) dX8_check_52 1 rfl rfl ?_
      obtain ⟨r9, e_r9, h⟩ := bS h
      refine V_gR (pc2 := 56) e_r9 dX8_check_53 wF_8_7 ?_
      obtain ⟨m10, e_m10, h⟩ := bS h
      obtain ⟨⟨fs_m10, o_m10⟩, e_m10⟩ := cV_of e_m10
      refine V_cVv (pc2 := 59) [.ref r8, .ref r9] (st := []) o_m10 (tX8_setAside e_m10) dX8_check_56 wV_8_319 (by decide) rfl (Nat.le_of_ble_eq_true rfl) ?_
      refine V_iconst (v := 0) (pc2 := 60) dX8_check_59 (by decide) ?_
      refine V_istore_n (pc2 := 61) (L2 := [(3, .int (0 : Int32)), (2, .int x1), (0, .ref a0), (1, .int p0)]) dX8_check_60 ?_ rfl rfl rfl
      refine V_iconst (v := 0) (pc2 := 62) dX8_check_61 (by decide) ?_
      refine V_istore (pc2 := 64) (L2 := [(4, .int (0 : Int32)), (3, .int (0 : Int32)), (2, .int x1), (0, .ref a0), (1, .int p0)]) dX8_check_62 ?_ rfl rfl
      obtain ⟨⟨y23, m24⟩, hl, h⟩ := bS h
      try dsimp only at h
      have hJ113 : V D 7 IX8_check 113 [(0, .ref a0), (2, .int x1), (3, .int y23)] [] m24 0 0 (Qi rR mR) := by
        refine V_aload_n (pc2 := 114) dX8_check_113 0 rfl rfl ?_
        refine V_aload_n (pc2 := 115) dX8_check_114 0 rfl rfl ?_
        obtain ⟨r25, e_r25, h⟩ := bS h
        refine V_gR (pc2 := 118) e_r25 dX8_check_115 wF_8_16 ?_
        refine V_aload_n (pc2 := 119) dX8_check_118 0 rfl rfl ?_
        obtain ⟨r26, e_r26, h⟩ := bS h
        refine V_gR (pc2 := 122) e_r26 dX8_check_119 wF_8_7 ?_
        obtain ⟨m27, e_m27, h⟩ := bS h
        obtain ⟨⟨fs_m27, o_m27⟩, e_m27⟩ := cV_of e_m27
        refine V_cVv (pc2 := 125) [.ref r25, .ref r26] (st := []) o_m27 (tX8_setAside e_m27) dX8_check_122 wV_8_319 (by decide) rfl (Nat.le_of_ble_eq_true rfl) ?_
        refine V_iconst (v := 0) (pc2 := 126) dX8_check_125 (by decide) ?_
        refine V_istore (pc2 := 128) (L2 := [(4, .int (0 : Int32)), (0, .ref a0), (2, .int x1), (3, .int y23)]) dX8_check_126 ?_ rfl rfl
        obtain ⟨y33, hl, h⟩ := bS h
        have hJ163 : V D 7 IX8_check 163 [(2, .int x1), (3, .int y23), (4, .int y33)] [] m27 0 0 (Qi rR mR) := by
          refine V_iload (pc2 := 165) dX8_check_163 2 rfl ?_
          refine V_iload_n (pc2 := 166) dX8_check_165 0 rfl rfl ?_
          refine V_icmp_ne (pc2 := 169) (tgt := 179) dX8_check_166 (fun c166 => ?_) (fun c166 => ?_)
          · replace h := iF c166 h
            refine V_iconst (v := 1) (pc2 := 180) dX8_check_179 (by decide) ?_
            refine V_iload (pc2 := 182) dX8_check_180 2 rfl ?_
            refine V_iadd (pc2 := 183) dX8_check_182 ?_
            obtain ⟨e1, e2⟩ := inj2 h
            subst e1
            subst e2
            exact V_iret dX8_check_183 rfl ⟨rfl, rfl⟩
          · replace h := iT c166 h
            refine V_iload (pc2 := 171) dX8_check_169 2 rfl ?_
            refine V_iload_n (pc2 := 172) dX8_check_171 1 rfl rfl ?_
            refine V_icmp_ne (pc2 := 175) (tgt := 179) dX8_check_172 (fun c172 => ?_) (fun c172 => ?_)
            · replace h := iF c172 h
              refine V_iconst (v := 1) (pc2 := 180) dX8_check_179 (by decide) ?_
              refine V_iload (pc2 := 182) dX8_check_180 2 rfl ?_
              refine V_iadd (pc2 := 183) dX8_check_182 ?_
              obtain ⟨e1, e2⟩ := inj2 h
              subst e1
              subst e2
              exact V_iret dX8_check_183 rfl ⟨rfl, rfl⟩
            · replace h := iT c172 h
              refine V_iconst (v := 0) (pc2 := 176) dX8_check_175 (by decide) ?_
              refine V_goto (tgt := 183) dX8_check_176 ?_
              obtain ⟨e1, e2⟩ := inj2 h
              subst e1
              subst e2
              exact V_iret dX8_check_183 rfl ⟨rfl, rfl⟩
        clear h
        have key128 : ∀ (n : Nat) (y28 : Int32), loopF (fX8_check_b1 a0 x1 y23 m27) n y28 = some y33 → V D 7 IX8_check 128 [(0, .ref a0), (2, .int x1), (3, .int y23), (4, .int y28)] [] m27 0 0 (Qi rR mR) := by
          intro n
          induction n with
          | zero => intro y28 h; cases h
          | succ n ih =>
            intro y28 h
            obtain ⟨o, h, ho⟩ := loopF_inv h
            dsimp only [fX8_check_b1] at h
            refine V_iload (pc2 := 130) dX8_check_128 3 rfl ?_
            refine V_iload_n (pc2 := 131) dX8_check_130 1 rfl rfl ?_
            refine V_icmp_ge (pc2 := 134) (tgt := 163) dX8_check_131 (fun c131 => ?_) (fun c131 => ?_)
            · replace h := iT c131 h
              have ee := inj1 h
              subst ee
              have e1 := pinj1 (loopF_e ho)
              subst e1
              exact V_lv hJ163 [1, 2, 3] rfl
            · replace h := iF c131 h
              refine V_iload (pc2 := 136) dX8_check_134 3 rfl ?_
              refine V_iload_n (pc2 := 137) dX8_check_136 2 rfl rfl ?_
              refine V_icmp_ge (pc2 := 140) (tgt := 163) dX8_check_137 (fun c137 => ?_) (fun c137 => ?_)
              · replace h := iT c137 h
                have ee := inj1 h
                subst ee
                have e1 := pinj1 (loopF_e ho)
                subst e1
                exact V_lv hJ163 [1, 2, 3] rfl
              · replace h := iF c137 h
                refine V_aload_n (pc2 := 141) dX8_check_140 0 rfl rfl ?_
                obtain ⟨r29, e_r29, h⟩ := bS h
                refine V_gR (pc2 := 144) e_r29 dX8_check_141 wF_8_58 ?_
                refine V_iload (pc2 := 146) dX8_check_144 3 rfl ?_
                obtain ⟨x30, e_x30, h⟩ := bS h
                refine V_ldI (pc2 := 147) e_x30 dX8_check_146 ?_
                refine V_aload_n (pc2 := 148) dX8_check_147 0 rfl rfl ?_
                obtain ⟨r31, e_r31, h⟩ := bS h
                refine V_gR (pc2 := 151) e_r31 dX8_check_148 wF_8_61 ?_
                refine V_iload (pc2 := 153) dX8_check_151 3 rfl ?_
                obtain ⟨x32, e_x32, h⟩ := bS h
                refine V_ldI (pc2 := 154) e_x32 dX8_check_153 ?_
                refine V_icmp_ne (pc2 := 157) (tgt := 163) dX8_check_154 (fun c154 => ?_) (fun c154 => ?_)
                · replace h := iF c154 h
                  have ee := inj1 h
                  subst ee
                  have e1 := pinj1 (loopF_e ho)
                  subst e1
                  exact V_lv hJ163 [1, 2, 3] rfl
                · replace h := iT c154 h
                  refine V_iinc (pc2 := 160) (v := y28 + (1 : Int32)) (L2 := [(4, .int (y28 + (1 : Int32))), (0, .ref a0), (2, .int x1), (3, .int y23)]) dX8_check_157 3 rfl (by rfl) ?_ rfl rfl
                  refine V_goto (tgt := 128) dX8_check_160 ?_
                  have ee := inj1 h
                  subst ee
                  exact V_lv (ih _ (loopF_c ho)) [1, 2, 3, 0] rfl
        exact V_lv (key128 _ _ hl) [1, 2, 3, 0] rfl
      clear h
      have key64 : ∀ (n : Nat) (y11 : Int32) (y12 : Int32) (m13 : Mem), loopF (fX8_check_b0 a0 p0) n (y11, y12, m13) = some (y23, m24) → V D 7 IX8_check 64 [(0, .ref a0), (1, .int p0), (2, .int x1), (3, .int y11), (4, .int y12)] [] m13 0 0 (Qi rR mR) := by
        intro n
        induction n with
        | zero => intro y11 y12 m13 h; cases h
        | succ n ih =>
          intro y11 y12 m13 h
          obtain ⟨o, h, ho⟩ := loopF_inv h
          dsimp only [fX8_check_b0] at h
          refine V_iload (pc2 := 66) dX8_check_64 4 rfl ?_
          refine V_iload_n (pc2 := 67) dX8_check_66 1 rfl rfl ?_
          refine V_icmp_ge (pc2 := 70) (tgt := 113) dX8_check_67 (fun c67 => ?_) (fun c67 => ?_)
          · replace h := iT c67 h
            have ee := inj1 h
            subst ee
            obtain ⟨e1, e2⟩ := pinj2 (loopF_e ho)
            subst e1
            subst e2
            exact V_lv hJ113 [0, 2, 3] rfl
          · replace h := iF c67 h
            refine V_aload_n (pc2 := 71) dX8_check_70 0 rfl rfl ?_
            obtain ⟨r14, e_r14, h⟩ := bS h
            refine V_gR (pc2 := 74) e_r14 dX8_check_71 wF_8_7 ?_
            refine V_iconst (v := 4) (pc2 := 75) dX8_check_74 (by decide) ?_
            obtain ⟨x15, e_x15, h⟩ := bS h
            refine V_ldI (pc2 := 76) e_x15 dX8_check_75 ?_
            refine V_sipush (v := 9999) (pc2 := 79) dX8_check_76 (by decide) ?_
            refine V_icmp_ge (pc2 := 82) (tgt := 113) dX8_check_79 (fun c79 => ?_) (fun c79 => ?_)
            · replace h := iT c79 h
              have ee := inj1 h
              subst ee
              obtain ⟨e1, e2⟩ := pinj2 (loopF_e ho)
              subst e1
              subst e2
              exact V_lv hJ113 [0, 2, 3] rfl
            · replace h := iF c79 h
              refine V_aload_n (pc2 := 83) dX8_check_82 0 rfl rfl ?_
              obtain ⟨r16, e_r16, h⟩ := bS h
              refine V_gR (pc2 := 86) e_r16 dX8_check_83 wF_8_61 ?_
              refine V_iload_n (pc2 := 87) dX8_check_86 3 rfl rfl ?_
              refine V_aload_n (pc2 := 88) dX8_check_87 0 rfl rfl ?_
              obtain ⟨⟨x17, m18⟩, e_x17, h⟩ := bS h
              try dsimp only at h
              obtain ⟨⟨fs_x17, o_x17⟩, e_x17⟩ := cV_of e_x17
              refine V_cVi (pc2 := 91) [] (st := [.int y11, .ref r16]) o_x17 (tX8_turn e_x17) dX8_check_88 wV_8_172 (by decide) rfl (Nat.le_of_ble_eq_true rfl) ?_
              obtain ⟨m19, e_m19, h⟩ := bS h
              refine V_stI (pc2 := 92) e_m19 dX8_check_91 ?_
              refine V_aload_n (pc2 := 93) dX8_check_92 0 rfl rfl ?_
              obtain ⟨r20, e_r20, h⟩ := bS h
              refine V_gR (pc2 := 96) e_r20 dX8_check_93 wF_8_61 ?_
              refine V_iload_n (pc2 := 97) dX8_check_96 3 rfl rfl ?_
              refine V_iconst (v := 1) (pc2 := 98) dX8_check_97 (by decide) ?_
              refine V_iadd (pc2 := 99) dX8_check_98 ?_
              refine V_aload_n (pc2 := 100) dX8_check_99 0 rfl rfl ?_
              obtain ⟨x21, e_x21, h⟩ := bS h
              obtain ⟨⟨fs_x21, o_x21⟩, e_x21⟩ := cV_of e_x21
              refine V_cVi (pc2 := 103) [] (st := [.int (y11 + (1 : Int32)), .ref r20]) o_x21 (tX8_spread e_x21) dX8_check_100 wV_8_182 (by decide) rfl (Nat.le_of_ble_eq_true rfl) ?_
              obtain ⟨m22, e_m22, h⟩ := bS h
              refine V_stI (pc2 := 104) e_m22 dX8_check_103 ?_
              refine V_iinc (pc2 := 107) (v := y11 + (2 : Int32)) (L2 := [(3, .int (y11 + (2 : Int32))), (0, .ref a0), (1, .int p0), (2, .int x1), (4, .int y12)]) dX8_check_104 3 rfl (by rfl) ?_ rfl rfl
              refine V_iinc (pc2 := 110) (v := y12 + (1 : Int32)) (L2 := [(4, .int (y12 + (1 : Int32))), (3, .int (y11 + (2 : Int32))), (0, .ref a0), (1, .int p0), (2, .int x1)]) dX8_check_107 4 rfl (by rfl) ?_ rfl rfl
              refine V_goto (tgt := 64) dX8_check_110 ?_
              have ee := inj1 h
              subst ee
              exact V_lv (ih _ _ _ (loopF_c ho)) [2, 3, 4, 1, 0] rfl
      exact V_lv (key64 _ _ _ _ hl) [3, 4, 2, 1, 0] rfl
    · replace h := iT c29 h
      refine V_ldc (v := -1000000002) (pc2 := 34) dX8_check_32 wconstant_8_175 ?_
      obtain ⟨e1, e2⟩ := inj2 h
      subst e1
      subst e2
      exact V_iret dX8_check_34 rfl ⟨rfl, rfl⟩
  · replace h := iF c19 h
    refine V_ldc (v := -1000000001) (pc2 := 24) dX8_check_22 wconstant_8_72 ?_
    obtain ⟨e1, e2⟩ := inj2 h
    subst e1
    subst e2
    exact V_iret dX8_check_24 rfl ⟨rfl, rfl⟩
