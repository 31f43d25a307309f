noncomputable def fX7_reads_b0 (a0 : Nat) (m : Mem) (r3 : Nat) : Int32 → Option (Int32 ⊕ Int32) := fun y5 =>
  (gI m r3 3 1).bind fun x6 =>
  if x6 ≤ y5 then
    some (.inr (-1000000005 : Int32))
  else
    (gR m a0 7 0).bind fun r7 =>
    (cV m r7 2 (fX2_isChild r7 y5 m)).bind fun b8 =>
    (
      if b8 = true then
        (gR m r3 3 2).bind fun r9 =>
        (ldI m r9 y5).bind fun x10 =>
        (gR m a0 7 0).bind fun r11 =>
        (gR m r11 2 0).bind fun r12 =>
        (ldR m r12 1 y5).bind fun r13 =>
        (gI m r13 0 1).bind fun x14 =>
        if x10 = x14 then
          some (1 : Int32)
        else
          some (0 : Int32)
      else
        some (0 : Int32)).bind fun y15 =>
    (cV m r3 3 (fX3_isNumber r3 y5 m)).bind fun b16 =>
    if b16 = true then
      if y15 = 0 then
        some (.inr y5)
      else
        some (.inl (y5 + (1 : Int32)))
    else
      some (.inl (y5 + (1 : Int32)))
noncomputable def fX7_reads (a0 : Nat) (p0 : Int32) (m : Mem) : Option (Int32) :=
  (fX7_isSheet p0 m).bind fun b1 =>
  if b1 = true then
    (gR m a0 7 5).bind fun r2 =>
    (ldR m r2 4 p0).bind fun r3 =>
    (gI m r3 3 0).bind fun x4 =>
    if x4 = (-1 : Int32) then
      some (-1000000011 : Int32)
    else
      loopF (fX7_reads_b0 a0 m r3) bigN (0 : Int32)
  else
    some (-1000000001 : Int32)
set_option maxRecDepth 20000 in
theorem tX7_reads {D : Dat} {a0 : Nat} {p0 : Int32} {m : Mem} {rR : Int32} (h : fX7_reads a0 p0 m = some rR) : T D 2 IX7_reads [.ref a0, .int p0] m 0 0 (Qi rR m) := by
  refine T_of_V (by decide) (Nat.le_of_ble_eq_true rfl) ?_
  show V D 2 IX7_reads 0 [(0, .ref a0), (1, .int p0)] [] m 0 0 (Qi rR m)
  unfold fX7_reads at h
  refine V_iload_n (pc2 := 1) dX7_reads_0 1 rfl rfl ?_
  obtain ⟨b1, e_b1, h⟩ := bS h
  refine V_cSi (pc2 := 4) [.int p0] (st := []) (tX7_isSheet e_b1) dX7_reads_1 wS_7_206 (by decide) rfl (Nat.le_of_ble_eq_true rfl) ?_
  refine V_ifb_ne (pc2 := 7) (tgt := 10) dX7_reads_4 (fun c4 => ?_) (fun c4 => ?_)
  · replace h := iT c4 h
    refine V_aload_n (pc2 := 11) dX7_reads_10 0 rfl rfl ?_
    obtain ⟨r2, e_r2, h⟩ := bS h
    refine V_gR (pc2 := 14) e_r2 dX7_reads_11 wF_7_31 ?_
    refine V_iload_n (pc2 := 15) dX7_reads_14 1 rfl rfl ?_
    obtain ⟨r3, e_r3, h⟩ := bS h
    refine V_ldR (pc2 := 16) e_r3 dX7_reads_15 rfl ?_
    refine V_astore_n (pc2 := 17) (L2 := [(2, .ref r3), (0, .ref a0), (1, .int p0)]) dX7_reads_16 ?_ rfl rfl rfl
    refine V_aload_n (pc2 := 18) dX7_reads_17 0 rfl rfl ?_
    obtain ⟨x4, e_x4, h⟩ := bS h
    refine V_gI (pc2 := 21) e_x4 dX7_reads_18 wF_7_209 ?_
    refine V_iconst (v := -1) (pc2 := 22) dX7_reads_21 (by decide) ?_
    refine V_icmp_ne (pc2 := 25) (tgt := 28) dX7_reads_22 (fun c22 => ?_) (fun c22 => ?_)
    · replace h := iF c22 h
      refine V_iconst (v := 0) (pc2 := 29) dX7_reads_28 (by decide) ?_
      refine V_istore_n (pc2 := 30) (L2 := [(3, .int (0 : Int32)), (2, .ref r3), (0, .ref a0), (1, .int p0)]) dX7_reads_29 ?_ rfl rfl rfl
      have hl := h
      clear h
      have key30 : ∀ (n : Nat) (y5 : Int32), loopF (fX7_reads_b0 a0 m r3) n y5 = some rR → V D 2 IX7_reads 30 [(0, .ref a0), (2, .ref r3), (3, .int y5)] [] m 0 0 (Qi rR m) := by
        intro n
        induction n with
        | zero => intro y5 h; cases h
        | succ n ih =>
          intro y5 h
          obtain ⟨o, h, ho⟩ := loopF_inv h
          dsimp only [fX7_reads_b0] at h
          refine V_iload_n (pc2 := 31) dX7_reads_30 2 rfl rfl ?_
          refine V_aload_n (pc2 := 32) dX7_reads_31 1 rfl rfl ?_
          obtain ⟨x6, e_x6, h⟩ := bS h
          refine V_gI (pc2 := 35) e_x6 dX7_reads_32 wF_7_221 ?_
          refine V_icmp_ge (pc2 := 38) (tgt := 98) dX7_reads_35 (fun c35 => ?_) (fun c35 => ?_)
          · replace h := iT c35 h
            refine V_ldc (v := -1000000005) (pc2 := 100) dX7_reads_98 wconstant_7_202 ?_
            have ee := inj1 h
            subst ee
            have e1 := pinj1 (loopF_e ho)
            subst e1
            exact V_iret dX7_reads_100 rfl ⟨rfl, rfl⟩
          · replace h := iF c35 h
            refine V_aload_n (pc2 := 39) dX7_reads_38 0 rfl rfl ?_
            obtain ⟨r7, e_r7, h⟩ := bS h
            refine V_gR (pc2 := 42) e_r7 dX7_reads_39 wF_7_10 ?_
            refine V_iload_n (pc2 := 43) dX7_reads_42 2 rfl rfl ?_
            obtain ⟨b8, e_b8, h⟩ := bS h
            obtain ⟨⟨fs_b8, o_b8⟩, e_b8⟩ := cV_of e_b8
            refine V_cVi (pc2 := 46) [.int y5] (st := []) o_b8 (tX2_isChild e_b8) dX7_reads_43 wV_7_72 (by decide) rfl (Nat.le_of_ble_eq_true rfl) ?_
            obtain ⟨y15, hb, h⟩ := bS h
            have hJ75 : V D 2 IX7_reads 75 [(0, .ref a0), (2, .ref r3), (3, .int y5)] [.int y15] m 0 0 (Qi rR m) := by
              refine V_istore (pc2 := 77) (L2 := [(4, .int y15), (0, .ref a0), (2, .ref r3), (3, .int y5)]) dX7_reads_75 ?_ rfl rfl
              refine V_aload_n (pc2 := 78) dX7_reads_77 2 rfl rfl ?_
              refine V_iload_n (pc2 := 79) dX7_reads_78 3 rfl rfl ?_
              obtain ⟨b16, e_b16, h⟩ := bS h
              obtain ⟨⟨fs_b16, o_b16⟩, e_b16⟩ := cV_of e_b16
              refine V_cVi (pc2 := 82) [.int y5] (st := []) o_b16 (tX3_isNumber e_b16) dX7_reads_79 wV_7_224 (by decide) rfl (Nat.le_of_ble_eq_true rfl) ?_
              refine V_ifb_eq (pc2 := 85) (tgt := 92) dX7_reads_82 (fun c82 => ?_) (fun c82 => ?_)
              · replace h := iF c82 h
                refine V_iinc (pc2 := 95) (v := y5 + (1 : Int32)) (L2 := [(3, .int (y5 + (1 : Int32))), (4, .int y15), (0, .ref a0), (2, .ref r3)]) dX7_reads_92 3 rfl (by rfl) ?_ rfl rfl
                refine V_goto (tgt := 30) dX7_reads_95 ?_
                have ee := inj1 h
                subst ee
                exact V_lv (ih _ (loopF_c ho)) [2, 3, 0] rfl
              · replace h := iT c82 h
                refine V_iload (pc2 := 87) dX7_reads_85 0 rfl ?_
                refine V_if_ne (pc2 := 90) (tgt := 92) dX7_reads_87 (fun c87 => ?_) (fun c87 => ?_)
                · replace h := iF c87 h
                  refine V_iinc (pc2 := 95) (v := y5 + (1 : Int32)) (L2 := [(3, .int (y5 + (1 : Int32))), (4, .int y15), (0, .ref a0), (2, .ref r3)]) dX7_reads_92 3 rfl (by rfl) ?_ rfl rfl
                  refine V_goto (tgt := 30) dX7_reads_95 ?_
                  have ee := inj1 h
                  subst ee
                  exact V_lv (ih _ (loopF_c ho)) [2, 3, 0] rfl
                · replace h := iT c87 h
                  refine V_iload_n (pc2 := 91) dX7_reads_90 3 rfl rfl ?_
                  have ee := inj1 h
                  subst ee
                  have e1 := pinj1 (loopF_e ho)
                  subst e1
                  exact V_iret dX7_reads_91 rfl ⟨rfl, rfl⟩
            clear h
            have h := hb
            clear hb
            refine V_ifb_eq (pc2 := 49) (tgt := 74) dX7_reads_46 (fun c46 => ?_) (fun c46 => ?_)
            · replace h := iF c46 h
              refine V_iconst (v := 0) (pc2 := 75) dX7_reads_74 (by decide) ?_
              have e1 := inj1 h
              subst e1
              exact hJ75
            · replace h := iT c46 h
              refine V_aload_n (pc2 := 50) dX7_reads_49 1 rfl rfl ?_
              obtain ⟨r9, e_r9, h⟩ := bS h
              refine V_gR (pc2 := 53) e_r9 dX7_reads_50 wF_7_227 ?_
              refine V_iload_n (pc2 := 54) dX7_reads_53 2 rfl rfl ?_
              obtain ⟨x10, e_x10, h⟩ := bS h
              refine V_ldI (pc2 := 55) e_x10 dX7_reads_54 ?_
              refine V_aload_n (pc2 := 56) dX7_reads_55 0 rfl rfl ?_
              obtain ⟨r11, e_r11, h⟩ := bS h
              refine V_gR (pc2 := 59) e_r11 dX7_reads_56 wF_7_10 ?_
              obtain ⟨r12, e_r12, h⟩ := bS h
              refine V_gR (pc2 := 62) e_r12 dX7_reads_59 wF_7_57 ?_
              refine V_iload_n (pc2 := 63) dX7_reads_62 2 rfl rfl ?_
              obtain ⟨r13, e_r13, h⟩ := bS h
              refine V_ldR (pc2 := 64) e_r13 dX7_reads_63 rfl ?_
              obtain ⟨x14, e_x14, h⟩ := bS h
              refine V_gI (pc2 := 67) e_x14 dX7_reads_64 wF_7_66 ?_
              refine V_icmp_ne (pc2 := 70) (tgt := 74) dX7_reads_67 (fun c67 => ?_) (fun c67 => ?_)
              · replace h := iF c67 h
                refine V_iconst (v := 0) (pc2 := 75) dX7_reads_74 (by decide) ?_
                have e1 := inj1 h
                subst e1
                exact hJ75
              · replace h := iT c67 h
                refine V_iconst (v := 1) (pc2 := 71) dX7_reads_70 (by decide) ?_
                refine V_goto (tgt := 75) dX7_reads_71 ?_
                have e1 := inj1 h
                subst e1
                exact hJ75
      exact V_lv (key30 _ _ hl) [2, 1, 0] rfl
    · replace h := iT c22 h
      refine V_ldc (v := -1000000011) (pc2 := 27) dX7_reads_25 wconstant_7_212 ?_
      have e1 := inj1 h
      subst e1
      exact V_iret dX7_reads_27 rfl ⟨rfl, rfl⟩
  · replace h := iF c4 h
    refine V_ldc (v := -1000000001) (pc2 := 9) dX7_reads_7 wconstant_7_51 ?_
    have e1 := inj1 h
    subst e1
    exact V_iret dX7_reads_9 rfl ⟨rfl, rfl⟩
noncomputable def fX3_hasPlaces (a0 : Nat) (p0 : Int32) (p1 : Int32) (m : Mem) : Option (Bool) :=
  (gI m a0 3 1).bind fun x1 =>
  (fX7_within p1 (0 : Int32) x1 m).bind fun b2 =>
  if b2 = true then
    (gI m a0 3 1).bind fun x3 =>
    (fX7_within p0 (0 : Int32) (x3 - p1) m).bind fun b4 =>
    if b4 = true then
      some true
    else
      some false
  else
    some false
set_option maxRecDepth 20000 in
theorem tX3_hasPlaces {D : Dat} {a0 : Nat} {p0 : Int32} {p1 : Int32} {m : Mem} {rR : Bool} (h : fX3_hasPlaces a0 p0 p1 m = some rR) : T D 1 IX3_hasPlaces [.ref a0, .int p0, .int p1] m 0 0 (Qi (zb rR) m) := by
  refine T_of_V (by decide) (Nat.le_of_ble_eq_true rfl) ?_
  show V D 1 IX3_hasPlaces 0 [(0, .ref a0), (1, .int p0), (2, .int p1)] [] m 0 0 (Qi (zb rR) m)
  unfold fX3_hasPlaces at h
  refine V_iload_n (pc2 := 1) dX3_hasPlaces_0 2 rfl rfl ?_
  refine V_iconst (v := 0) (pc2 := 2) dX3_hasPlaces_1 (by decide) ?_
  refine V_aload_n (pc2 := 3) dX3_hasPlaces_2 0 rfl rfl ?_
  obtain ⟨x1, e_x1, h⟩ := bS h
  refine V_gI (pc2 := 6) e_x1 dX3_hasPlaces_3 wF_3_19 ?_
  obtain ⟨b2, e_b2, h⟩ := bS h
  refine V_cNi (pc2 := 9) [.int p1, .int (0 : Int32), .int x1] (st := []) (tX7_within e_b2) dX3_hasPlaces_6 wN_3_34 (by decide) rfl (Nat.le_of_ble_eq_true rfl) ?_
  refine V_ifb_eq (pc2 := 12) (tgt := 30) dX3_hasPlaces_9 (fun c9 => ?_) (fun c9 => ?_)
  · replace h := iF c9 h
    refine V_iconst (v := 0) (pc2 := 31) dX3_hasPlaces_30 (by decide) ?_
    have e1 := inj1 h
    subst e1
    exact V_bret (b := false) dX3_hasPlaces_31 rfl ⟨rfl, rfl⟩
  · replace h := iT c9 h
    refine V_iload_n (pc2 := 13) dX3_hasPlaces_12 1 rfl rfl ?_
    refine V_iconst (v := 0) (pc2 := 14) dX3_hasPlaces_13 (by decide) ?_
    refine V_aload_n (pc2 := 15) dX3_hasPlaces_14 0 rfl rfl ?_
    obtain ⟨x3, e_x3, h⟩ := bS h
    refine V_gI (pc2 := 18) e_x3 dX3_hasPlaces_15 wF_3_19 ?_
    refine V_iload_n (pc2 := 19) dX3_hasPlaces_18 2 rfl rfl ?_
    refine V_isub (pc2 := 20) dX3_hasPlaces_19 ?_
    obtain ⟨b4, e_b4, h⟩ := bS h
    refine V_cNi (pc2 := 23) [.int p0, .int (0 : Int32), .int (x3 - p1)] (st := []) (tX7_within e_b4) dX3_hasPlaces_20 wN_3_34 (by decide) rfl (Nat.le_of_ble_eq_true rfl) ?_
    refine V_ifb_eq (pc2 := 26) (tgt := 30) dX3_hasPlaces_23 (fun c23 => ?_) (fun c23 => ?_)
    · replace h := iF c23 h
      refine V_iconst (v := 0) (pc2 := 31) dX3_hasPlaces_30 (by decide) ?_
      have e1 := inj1 h
      subst e1
      exact V_bret (b := false) dX3_hasPlaces_31 rfl ⟨rfl, rfl⟩
    · replace h := iT c23 h
      refine V_iconst (v := 1) (pc2 := 27) dX3_hasPlaces_26 (by decide) ?_
      refine V_goto (tgt := 31) dX3_hasPlaces_27 ?_
      have e1 := inj1 h
      subst e1
      exact V_bret (b := true) dX3_hasPlaces_31 rfl ⟨rfl, rfl⟩
noncomputable def fX7_copy (a0 : Nat) (p0 : Int32) (p1 : Int32) (p2 : Int32) (p3 : Int32) (p4 : Int32) (m : Mem) : Option (Int32 × Mem) :=
  (fX7_isSheet p0 m).bind fun b1 =>
  if b1 = true then
    (fX7_isSheet p2 m).bind fun b2 =>
    if b2 = true then
      (gR m a0 7 5).bind fun r3 =>
      (ldR m r3 4 p0).bind fun r4 =>
      (gR m a0 7 5).bind fun r5 =>
      (ldR m r5 4 p2).bind fun r6 =>
      (gI m r4 3 0).bind fun x7 =>
      if x7 = (-1 : Int32) then
        some ((-1000000011 : Int32), m)
      else
        (gI m r6 3 0).bind fun x8 =>
        if x8 = (-1 : Int32) then
          some ((-1000000011 : Int32), m)
        else
          (gI m r4 3 0).bind fun x9 =>
          (gI m r6 3 0).bind fun x10 =>
          if x9 = x10 then
            (cV m r4 3 (fX3_hasPlaces r4 p1 p4 m)).bind fun b11 =>
            if b11 = true then
              (cV m r6 3 (fX3_hasPlaces r6 p3 p4 m)).bind fun b12 =>
              if b12 = true then
                (gR m r4 3 2).bind fun r13 =>
                (gR m r6 3 2).bind fun r14 =>
                (cpI m r13 p1 r14 p3 p4).bind fun m15 =>
                some (p4, m15)
              else
                some ((-1000000013 : Int32), m)
            else
              some ((-1000000013 : Int32), m)
          else
            some ((-1000000012 : Int32), m)
    else
      some ((-1000000001 : Int32), m)
  else
    some ((-1000000001 : Int32), m)
set_option maxRecDepth 20000 in
theorem tX7_copy {D : Dat} {a0 : Nat} {p0 : Int32} {p1 : Int32} {p2 : Int32} {p3 : Int32} {p4 : Int32} {m : Mem} {rR : Int32} {mR : Mem} (h : fX7_copy a0 p0 p1 p2 p3 p4 m = some (rR, mR)) : T D 2 IX7_copy [.ref a0, .int p0, .int p1, .int p2, .int p3, .int p4] m 0 0 (Qi rR mR) := by
  refine T_of_V (by decide) (Nat.le_of_ble_eq_true rfl) ?_
  show V D 2 IX7_copy 0 [(0, .ref a0), (1, .int p0), (2, .int p1), (3, .int p2), (4, .int p3), (5, .int p4)] [] m 0 0 (Qi rR mR)
  unfold fX7_copy at h
  refine V_iload_n (pc2 := 1) dX7_copy_0 1 rfl rfl ?_
  obtain ⟨b1, e_b1, h⟩ := bS h
  refine V_cSi (pc2 := 4) [.int p0] (st := []) (tX7_isSheet e_b1) dX7_copy_1 wS_7_206 (by decide) rfl (Nat.le_of_ble_eq_true rfl) ?_
  refine V_ifb_eq (pc2 := 7) (tgt := 14) dX7_copy_4 (fun c4 => ?_) (fun c4 => ?_)
  · replace h := iF c4 h
    refine V_ldc (v := -1000000001) (pc2 := 16) dX7_copy_14 wconstant_7_51 ?_
    obtain ⟨e1, e2⟩ := inj2 h
    subst e1
    subst e2
    exact V_iret dX7_copy_16 rfl ⟨rfl, rfl⟩
  · replace h := iT c4 h
    refine V_iload_n (pc2 := 8) dX7_copy_7 3 rfl rfl ?_
    obtain ⟨b2, e_b2, h⟩ := bS h
    refine V_cSi (pc2 := 11) [.int p2] (st := []) (tX7_isSheet e_b2) dX7_copy_8 wS_7_206 (by decide) rfl (Nat.le_of_ble_eq_true rfl) ?_
    refine V_ifb_ne (pc2 := 14) (tgt := 17) dX7_copy_11 (fun c11 => ?_) (fun c11 => ?_)
    · replace h := iT c11 h
      refine V_aload_n (pc2 := 18) dX7_copy_17 0 rfl rfl ?_
      obtain ⟨r3, e_r3, h⟩ := bS h
      refine V_gR (pc2 := 21) e_r3 dX7_copy_18 wF_7_31 ?_
      refine V_iload_n (pc2 := 22) dX7_copy_21 1 rfl rfl ?_
      obtain ⟨r4, e_r4, h⟩ := bS h
      refine V_ldR (pc2 := 23) e_r4 dX7_copy_22 rfl ?_
      refine V_astore (pc2 := 25) (L2 := [(6, .ref r4), (0, .ref a0), (1, .int p0), (2, .int p1), (3, .int p2), (4, .int p3), (5, .int p4)]) dX7_copy_23 ?_ rfl rfl
      refine V_aload_n (pc2 := 26) dX7_copy_25 1 rfl rfl ?_
      obtain ⟨r5, e_r5, h⟩ := bS h
      refine V_gR (pc2 := 29) e_r5 dX7_copy_26 wF_7_31 ?_
      refine V_iload_n (pc2 := 30) dX7_copy_29 4 rfl rfl ?_
      obtain ⟨r6, e_r6, h⟩ := bS h
      refine V_ldR (pc2 := 31) e_r6 dX7_copy_30 rfl ?_
      refine V_astore (pc2 := 33) (L2 := [(7, .ref r6), (6, .ref r4), (0, .ref a0), (1, .int p0), (2, .int p1), (3, .int p2), (4, .int p3), (5, .int p4)]) dX7_copy_31 ?_ rfl rfl
      refine V_aload (pc2 := 35) dX7_copy_33 1 rfl ?_
      obtain ⟨x7, e_x7, h⟩ := bS h
      refine V_gI (pc2 := 38) e_x7 dX7_copy_35 wF_7_209 ?_
      refine V_iconst (v := -1) (pc2 := 39) dX7_copy_38 (by decide) ?_
      refine V_icmp_eq (pc2 := 42) (tgt := 51) dX7_copy_39 (fun c39 => ?_) (fun c39 => ?_)
      · replace h := iT c39 h
        refine V_ldc (v := -1000000011) (pc2 := 53) dX7_copy_51 wconstant_7_212 ?_
        obtain ⟨e1, e2⟩ := inj2 h
        subst e1
        subst e2
        exact V_iret dX7_copy_53 rfl ⟨rfl, rfl⟩
      · replace h := iF c39 h
        refine V_aload (pc2 := 44) dX7_copy_42 0 rfl ?_
        obtain ⟨x8, e_x8, h⟩ := bS h
        refine V_gI (pc2 := 47) e_x8 dX7_copy_44 wF_7_209 ?_
        refine V_iconst (v := -1) (pc2 := 48) dX7_copy_47 (by decide) ?_
        refine V_icmp_ne (pc2 := 51) (tgt := 54) dX7_copy_48 (fun c48 => ?_) (fun c48 => ?_)
        · replace h := iF c48 h
          refine V_aload (pc2 := 56) dX7_copy_54 1 rfl ?_
          obtain ⟨x9, e_x9, h⟩ := bS h
          refine V_gI (pc2 := 59) e_x9 dX7_copy_56 wF_7_209 ?_
          refine V_aload (pc2 := 61) dX7_copy_59 0 rfl ?_
          obtain ⟨x10, e_x10, h⟩ := bS h
          refine V_gI (pc2 := 64) e_x10 dX7_copy_61 wF_7_209 ?_
          refine V_icmp_eq (pc2 := 67) (tgt := 70) dX7_copy_64 (fun c64 => ?_) (fun c64 => ?_)
          · replace h := iT c64 h
            refine V_aload (pc2 := 72) dX7_copy_70 1 rfl ?_
            refine V_iload_n (pc2 := 73) dX7_copy_72 4 rfl rfl ?_
            refine V_iload (pc2 := 75) dX7_copy_73 7 rfl ?_
            obtain ⟨b11, e_b11, h⟩ := bS h
            obtain ⟨⟨fs_b11, o_b11⟩, e_b11⟩ := cV_of e_b11
            refine V_cVi (pc2 := 78) [.int p1, .int p4] (st := []) o_b11 (tX3_hasPlaces e_b11) dX7_copy_75 wV_7_278 (by decide) rfl (Nat.le_of_ble_eq_true rfl) ?_
            refine V_ifb_eq (pc2 := 81) (tgt := 93) dX7_copy_78 (fun c78 => ?_) (fun c78 => ?_)
            · replace h := iF c78 h
              refine V_ldcw (v := -1000000013) (pc2 := 96) dX7_copy_93 wconstant_7_271 ?_
              obtain ⟨e1, e2⟩ := inj2 h
              subst e1
              subst e2
              exact V_iret dX7_copy_96 rfl ⟨rfl, rfl⟩
            · replace h := iT c78 h
              refine V_aload (pc2 := 83) dX7_copy_81 0 rfl ?_
              refine V_iload (pc2 := 85) dX7_copy_83 6 rfl ?_
              refine V_iload (pc2 := 87) dX7_copy_85 7 rfl ?_
              obtain ⟨b12, e_b12, h⟩ := bS h
              obtain ⟨⟨fs_b12, o_b12⟩, e_b12⟩ := cV_of e_b12
              refine V_cVi (pc2 := 90) [.int p3, .int p4] (st := []) o_b12 (tX3_hasPlaces e_b12) dX7_copy_87 wV_7_278 (by decide) rfl (Nat.le_of_ble_eq_true rfl) ?_
              refine V_ifb_ne (pc2 := 93) (tgt := 97) dX7_copy_90 (fun c90 => ?_) (fun c90 => ?_)
              · replace h := iT c90 h
                refine V_aload (pc2 := 99) dX7_copy_97 1 rfl ?_
                obtain ⟨r13, e_r13, h⟩ := bS h
                refine V_gR (pc2 := 102) e_r13 dX7_copy_99 wF_7_227 ?_
                refine V_iload_n (pc2 := 103) dX7_copy_102 4 rfl rfl ?_
                refine V_aload (pc2 := 105) dX7_copy_103 0 rfl ?_
                obtain ⟨r14, e_r14, h⟩ := bS h
                refine V_gR (pc2 := 108) e_r14 dX7_copy_105 wF_7_227 ?_
                refine V_iload (pc2 := 110) dX7_copy_108 6 rfl ?_
                refine V_iload (pc2 := 112) dX7_copy_110 7 rfl ?_
                obtain ⟨m15, e_m15, h⟩ := bS h
                refine V_cpI (pc2 := 115) e_m15 dX7_copy_112 (by decide) (Nat.le_of_ble_eq_true rfl) wmethodLink_7_282 clk ?_
                refine V_iload (pc2 := 117) dX7_copy_115 7 rfl ?_
                obtain ⟨e1, e2⟩ := inj2 h
                subst e1
                subst e2
                exact V_iret dX7_copy_117 rfl ⟨rfl, rfl⟩
              · replace h := iF c90 h
                refine V_ldcw (v := -1000000013) (pc2 := 96) dX7_copy_93 wconstant_7_271 ?_
                obtain ⟨e1, e2⟩ := inj2 h
                subst e1
                subst e2
                exact V_iret dX7_copy_96 rfl ⟨rfl, rfl⟩
          · replace h := iF c64 h
            refine V_ldc (v := -1000000012) (pc2 := 69) dX7_copy_67 wconstant_7_141 ?_
            obtain ⟨e1, e2⟩ := inj2 h
            subst e1
            subst e2
            exact V_iret dX7_copy_69 rfl ⟨rfl, rfl⟩
        · replace h := iT c48 h
          refine V_ldc (v := -1000000011) (pc2 := 53) dX7_copy_51 wconstant_7_212 ?_
          obtain ⟨e1, e2⟩ := inj2 h
          subst e1
          subst e2
          exact V_iret dX7_copy_53 rfl ⟨rfl, rfl⟩
    · replace h := iF c11 h
      refine V_ldc (v := -1000000001) (pc2 := 16) dX7_copy_14 wconstant_7_51 ?_
      obtain ⟨e1, e2⟩ := inj2 h
      subst e1
      subst e2
      exact V_iret dX7_copy_16 rfl ⟨rfl, rfl⟩
noncomputable def fX3_become (a0 : Nat) (p0 : Nat) (m : Mem) : Option (Mem) :=
  (gI m p0 3 0).bind fun x1 =>
  (pI m a0 3 0 x1).bind fun m2 =>
  (gI m2 p0 3 1).bind fun x3 =>
  (pI m2 a0 3 1 x3).bind fun m4 =>
  (gR m4 p0 3 2).bind fun r5 =>
  (gR m4 a0 3 2).bind fun r6 =>
  (cpI m4 r5 (0 : Int32) r6 (0 : Int32) (24 : Int32)).bind fun m7 =>
  some m7
set_option maxRecDepth 20000 in
theorem tX3_become {D : Dat} {a0 : Nat} {p0 : Nat} {m : Mem} {mR : Mem} (h : fX3_become a0 p0 m = some mR) : T D 2 IX3_become [.ref a0, .ref p0] m 0 0 (Qv mR) := by
  refine T_of_V (by decide) (Nat.le_of_ble_eq_true rfl) ?_
  show V D 2 IX3_become 0 [(0, .ref a0), (1, .ref p0)] [] m 0 0 (Qv mR)
  unfold fX3_become at h
  refine V_aload_n (pc2 := 1) dX3_become_0 0 rfl rfl ?_
  refine V_aload_n (pc2 := 2) dX3_become_1 1 rfl rfl ?_
  obtain ⟨x1, e_x1, h⟩ := bS h
  refine V_gI (pc2 := 5) e_x1 dX3_become_2 wF_3_9 ?_
  obtain ⟨m2, e_m2, h⟩ := bS h
  refine V_pI (pc2 := 8) e_m2 dX3_become_5 wP_3_9 rfl rfl ?_
  refine V_aload_n (pc2 := 9) dX3_become_8 0 rfl rfl ?_
  refine V_aload_n (pc2 := 10) dX3_become_9 1 rfl rfl ?_
  obtain ⟨x3, e_x3, h⟩ := bS h
  refine V_gI (pc2 := 13) e_x3 dX3_become_10 wF_3_19 ?_
  obtain ⟨m4, e_m4, h⟩ := bS h
  refine V_pI (pc2 := 16) e_m4 dX3_become_13 wP_3_19 rfl rfl ?_
  refine V_aload_n (pc2 := 17) dX3_become_16 1 rfl rfl ?_
  obtain ⟨r5, e_r5, h⟩ := bS h
  refine V_gR (pc2 := 20) e_r5 dX3_become_17 wF_3_15 ?_
  refine V_iconst (v := 0) (pc2 := 21) dX3_become_20 (by decide) ?_
  refine V_aload_n (pc2 := 22) dX3_become_21 0 rfl rfl ?_
  obtain ⟨r6, e_r6, h⟩ := bS h
  refine V_gR (pc2 := 25) e_r6 dX3_become_22 wF_3_15 ?_
  refine V_iconst (v := 0) (pc2 := 26) dX3_become_25 (by decide) ?_
  refine V_bipush (v := 24) (pc2 := 28) dX3_become_26 (by decide) ?_
  obtain ⟨m7, e_m7, h⟩ := bS h
  refine V_cpI (pc2 := 31) e_m7 dX3_become_28 (by decide) (Nat.le_of_ble_eq_true rfl) wmethodLink_3_28 clk ?_
  have e1 := inj1 h
  subst e1
  exact V_vret dX3_become_31 rfl ⟨rfl, rfl⟩
noncomputable def fX7_isSlot (p0 : Int32) (m : Mem) : Option (Bool) :=
  (fX7_within p0 (0 : Int32) (4 : Int32) m).bind fun b1 =>
  some b1
set_option maxRecDepth 20000 in
theorem tX7_isSlot {D : Dat} {p0 : Int32} {m : Mem} {rR : Bool} (h : fX7_isSlot p0 m = some rR) : T D 1 IX7_isSlot [.int p0] m 0 0 (Qi (zb rR) m) := by
  refine T_of_V (by decide) (Nat.le_of_ble_eq_true rfl) ?_
  show V D 1 IX7_isSlot 0 [(0, .int p0)] [] m 0 0 (Qi (zb rR) m)
  unfold fX7_isSlot at h
  refine V_iload_n (pc2 := 1) dX7_isSlot_0 0 rfl rfl ?_
  refine V_iconst (v := 0) (pc2 := 2) dX7_isSlot_1 (by decide) ?_
  refine V_iconst (v := 4) (pc2 := 3) dX7_isSlot_2 (by decide) ?_
  obtain ⟨b1, e_b1, h⟩ := bS h
  refine V_cSi (pc2 := 6) [.int p0, .int (0 : Int32), .int (4 : Int32)] (st := []) (tX7_within e_b1) dX7_isSlot_3 wS_7_47 (by decide) rfl (Nat.le_of_ble_eq_true rfl) ?_
  have e1 := inj1 h
  subst e1
  exact V_bret (b := b1) dX7_isSlot_6 rfl ⟨rfl, rfl⟩
noncomputable def fX7_lay (a0 : Nat) (p0 : Int32) (p1 : Int32) (p2 : Int32) (m : Mem) : Option (Int32 × Mem) :=
  (fX7_isSlot p0 m).bind fun b1 =>
  if b1 = true then
    (fX7_within p1 (0 : Int32) (3 : Int32) m).bind fun b2 =>
    if b2 = true then
      if p1 = (1 : Int32) then
        (gR m a0 7 0).bind fun r66 =>
        (cV m r66 2 (fX2_isStop r66 p2 m)).bind fun b67 =>
        if b67 = true then
          if p1 = (2 : Int32) then
            (fX7_isSheet p2 m).bind fun b99 =>
            if b99 = true then
              if p1 = (2 : Int32) then
                (gR m a0 7 5).bind fun r114 =>
                (ldR m r114 4 p2).bind fun r115 =>
                (gI m r115 3 0).bind fun x116 =>
                if x116 = (-1 : Int32) then
                  some ((-1000000011 : Int32), m)
                else
                  (gR m a0 7 6).bind fun r117 =>
                  (ldR m r117 5 p0).bind fun r118 =>
                  (gI m r118 4 0).bind fun x119 =>
                  (pI m r118 4 0 p1).bind fun m120 =>
                  if p1 = (1 : Int32) then
                    (gR m120 r118 4 1).bind fun r126 =>
                    (gR m120 a0 7 0).bind fun r127 =>
                    (gR m120 r127 2 4).bind fun r128 =>
                    (ldR m120 r128 2 p2).bind fun r129 =>
                    (cV m120 r126 5 (fX5_become r126 r129 m120)).bind fun m130 =>
                    some (x119, m130)
                  else
                    if p1 = (2 : Int32) then
                      (gR m120 r118 4 2).bind fun r122 =>
                      (gR m120 a0 7 5).bind fun r123 =>
                      (ldR m120 r123 4 p2).bind fun r124 =>
                      (cV m120 r122 3 (fX3_become r122 r124 m120)).bind fun m125 =>
                      some (x119, m125)
                    else
                      (pI m120 r118 4 3 p2).bind fun m121 =>
                      some (x119, m121)
              else
                (gR m a0 7 6).bind fun r100 =>
                (ldR m r100 5 p0).bind fun r101 =>
                (gI m r101 4 0).bind fun x102 =>
                (pI m r101 4 0 p1).bind fun m103 =>
                if p1 = (1 : Int32) then
                  (gR m103 r101 4 1).bind fun r109 =>
                  (gR m103 a0 7 0).bind fun r110 =>
                  (gR m103 r110 2 4).bind fun r111 =>
                  (ldR m103 r111 2 p2).bind fun r112 =>
                  (cV m103 r109 5 (fX5_become r109 r112 m103)).bind fun m113 =>
                  some (x102, m113)
                else
                  if p1 = (2 : Int32) then
                    (gR m103 r101 4 2).bind fun r105 =>
                    (gR m103 a0 7 5).bind fun r106 =>
                    (ldR m103 r106 4 p2).bind fun r107 =>
                    (cV m103 r105 3 (fX3_become r105 r107 m103)).bind fun m108 =>
                    some (x102, m108)
                  else
                    (pI m103 r101 4 3 p2).bind fun m104 =>
                    some (x102, m104)
            else
              some ((-1000000001 : Int32), m)
          else
            if p1 = (2 : Int32) then
              (gR m a0 7 5).bind fun r82 =>
              (ldR m r82 4 p2).bind fun r83 =>
              (gI m r83 3 0).bind fun x84 =>
              if x84 = (-1 : Int32) then
                some ((-1000000011 : Int32), m)
              else
                (gR m a0 7 6).bind fun r85 =>
                (ldR m r85 5 p0).bind fun r86 =>
                (gI m r86 4 0).bind fun x87 =>
                (pI m r86 4 0 p1).bind fun m88 =>
                if p1 = (1 : Int32) then
                  (gR m88 r86 4 1).bind fun r94 =>
                  (gR m88 a0 7 0).bind fun r95 =>
                  (gR m88 r95 2 4).bind fun r96 =>
                  (ldR m88 r96 2 p2).bind fun r97 =>
                  (cV m88 r94 5 (fX5_become r94 r97 m88)).bind fun m98 =>
                  some (x87, m98)
                else
                  if p1 = (2 : Int32) then
                    (gR m88 r86 4 2).bind fun r90 =>
                    (gR m88 a0 7 5).bind fun r91 =>
                    (ldR m88 r91 4 p2).bind fun r92 =>
                    (cV m88 r90 3 (fX3_become r90 r92 m88)).bind fun m93 =>
                    some (x87, m93)
                  else
                    (pI m88 r86 4 3 p2).bind fun m89 =>
                    some (x87, m89)
            else
              (gR m a0 7 6).bind fun r68 =>
              (ldR m r68 5 p0).bind fun r69 =>
              (gI m r69 4 0).bind fun x70 =>
              (pI m r69 4 0 p1).bind fun m71 =>
              if p1 = (1 : Int32) then
                (gR m71 r69 4 1).bind fun r77 =>
                (gR m71 a0 7 0).bind fun r78 =>
                (gR m71 r78 2 4).bind fun r79 =>
                (ldR m71 r79 2 p2).bind fun r80 =>
                (cV m71 r77 5 (fX5_become r77 r80 m71)).bind fun m81 =>
                some (x70, m81)
              else
                if p1 = (2 : Int32) then
                  (gR m71 r69 4 2).bind fun r73 =>
                  (gR m71 a0 7 5).bind fun r74 =>
                  (ldR m71 r74 4 p2).bind fun r75 =>
                  (cV m71 r73 3 (fX3_become r73 r75 m71)).bind fun m76 =>
                  some (x70, m76)
                else
                  (pI m71 r69 4 3 p2).bind fun m72 =>
                  some (x70, m72)
        else
          some ((-1000000001 : Int32), m)
      else
        if p1 = (2 : Int32) then
          (fX7_isSheet p2 m).bind fun b34 =>
          if b34 = true then
            if p1 = (2 : Int32) then
              (gR m a0 7 5).bind fun r49 =>
              (ldR m r49 4 p2).bind fun r50 =>
              (gI m r50 3 0).bind fun x51 =>
              if x51 = (-1 : Int32) then
                some ((-1000000011 : Int32), m)
              else
                (gR m a0 7 6).bind fun r52 =>
                (ldR m r52 5 p0).bind fun r53 =>
                (gI m r53 4 0).bind fun x54 =>
                (pI m r53 4 0 p1).bind fun m55 =>
                if p1 = (1 : Int32) then
                  (gR m55 r53 4 1).bind fun r61 =>
                  (gR m55 a0 7 0).bind fun r62 =>
                  (gR m55 r62 2 4).bind fun r63 =>
                  (ldR m55 r63 2 p2).bind fun r64 =>
                  (cV m55 r61 5 (fX5_become r61 r64 m55)).bind fun m65 =>
                  some (x54, m65)
                else
                  if p1 = (2 : Int32) then
                    (gR m55 r53 4 2).bind fun r57 =>
                    (gR m55 a0 7 5).bind fun r58 =>
                    (ldR m55 r58 4 p2).bind fun r59 =>
                    (cV m55 r57 3 (fX3_become r57 r59 m55)).bind fun m60 =>
                    some (x54, m60)
                  else
                    (pI m55 r53 4 3 p2).bind fun m56 =>
                    some (x54, m56)
            else
              (gR m a0 7 6).bind fun r35 =>
              (ldR m r35 5 p0).bind fun r36 =>
              (gI m r36 4 0).bind fun x37 =>
              (pI m r36 4 0 p1).bind fun m38 =>
              if p1 = (1 : Int32) then
                (gR m38 r36 4 1).bind fun r44 =>
                (gR m38 a0 7 0).bind fun r45 =>
                (gR m38 r45 2 4).bind fun r46 =>
                (ldR m38 r46 2 p2).bind fun r47 =>
                (cV m38 r44 5 (fX5_become r44 r47 m38)).bind fun m48 =>
                some (x37, m48)
              else
                if p1 = (2 : Int32) then
                  (gR m38 r36 4 2).bind fun r40 =>
                  (gR m38 a0 7 5).bind fun r41 =>
                  (ldR m38 r41 4 p2).bind fun r42 =>
                  (cV m38 r40 3 (fX3_become r40 r42 m38)).bind fun m43 =>
                  some (x37, m43)
                else
                  (pI m38 r36 4 3 p2).bind fun m39 =>
                  some (x37, m39)
          else
            some ((-1000000001 : Int32), m)
        else
          if p1 = (2 : Int32) then
            (gR m a0 7 5).bind fun r17 =>
            (ldR m r17 4 p2).bind fun r18 =>
            (gI m r18 3 0).bind fun x19 =>
            if x19 = (-1 : Int32) then
              some ((-1000000011 : Int32), m)
            else
              (gR m a0 7 6).bind fun r20 =>
              (ldR m r20 5 p0).bind fun r21 =>
              (gI m r21 4 0).bind fun x22 =>
              (pI m r21 4 0 p1).bind fun m23 =>
              if p1 = (1 : Int32) then
                (gR m23 r21 4 1).bind fun r29 =>
                (gR m23 a0 7 0).bind fun r30 =>
                (gR m23 r30 2 4).bind fun r31 =>
                (ldR m23 r31 2 p2).bind fun r32 =>
                (cV m23 r29 5 (fX5_become r29 r32 m23)).bind fun m33 =>
                some (x22, m33)
              else
                if p1 = (2 : Int32) then
                  (gR m23 r21 4 2).bind fun r25 =>
                  (gR m23 a0 7 5).bind fun r26 =>
                  (ldR m23 r26 4 p2).bind fun r27 =>
                  (cV m23 r25 3 (fX3_become r25 r27 m23)).bind fun m28 =>
                  some (x22, m28)
                else
                  (pI m23 r21 4 3 p2).bind fun m24 =>
                  some (x22, m24)
          else
            (gR m a0 7 6).bind fun r3 =>
            (ldR m r3 5 p0).bind fun r4 =>
            (gI m r4 4 0).bind fun x5 =>
            (pI m r4 4 0 p1).bind fun m6 =>
            if p1 = (1 : Int32) then
              (gR m6 r4 4 1).bind fun r12 =>
              (gR m6 a0 7 0).bind fun r13 =>
              (gR m6 r13 2 4).bind fun r14 =>
              (ldR m6 r14 2 p2).bind fun r15 =>
              (cV m6 r12 5 (fX5_become r12 r15 m6)).bind fun m16 =>
              some (x5, m16)
            else
              if p1 = (2 : Int32) then
                (gR m6 r4 4 2).bind fun r8 =>
                (gR m6 a0 7 5).bind fun r9 =>
                (ldR m6 r9 4 p2).bind fun r10 =>
                (cV m6 r8 3 (fX3_become r8 r10 m6)).bind fun m11 =>
                some (x5, m11)
              else
                (pI m6 r4 4 3 p2).bind fun m7 =>
                some (x5, m7)
    else
      some ((-1000000001 : Int32), m)
  else
    some ((-1000000001 : Int32), m)
set_option maxRecDepth 20000 in
theorem tX7_lay {D : Dat} {a0 : Nat} {p0 : Int32} {p1 : Int32} {p2 : Int32} {m : Mem} {rR : Int32} {mR : Mem} (h : fX7_lay a0 p0 p1 p2 m = some (rR, mR)) : T D 3 IX7_lay [.ref a0, .int p0, .int p1, .int p2] m 0 0 (Qi rR mR) := by
  refine T_of_V (by decide) (Nat.le_of_ble_eq_true rfl) ?_
  show V D 3 IX7_lay 0 [(0, .ref a0), (1, .int p0), (2, .int p1), (3, .int p2)] [] m 0 0 (Qi rR mR)
  unfold fX7_lay at h
  refine V_iload_n (pc2 := 1) dX7_lay_0 1 rfl rfl ?_
  obtain ⟨b1, e_b1, h⟩ := bS h
  refine V_cSi (pc2 := 4) [.int p0] (st := []) (tX7_isSlot e_b1) dX7_lay_1 wS_7_288 (by decide) rfl (Nat.le_of_ble_eq_true rfl) ?_
  refine V_ifb_eq (pc2 := 7) (tgt := 16) dX7_lay_4 (fun c4 => ?_) (fun c4 => ?_)
  · replace h := iF c4 h
    refine V_ldc (v := -1000000001) (pc2 := 18) dX7_lay_16 wconstant_7_51 ?_
    obtain ⟨e1, e2⟩ := inj2 h
    subst e1
    subst e2
    exact V_iret dX7_lay_18 rfl ⟨rfl, rfl⟩
  · replace h := iT c4 h
    refine V_iload_n (pc2 := 8) dX7_lay_7 2 rfl rfl ?_
    refine V_iconst (v := 0) (pc2 := 9) dX7_lay_8 (by decide) ?_
    refine V_iconst (v := 3) (pc2 := 10) dX7_lay_9 (by decide) ?_
    obtain ⟨b2, e_b2, h⟩ := bS h
    refine V_cSi (pc2 := 13) [.int p1, .int (0 : Int32), .int (3 : Int32)] (st := []) (tX7_within e_b2) dX7_lay_10 wS_7_47 (by decide) rfl (Nat.le_of_ble_eq_true rfl) ?_
    refine V_ifb_ne (pc2 := 16) (tgt := 19) dX7_lay_13 (fun c13 => ?_) (fun c13 => ?_)
    · replace h := iT c13 h
      refine V_iload_n (pc2 := 20) dX7_lay_19 2 rfl rfl ?_
      refine V_iconst (v := 1) (pc2 := 21) dX7_lay_20 (by decide) ?_
      refine V_icmp_ne (pc2 := 24) (tgt := 35) dX7_lay_21 (fun c21 => ?_) (fun c21 => ?_)
      · replace h := iF c21 h
        refine V_iload_n (pc2 := 36) dX7_lay_35 2 rfl rfl ?_
        refine V_iconst (v := 2) (pc2 := 37) dX7_lay_36 (by decide) ?_
        refine V_icmp_ne (pc2 := 40) (tgt := 50) dX7_lay_37 (fun c37 => ?_) (fun c37 => ?_)
        · replace h := iF c37 h
          refine V_iload_n (pc2 := 51) dX7_lay_50 2 rfl rfl ?_
          refine V_iconst (v := 2) (pc2 := 52) dX7_lay_51 (by decide) ?_
          refine V_icmp_ne (pc2 := 55) (tgt := 71) dX7_lay_52 (fun c52 => ?_) (fun c52 => ?_)
          · replace h := iF c52 h
            refine V_aload_n (pc2 := 72) dX7_lay_71 0 rfl rfl ?_
            obtain ⟨r3, e_r3, h⟩ := bS h
            refine V_gR (pc2 := 75) e_r3 dX7_lay_72 wF_7_37 ?_
            refine V_iload_n (pc2 := 76) dX7_lay_75 1 rfl rfl ?_
            obtain ⟨r4, e_r4, h⟩ := bS h
            refine V_ldR (pc2 := 77) e_r4 dX7_lay_76 rfl ?_
            refine V_astore (pc2 := 79) (L2 := [(4, .ref r4), (0, .ref a0), (1, .int p0), (2, .int p1), (3, .int p2)]) dX7_lay_77 ?_ rfl rfl
            refine V_aload (pc2 := 81) dX7_lay_79 0 rfl ?_
            obtain ⟨x5, e_x5, h⟩ := bS h
            refine V_gI (pc2 := 84) e_x5 dX7_lay_81 wF_7_291 ?_
            refine V_istore (pc2 := 86) (L2 := [(5, .int x5), (4, .ref r4), (0, .ref a0), (1, .int p0), (2, .int p1), (3, .int p2)]) dX7_lay_84 ?_ rfl rfl
            refine V_aload (pc2 := 88) dX7_lay_86 1 rfl ?_
            refine V_iload_n (pc2 := 89) dX7_lay_88 4 rfl rfl ?_
            obtain ⟨m6, e_m6, h⟩ := bS h
            refine V_pI (pc2 := 92) e_m6 dX7_lay_89 wP_7_291 rfl rfl ?_
            refine V_iload_n (pc2 := 93) dX7_lay_92 4 rfl rfl ?_
            refine V_iconst (v := 1) (pc2 := 94) dX7_lay_93 (by decide) ?_
            refine V_icmp_ne (pc2 := 97) (tgt := 117) dX7_lay_94 (fun c94 => ?_) (fun c94 => ?_)
            · replace h := iF c94 h
              refine V_iload_n (pc2 := 118) dX7_lay_117 4 rfl rfl ?_
              refine V_iconst (v := 2) (pc2 := 119) dX7_lay_118 (by decide) ?_
              refine V_icmp_ne (pc2 := 122) (tgt := 139) dX7_lay_119 (fun c119 => ?_) (fun c119 => ?_)
              · replace h := iF c119 h
                refine V_aload (pc2 := 141) dX7_lay_139 1 rfl ?_
                refine V_iload_n (pc2 := 142) dX7_lay_141 5 rfl rfl ?_
                obtain ⟨m7, e_m7, h⟩ := bS h
                refine V_pI (pc2 := 145) e_m7 dX7_lay_142 wP_7_308 rfl rfl ?_
                refine V_iload (pc2 := 147) dX7_lay_145 0 rfl ?_
                obtain ⟨e1, e2⟩ := inj2 h
                subst e1
                subst e2
                exact V_iret dX7_lay_147 rfl ⟨rfl, rfl⟩
              · replace h := iT c119 h
                refine V_aload (pc2 := 124) dX7_lay_122 1 rfl ?_
                obtain ⟨r8, e_r8, h⟩ := bS h
                refine V_gR (pc2 := 127) e_r8 dX7_lay_124 wF_7_301 ?_
                refine V_aload_n (pc2 := 128) dX7_lay_127 2 rfl rfl ?_
                obtain ⟨r9, e_r9, h⟩ := bS h
                refine V_gR (pc2 := 131) e_r9 dX7_lay_128 wF_7_31 ?_
                refine V_iload_n (pc2 := 132) dX7_lay_131 5 rfl rfl ?_
                obtain ⟨r10, e_r10, h⟩ := bS h
                refine V_ldR (pc2 := 133) e_r10 dX7_lay_132 rfl ?_
                obtain ⟨m11, e_m11, h⟩ := bS h
                obtain ⟨⟨fs_m11, o_m11⟩, e_m11⟩ := cV_of e_m11
                refine V_cVv (pc2 := 136) [.ref r10] (st := []) o_m11 (tX3_become e_m11) dX7_lay_133 wV_7_305 (by decide) rfl (Nat.le_of_ble_eq_true rfl) ?_
                refine V_goto (tgt := 145) dX7_lay_136 ?_
                refine V_iload (pc2 := 147) dX7_lay_145 0 rfl ?_
                obtain ⟨e1, e2⟩ := inj2 h
                subst e1
                subst e2
                exact V_iret dX7_lay_147 rfl ⟨rfl, rfl⟩
            · replace h := iT c94 h
              refine V_aload (pc2 := 99) dX7_lay_97 1 rfl ?_
              obtain ⟨r12, e_r12, h⟩ := bS h
              refine V_gR (pc2 := 102) e_r12 dX7_lay_99 wF_7_294 ?_
              refine V_aload_n (pc2 := 103) dX7_lay_102 2 rfl rfl ?_
              obtain ⟨r13, e_r13, h⟩ := bS h
              refine V_gR (pc2 := 106) e_r13 dX7_lay_103 wF_7_10 ?_
              obtain ⟨r14, e_r14, h⟩ := bS h
              refine V_gR (pc2 := 109) e_r14 dX7_lay_106 wF_7_115 ?_
              refine V_iload_n (pc2 := 110) dX7_lay_109 5 rfl rfl ?_
              obtain ⟨r15, e_r15, h⟩ := bS h
              refine V_ldR (pc2 := 111) e_r15 dX7_lay_110 rfl ?_
              obtain ⟨m16, e_m16, h⟩ := bS h
              obtain ⟨⟨fs_m16, o_m16⟩, e_m16⟩ := cV_of e_m16
              refine V_cVv (pc2 := 114) [.ref r15] (st := []) o_m16 (tX5_become e_m16) dX7_lay_111 wV_7_298 (by decide) rfl (Nat.le_of_ble_eq_true rfl) ?_
              refine V_goto (tgt := 145) dX7_lay_114 ?_
              refine V_iload (pc2 := 147) dX7_lay_145 0 rfl ?_
              obtain ⟨e1, e2⟩ := inj2 h
              subst e1
              subst e2
              exact V_iret dX7_lay_147 rfl ⟨rfl, rfl⟩
          · replace h := iT c52 h
            refine V_aload_n (pc2 := 56) dX7_lay_55 0 rfl rfl ?_
            obtain ⟨r17, e_r17, h⟩ := bS h
            refine V_gR (pc2 := 59) e_r17 dX7_lay_56 wF_7_31 ?_
            refine V_iload_n (pc2 := 60) dX7_lay_59 3 rfl rfl ?_
            obtain ⟨r18, e_r18, h⟩ := bS h
            refine V_ldR (pc2 := 61) e_r18 dX7_lay_60 rfl ?_
            obtain ⟨x19, e_x19, h⟩ := bS h
            refine V_gI (pc2 := 64) e_x19 dX7_lay_61 wF_7_209 ?_
            refine V_iconst (v := -1) (pc2 := 65) dX7_lay_64 (by decide) ?_
            refine V_icmp_ne (pc2 := 68) (tgt := 71) dX7_lay_65 (fun c65 => ?_) (fun c65 => ?_)
            · replace h := iF c65 h
              refine V_aload_n (pc2 := 72) dX7_lay_71 0 rfl rfl ?_
              obtain ⟨r20, e_r20, h⟩ := bS h
              refine V_gR (pc2 := 75) e_r20 dX7_lay_72 wF_7_37 ?_
              refine V_iload_n (pc2 := 76) dX7_lay_75 1 rfl rfl ?_
              obtain ⟨r21, e_r21, h⟩ := bS h
              refine V_ldR (pc2 := 77) e_r21 dX7_lay_76 rfl ?_
              refine V_astore (pc2 := 79) (L2 := [(4, .ref r21), (0, .ref a0), (1, .int p0), (2, .int p1), (3, .int p2)]) dX7_lay_77 ?_ rfl rfl
              refine V_aload (pc2 := 81) dX7_lay_79 0 rfl ?_
              obtain ⟨x22, e_x22, h⟩ := bS h
              refine V_gI (pc2 := 84) e_x22 dX7_lay_81 wF_7_291 ?_
              refine V_istore (pc2 := 86) (L2 := [(5, .int x22), (4, .ref r21), (0, .ref a0), (1, .int p0), (2, .int p1), (3, .int p2)]) dX7_lay_84 ?_ rfl rfl
              refine V_aload (pc2 := 88) dX7_lay_86 1 rfl ?_
              refine V_iload_n (pc2 := 89) dX7_lay_88 4 rfl rfl ?_
              obtain ⟨m23, e_m23, h⟩ := bS h
              refine V_pI (pc2 := 92) e_m23 dX7_lay_89 wP_7_291 rfl rfl ?_
              refine V_iload_n (pc2 := 93) dX7_lay_92 4 rfl rfl ?_
              refine V_iconst (v := 1) (pc2 := 94) dX7_lay_93 (by decide) ?_
              refine V_icmp_ne (pc2 := 97) (tgt := 117) dX7_lay_94 (fun c94 => ?_) (fun c94 => ?_)
              · replace h := iF c94 h
                refine V_iload_n (pc2 := 118) dX7_lay_117 4 rfl rfl ?_
                refine V_iconst (v := 2) (pc2 := 119) dX7_lay_118 (by decide) ?_
                refine V_icmp_ne (pc2 := 122) (tgt := 139) dX7_lay_119 (fun c119 => ?_) (fun c119 => ?_)
                · replace h := iF c119 h
                  refine V_aload (pc2 := 141) dX7_lay_139 1 rfl ?_
                  refine V_iload_n (pc2 := 142) dX7_lay_141 5 rfl rfl ?_
                  obtain ⟨m24, e_m24, h⟩ := bS h
                  refine V_pI (pc2 := 145) e_m24 dX7_lay_142 wP_7_308 rfl rfl ?_
                  refine V_iload (pc2 := 147) dX7_lay_145 0 rfl ?_
                  obtain ⟨e1, e2⟩ := inj2 h
                  subst e1
                  subst e2
                  exact V_iret dX7_lay_147 rfl ⟨rfl, rfl⟩
                · replace h := iT c119 h
                  refine V_aload (pc2 := 124) dX7_lay_122 1 rfl ?_
                  obtain ⟨r25, e_r25, h⟩ := bS h
                  refine V_gR (pc2 := 127) e_r25 dX7_lay_124 wF_7_301 ?_
                  refine V_aload_n (pc2 := 128) dX7_lay_127 2 rfl rfl ?_
                  obtain ⟨r26, e_r26, h⟩ := bS h
                  refine V_gR (pc2 := 131) e_r26 dX7_lay_128 wF_7_31 ?_
                  refine V_iload_n (pc2 := 132) dX7_lay_131 5 rfl rfl ?_
                  obtain ⟨r27, e_r27, h⟩ := bS h
                  refine V_ldR (pc2 := 133) e_r27 dX7_lay_132 rfl ?_
                  obtain ⟨m28, e_m28, h⟩ := bS h
                  obtain ⟨⟨fs_m28, o_m28⟩, e_m28⟩ := cV_of e_m28
                  refine V_cVv (pc2 := 136) [.ref r27] (st := []) o_m28 (tX3_become e_m28) dX7_lay_133 wV_7_305 (by decide) rfl (Nat.le_of_ble_eq_true rfl) ?_
                  refine V_goto (tgt := 145) dX7_lay_136 ?_
                  refine V_iload (pc2 := 147) dX7_lay_145 0 rfl ?_
                  obtain ⟨e1, e2⟩ := inj2 h
                  subst e1
                  subst e2
                  exact V_iret dX7_lay_147 rfl ⟨rfl, rfl⟩
              · replace h := iT c94 h
                refine V_aload (pc2 := 99) dX7_lay_97 1 rfl ?_
                obtain ⟨r29, e_r29, h⟩ := bS h
                refine V_gR (pc2 := 102) e_r29 dX7_lay_99 wF_7_294 ?_
                refine V_aload_n (pc2 := 103) dX7_lay_102 2 rfl rfl ?_
                obtain ⟨r30, e_r30, h⟩ := bS h
                refine V_gR (pc2 := 106) e_r30 dX7_lay_103 wF_7_10 ?_
                obtain ⟨r31, e_r31, h⟩ := bS h
                refine V_gR (pc2 := 109) e_r31 dX7_lay_106 wF_7_115 ?_
                refine V_iload_n (pc2 := 110) dX7_lay_109 5 rfl rfl ?_
                obtain ⟨r32, e_r32, h⟩ := bS h
                refine V_ldR (pc2 := 111) e_r32 dX7_lay_110 rfl ?_
                obtain ⟨m33, e_m33, h⟩ := bS h
                obtain ⟨⟨fs_m33, o_m33⟩, e_m33⟩ := cV_of e_m33
                refine V_cVv (pc2 := 114) [.ref r32] (st := []) o_m33 (tX5_become e_m33) dX7_lay_111 wV_7_298 (by decide) rfl (Nat.le_of_ble_eq_true rfl) ?_
                refine V_goto (tgt := 145) dX7_lay_114 ?_
                refine V_iload (pc2 := 147) dX7_lay_145 0 rfl ?_
                obtain ⟨e1, e2⟩ := inj2 h
                subst e1
                subst e2
                exact V_iret dX7_lay_147 rfl ⟨rfl, rfl⟩
            · replace h := iT c65 h
              refine V_ldc (v := -1000000011) (pc2 := 70) dX7_lay_68 wconstant_7_212 ?_
              obtain ⟨e1, e2⟩ := inj2 h
              subst e1
              subst e2
              exact V_iret dX7_lay_70 rfl ⟨rfl, rfl⟩
        · replace h := iT c37 h
          refine V_iload_n (pc2 := 41) dX7_lay_40 3 rfl rfl ?_
          obtain ⟨b34, e_b34, h⟩ := bS h
          refine V_cSi (pc2 := 44) [.int p2] (st := []) (tX7_isSheet e_b34) dX7_lay_41 wS_7_206 (by decide) rfl (Nat.le_of_ble_eq_true rfl) ?_
          refine V_ifb_ne (pc2 := 47) (tgt := 50) dX7_lay_44 (fun c44 => ?_) (fun c44 => ?_)
          · replace h := iT c44 h
            refine V_iload_n (pc2 := 51) dX7_lay_50 2 rfl rfl ?_
            refine V_iconst (v := 2) (pc2 := 52) dX7_lay_51 (by decide) ?_
            refine V_icmp_ne (pc2 := 55) (tgt := 71) dX7_lay_52 (fun c52 => ?_) (fun c52 => ?_)
            · replace h := iF c52 h
              refine V_aload_n (pc2 := 72) dX7_lay_71 0 rfl rfl ?_
              obtain ⟨r35, e_r35, h⟩ := bS h
              refine V_gR (pc2 := 75) e_r35 dX7_lay_72 wF_7_37 ?_
              refine V_iload_n (pc2 := 76) dX7_lay_75 1 rfl rfl ?_
              obtain ⟨r36, e_r36, h⟩ := bS h
              refine V_ldR (pc2 := 77) e_r36 dX7_lay_76 rfl ?_
              refine V_astore (pc2 := 79) (L2 := [(4, .ref r36), (0, .ref a0), (1, .int p0), (2, .int p1), (3, .int p2)]) dX7_lay_77 ?_ rfl rfl
              refine V_aload (pc2 := 81) dX7_lay_79 0 rfl ?_
              obtain ⟨x37, e_x37, h⟩ := bS h
              refine V_gI (pc2 := 84) e_x37 dX7_lay_81 wF_7_291 ?_
              refine V_istore (pc2 := 86) (L2 := [(5, .int x37), (4, .ref r36), (0, .ref a0), (1, .int p0), (2, .int p1), (3, .int p2)]) dX7_lay_84 ?_ rfl rfl
              refine V_aload (pc2 := 88) dX7_lay_86 1 rfl ?_
              refine V_iload_n (pc2 := 89) dX7_lay_88 4 rfl rfl ?_
              obtain ⟨m38, e_m38, h⟩ := bS h
              refine V_pI (pc2 := 92) e_m38 dX7_lay_89 wP_7_291 rfl rfl ?_
              refine V_iload_n (pc2 := 93) dX7_lay_92 4 rfl rfl ?_
              refine V_iconst (v := 1) (pc2 := 94) dX7_lay_93 (by decide) ?_
              refine V_icmp_ne (pc2 := 97) (tgt := 117) dX7_lay_94 (fun c94 => ?_) (fun c94 => ?_)
              · replace h := iF c94 h
                refine V_iload_n (pc2 := 118) dX7_lay_117 4 rfl rfl ?_
                refine V_iconst (v := 2) (pc2 := 119) dX7_lay_118 (by decide) ?_
                refine V_icmp_ne (pc2 := 122) (tgt := 139) dX7_lay_119 (fun c119 => ?_) (fun c119 => ?_)
                · replace h := iF c119 h
                  refine V_aload (pc2 := 141) dX7_lay_139 1 rfl ?_
                  refine V_iload_n (pc2 := 142) dX7_lay_141 5 rfl rfl ?_
                  obtain ⟨m39, e_m39, h⟩ := bS h
                  refine V_pI (pc2 := 145) e_m39 dX7_lay_142 wP_7_308 rfl rfl ?_
                  refine V_iload (pc2 := 147) dX7_lay_145 0 rfl ?_
                  obtain ⟨e1, e2⟩ := inj2 h
                  subst e1
                  subst e2
                  exact V_iret dX7_lay_147 rfl ⟨rfl, rfl⟩
                · replace h := iT c119 h
                  refine V_aload (pc2 := 124) dX7_lay_122 1 rfl ?_
                  obtain ⟨r40, e_r40, h⟩ := bS h
                  refine V_gR (pc2 := 127) e_r40 dX7_lay_124 wF_7_301 ?_
                  refine V_aload_n (pc2 := 128) dX7_lay_127 2 rfl rfl ?_
                  obtain ⟨r41, e_r41, h⟩ := bS h
                  refine V_gR (pc2 := 131) e_r41 dX7_lay_128 wF_7_31 ?_
                  refine V_iload_n (pc2 := 132) dX7_lay_131 5 rfl rfl ?_
                  obtain ⟨r42, e_r42, h⟩ := bS h
                  refine V_ldR (pc2 := 133) e_r42 dX7_lay_132 rfl ?_
                  obtain ⟨m43, e_m43, h⟩ := bS h
                  obtain ⟨⟨fs_m43, o_m43⟩, e_m43⟩ := cV_of e_m43
                  refine V_cVv (pc2 := 136) [.ref r42] (st := []) o_m43 (tX3_become e_m43) dX7_lay_133 wV_7_305 (by decide) rfl (Nat.le_of_ble_eq_true rfl) ?_
                  refine V_goto (tgt := 145) dX7_lay_136 ?_
                  refine V_iload (pc2 := 147) dX7_lay_145 0 rfl ?_
                  obtain ⟨e1, e2⟩ := inj2 h
                  subst e1
                  subst e2
                  exact V_iret dX7_lay_147 rfl ⟨rfl, rfl⟩
              · replace h := iT c94 h
                refine V_aload (pc2 := 99) dX7_lay_97 1 rfl ?_
                obtain ⟨r44, e_r44, h⟩ := bS h
                refine V_gR (pc2 := 102) e_r44 dX7_lay_99 wF_7_294 ?_
                refine V_aload_n (pc2 := 103) dX7_lay_102 2 rfl rfl ?_
                obtain ⟨r45, e_r45, h⟩ := bS h
                refine V_gR (pc2 := 106) e_r45 dX7_lay_103 wF_7_10 ?_
                obtain ⟨r46, e_r46, h⟩ := bS h
                refine V_gR (pc2 := 109) e_r46 dX7_lay_106 wF_7_115 ?_
                refine V_iload_n (pc2 := 110) dX7_lay_109 5 rfl rfl ?_
                obtain ⟨r47, e_r47, h⟩ := bS h
                refine V_ldR (pc2 := 111) e_r47 dX7_lay_110 rfl ?_
                obtain ⟨m48, e_m48, h⟩ := bS h
                obtain ⟨⟨fs_m48, o_m48⟩, e_m48⟩ := cV_of e_m48
                refine V_cVv (pc2 := 114) [.ref r47] (st := []) o_m48 (tX5_become e_m48) dX7_lay_111 wV_7_298 (by decide) rfl (Nat.le_of_ble_eq_true rfl) ?_
                refine V_goto (tgt := 145) dX7_lay_114 ?_
                refine V_iload (pc2 := 147) dX7_lay_145 0 rfl ?_
                obtain ⟨e1, e2⟩ := inj2 h
                subst e1
                subst e2
                exact V_iret dX7_lay_147 rfl ⟨rfl, rfl⟩
            · replace h := iT c52 h
              refine V_aload_n (pc2 := 56) dX7_lay_55 0 rfl rfl ?_
              obtain ⟨r49, e_r49, h⟩ := bS h
              refine V_gR (pc2 := 59) e_r49 dX7_lay_56 wF_7_31 ?_
              refine V_iload_n (pc2 := 60) dX7_lay_59 3 rfl rfl ?_
              obtain ⟨r50, e_r50, h⟩ := bS h
              refine V_ldR (pc2 := 61) e_r50 dX7_lay_60 rfl ?_
              obtain ⟨x51, e_x51, h⟩ := bS h
              refine V_gI (pc2 := 64) e_x51 dX7_lay_61 wF_7_209 ?_
              refine V_iconst (v := -1) (pc2 := 65) dX7_lay_64 (by decide) ?_
              refine V_icmp_ne (pc2 := 68) (tgt := 71) dX7_lay_65 (fun c65 => ?_) (fun c65 => ?_)
              · replace h := iF c65 h
                refine V_aload_n (pc2 := 72) dX7_lay_71 0 rfl rfl ?_
                obtain ⟨r52, e_r52, h⟩ := bS h
                refine V_gR (pc2 := 75) e_r52 dX7_lay_72 wF_7_37 ?_
                refine V_iload_n (pc2 := 76) dX7_lay_75 1 rfl rfl ?_
                obtain ⟨r53, e_r53, h⟩ := bS h
                refine V_ldR (pc2 := 77) e_r53 dX7_lay_76 rfl ?_
                refine V_astore (pc2 := 79) (L2 := [(4, .ref r53), (0, .ref a0), (1, .int p0), (2, .int p1), (3, .int p2)]) dX7_lay_77 ?_ rfl rfl
                refine V_aload (pc2 := 81) dX7_lay_79 0 rfl ?_
                obtain ⟨x54, e_x54, h⟩ := bS h
                refine V_gI (pc2 := 84) e_x54 dX7_lay_81 wF_7_291 ?_
                refine V_istore (pc2 := 86) (L2 := [(5, .int x54), (4, .ref r53), (0, .ref a0), (1, .int p0), (2, .int p1), (3, .int p2)]) dX7_lay_84 ?_ rfl rfl
                refine V_aload (pc2 := 88) dX7_lay_86 1 rfl ?_
                refine V_iload_n (pc2 := 89) dX7_lay_88 4 rfl rfl ?_
                obtain ⟨m55, e_m55, h⟩ := bS h
                refine V_pI (pc2 := 92) e_m55 dX7_lay_89 wP_7_291 rfl rfl ?_
                refine V_iload_n (pc2 := 93) dX7_lay_92 4 rfl rfl ?_
                refine V_iconst (v := 1) (pc2 := 94) dX7_lay_93 (by decide) ?_
                refine V_icmp_ne (pc2 := 97) (tgt := 117) dX7_lay_94 (fun c94 => ?_) (fun c94 => ?_)
                · replace h := iF c94 h
                  refine V_iload_n (pc2 := 118) dX7_lay_117 4 rfl rfl ?_
                  refine V_iconst (v := 2) (pc2 := 119) dX7_lay_118 (by decide) ?_
                  refine V_icmp_ne (pc2 := 122) (tgt := 139) dX7_lay_119 (fun c119 => ?_) (fun c119 => ?_)
                  · replace h := iF c119 h
                    refine V_aload (pc2 := 141) dX7_lay_139 1 rfl ?_
                    refine V_iload_n (pc2 := 142) dX7_lay_141 5 rfl rfl ?_
                    obtain ⟨m56, e_m56, h⟩ := bS h
                    refine V_pI (pc2 := 145) e_m56 dX7_lay_142 wP_7_308 rfl rfl ?_
                    refine V_iload (pc2 := 147) dX7_lay_145 0 rfl ?_
                    obtain ⟨e1, e2⟩ := inj2 h
                    subst e1
                    subst e2
                    exact V_iret dX7_lay_147 rfl ⟨rfl, rfl⟩
                  · replace h := iT c119 h
                    refine V_aload (pc2 := 124) dX7_lay_122 1 rfl ?_
                    obtain ⟨r57, e_r57, h⟩ := bS h
                    refine V_gR (pc2 := 127) e_r57 dX7_lay_124 wF_7_301 ?_
                    refine V_aload_n (pc2 := 128) dX7_lay_127 2 rfl rfl ?_
                    obtain ⟨r58, e_r58, h⟩ := bS h
                    refine V_gR (pc2 := 131) e_r58 dX7_lay_128 wF_7_31 ?_
                    refine V_iload_n (pc2 := 132) dX7_lay_131 5 rfl rfl ?_
                    obtain ⟨r59, e_r59, h⟩ := bS h
                    refine V_ldR (pc2 := 133) e_r59 dX7_lay_132 rfl ?_
                    obtain ⟨m60, e_m60, h⟩ := bS h
                    obtain ⟨⟨fs_m60, o_m60⟩, e_m60⟩ := cV_of e_m60
                    refine V_cVv (pc2 := 136) [.ref r59] (st := []) o_m60 (tX3_become e_m60) dX7_lay_133 wV_7_305 (by decide) rfl (Nat.le_of_ble_eq_true rfl) ?_
                    refine V_goto (tgt := 145) dX7_lay_136 ?_
                    refine V_iload (pc2 := 147) dX7_lay_145 0 rfl ?_
                    obtain ⟨e1, e2⟩ := inj2 h
                    subst e1
                    subst e2
                    exact V_iret dX7_lay_147 rfl ⟨rfl, rfl⟩
                · replace h := iT c94 h
                  refine V_aload (pc2 := 99) dX7_lay_97 1 rfl ?_
                  obtain ⟨r61, e_r61, h⟩ := bS h
                  refine V_gR (pc2 := 102) e_r61 dX7_lay_99 wF_7_294 ?_
                  refine V_aload_n (pc2 := 103) dX7_lay_102 2 rfl rfl ?_
                  obtain ⟨r62, e_r62, h⟩ := bS h
                  refine V_gR (pc2 := 106) e_r62 dX7_lay_103 wF_7_10 ?_
                  obtain ⟨r63, e_r63, h⟩ := bS h
                  refine V_gR (pc2 := 109) e_r63 dX7_lay_106 wF_7_115 ?_
                  refine V_iload_n (pc2 := 110) dX7_lay_109 5 rfl rfl ?_
                  obtain ⟨r64, e_r64, h⟩ := bS h
                  refine V_ldR (pc2 := 111) e_r64 dX7_lay_110 rfl ?_
                  obtain ⟨m65, e_m65, h⟩ := bS h
                  obtain ⟨⟨fs_m65, o_m65⟩, e_m65⟩ := cV_of e_m65
                  refine V_cVv (pc2 := 114) [.ref r64] (st := []) o_m65 (tX5_become e_m65) dX7_lay_111 wV_7_298 (by decide) rfl (Nat.le_of_ble_eq_true rfl) ?_
                  refine V_goto (tgt := 145) dX7_lay_114 ?_
                  refine V_iload (pc2 := 147) dX7_lay_145 0 rfl ?_
                  obtain ⟨e1, e2⟩ := inj2 h
                  subst e1
                  subst e2
                  exact V_iret dX7_lay_147 rfl ⟨rfl, rfl⟩
              · replace h := iT c65 h
                refine V_ldc (v := -1000000011) (pc2 := 70) dX7_lay_68 wconstant_7_212 ?_
                obtain ⟨e1, e2⟩ := inj2 h
                subst e1
                subst e2
                exact V_iret dX7_lay_70 rfl ⟨rfl, rfl⟩
          · replace h := iF c44 h
            refine V_ldc (v := -1000000001) (pc2 := 49) dX7_lay_47 wconstant_7_51 ?_
            obtain ⟨e1, e2⟩ := inj2 h
            subst e1
            subst e2
            exact V_iret dX7_lay_49 rfl ⟨rfl, rfl⟩
      · replace h := iT c21 h
        refine V_aload_n (pc2 := 25) dX7_lay_24 0 rfl rfl ?_
        obtain ⟨r66, e_r66, h⟩ := bS h
        refine V_gR (pc2 := 28) e_r66 dX7_lay_25 wF_7_10 ?_
        refine V_iload_n (pc2 := 29) dX7_lay_28 3 rfl rfl ?_
        obtain ⟨b67, e_b67, h⟩ := bS h
        obtain ⟨⟨fs_b67, o_b67⟩, e_b67⟩ := cV_of e_b67
        refine V_cVi (pc2 := 32) [.int p2] (st := []) o_b67 (tX2_isStop e_b67) dX7_lay_29 wV_7_112 (by decide) rfl (Nat.le_of_ble_eq_true rfl) ?_
        refine V_ifb_eq (pc2 := 35) (tgt := 47) dX7_lay_32 (fun c32 => ?_) (fun c32 => ?_)
        · replace h := iF c32 h
          refine V_ldc (v := -1000000001) (pc2 := 49) dX7_lay_47 wconstant_7_51 ?_
          obtain ⟨e1, e2⟩ := inj2 h
          subst e1
          subst e2
          exact V_iret dX7_lay_49 rfl ⟨rfl, rfl⟩
        · replace h := iT c32 h
          refine V_iload_n (pc2 := 36) dX7_lay_35 2 rfl rfl ?_
          refine V_iconst (v := 2) (pc2 := 37) dX7_lay_36 (by decide) ?_
          refine V_icmp_ne (pc2 := 40) (tgt := 50) dX7_lay_37 (fun c37 => ?_) (fun c37 => ?_)
          · replace h := iF c37 h
            refine V_iload_n (pc2 := 51) dX7_lay_50 2 rfl rfl ?_
            refine V_iconst (v := 2) (pc2 := 52) dX7_lay_51 (by decide) ?_
            refine V_icmp_ne (pc2 := 55) (tgt := 71) dX7_lay_52 (fun c52 => ?_) (fun c52 => ?_)
            · replace h := iF c52 h
              refine V_aload_n (pc2 := 72) dX7_lay_71 0 rfl rfl ?_
              obtain ⟨r68, e_r68, h⟩ := bS h
              refine V_gR (pc2 := 75) e_r68 dX7_lay_72 wF_7_37 ?_
              refine V_iload_n (pc2 := 76) dX7_lay_75 1 rfl rfl ?_
              obtain ⟨r69, e_r69, h⟩ := bS h
              refine V_ldR (pc2 := 77) e_r69 dX7_lay_76 rfl ?_
              refine V_astore (pc2 := 79) (L2 := [(4, .ref r69), (0, .ref a0), (1, .int p0), (2, .int p1), (3, .int p2)]) dX7_lay_77 ?_ rfl rfl
              refine V_aload (pc2 := 81) dX7_lay_79 0 rfl ?_
              obtain ⟨x70, e_x70, h⟩ := bS h
              refine V_gI (pc2 := 84) e_x70 dX7_lay_81 wF_7_291 ?_
              refine V_istore (pc2 := 86) (L2 := [(5, .int x70), (4, .ref r69), (0, .ref a0), (1, .int p0), (2, .int p1), (3, .int p2)]) dX7_lay_84 ?_ rfl rfl
              refine V_aload (pc2 := 88) dX7_lay_86 1 rfl ?_
              refine V_iload_n (pc2 := 89) dX7_lay_88 4 rfl rfl ?_
              obtain ⟨m71, e_m71, h⟩ := bS h
              refine V_pI (pc2 := 92) e_m71 dX7_lay_89 wP_7_291 rfl rfl ?_
              refine V_iload_n (pc2 := 93) dX7_lay_92 4 rfl rfl ?_
              refine V_iconst (v := 1) (pc2 := 94) dX7_lay_93 (by decide) ?_
              refine V_icmp_ne (pc2 := 97) (tgt := 117) dX7_lay_94 (fun c94 => ?_) (fun c94 => ?_)
              · replace h := iF c94 h
                refine V_iload_n (pc2 := 118) dX7_lay_117 4 rfl rfl ?_
                refine V_iconst (v := 2) (pc2 := 119) dX7_lay_118 (by decide) ?_
                refine V_icmp_ne (pc2 := 122) (tgt := 139) dX7_lay_119 (fun c119 => ?_) (fun c119 => ?_)
                · replace h := iF c119 h
                  refine V_aload (pc2 := 141) dX7_lay_139 1 rfl ?_
                  refine V_iload_n (pc2 := 142) dX7_lay_141 5 rfl rfl ?_
                  obtain ⟨m72, e_m72, h⟩ := bS h
                  refine V_pI (pc2 := 145) e_m72 dX7_lay_142 wP_7_308 rfl rfl ?_
                  refine V_iload (pc2 := 147) dX7_lay_145 0 rfl ?_
                  obtain ⟨e1, e2⟩ := inj2 h
                  subst e1
                  subst e2
                  exact V_iret dX7_lay_147 rfl ⟨rfl, rfl⟩
                · replace h := iT c119 h
                  refine V_aload (pc2 := 124) dX7_lay_122 1 rfl ?_
                  obtain ⟨r73, e_r73, h⟩ := bS h
                  refine V_gR (pc2 := 127) e_r73 dX7_lay_124 wF_7_301 ?_
                  refine V_aload_n (pc2 := 128) dX7_lay_127 2 rfl rfl ?_
                  obtain ⟨r74, e_r74, h⟩ := bS h
                  refine V_gR (pc2 := 131) e_r74 dX7_lay_128 wF_7_31 ?_
                  refine V_iload_n (pc2 := 132) dX7_lay_131 5 rfl rfl ?_
                  obtain ⟨r75, e_r75, h⟩ := bS h
                  refine V_ldR (pc2 := 133) e_r75 dX7_lay_132 rfl ?_
                  obtain ⟨m76, e_m76, h⟩ := bS h
                  obtain ⟨⟨fs_m76, o_m76⟩, e_m76⟩ := cV_of e_m76
                  refine V_cVv (pc2 := 136) [.ref r75] (st := []) o_m76 (tX3_become e_m76) dX7_lay_133 wV_7_305 (by decide) rfl (Nat.le_of_ble_eq_true rfl) ?_
                  refine V_goto (tgt := 145) dX7_lay_136 ?_
                  refine V_iload (pc2 := 147) dX7_lay_145 0 rfl ?_
                  obtain ⟨e1, e2⟩ := inj2 h
                  subst e1
                  subst e2
                  exact V_iret dX7_lay_147 rfl ⟨rfl, rfl⟩
              · replace h := iT c94 h
                refine V_aload (pc2 := 99) dX7_lay_97 1 rfl ?_
                obtain ⟨r77, e_r77, h⟩ := bS h
                refine V_gR (pc2 := 102) e_r77 dX7_lay_99 wF_7_294 ?_
                refine V_aload_n (pc2 := 103) dX7_lay_102 2 rfl rfl ?_
                obtain ⟨r78, e_r78, h⟩ := bS h
                refine V_gR (pc2 := 106) e_r78 dX7_lay_103 wF_7_10 ?_
                obtain ⟨r79, e_r79, h⟩ := bS h
                refine V_gR (pc2 := 109) e_r79 dX7_lay_106 wF_7_115 ?_
                refine V_iload_n (pc2 := 110) dX7_lay_109 5 rfl rfl ?_
                obtain ⟨r80, e_r80, h⟩ := bS h
                refine V_ldR (pc2 := 111) e_r80 dX7_lay_110 rfl ?_
                obtain ⟨m81, e_m81, h⟩ := bS h
                obtain ⟨⟨fs_m81, o_m81⟩, e_m81⟩ := cV_of e_m81
                refine V_cVv (pc2 := 114) [.ref r80] (st := []) o_m81 (tX5_become e_m81) dX7_lay_111 wV_7_298 (by decide) rfl (Nat.le_of_ble_eq_true rfl) ?_
                refine V_goto (tgt := 145) dX7_lay_114 ?_
                refine V_iload (pc2 := 147) dX7_lay_145 0 rfl ?_
                obtain ⟨e1, e2⟩ := inj2 h
                subst e1
                subst e2
                exact V_iret dX7_lay_147 rfl ⟨rfl, rfl⟩
            · replace h := iT c52 h
              refine V_aload_n (pc2 := 56) dX7_lay_55 0 rfl rfl ?_
              obtain ⟨r82, e_r82, h⟩ := bS h
              refine V_gR (pc2 := 59) e_r82 dX7_lay_56 wF_7_31 ?_
              refine V_iload_n (pc2 := 60) dX7_lay_59 3 rfl rfl ?_
              obtain ⟨r83, e_r83, h⟩ := bS h
              refine V_ldR (pc2 := 61) e_r83 dX7_lay_60 rfl ?_
              obtain ⟨x84, e_x84, h⟩ := bS h
              refine V_gI (pc2 := 64) e_x84 dX7_lay_61 wF_7_209 ?_
              refine V_iconst (v := -1) (pc2 := 65) dX7_lay_64 (by decide) ?_
              refine V_icmp_ne (pc2 := 68) (tgt := 71) dX7_lay_65 (fun c65 => ?_) (fun c65 => ?_)
              · replace h := iF c65 h
                refine V_aload_n (pc2 := 72) dX7_lay_71 0 rfl rfl ?_
                obtain ⟨r85, e_r85, h⟩ := bS h
                refine V_gR (pc2 := 75) e_r85 dX7_lay_72 wF_7_37 ?_
                refine V_iload_n (pc2 := 76) dX7_lay_75 1 rfl rfl ?_
                obtain ⟨r86, e_r86, h⟩ := bS h
                refine V_ldR (pc2 := 77) e_r86 dX7_lay_76 rfl ?_
                refine V_astore (pc2 := 79) (L2 := [(4, .ref r86), (0, .ref a0), (1, .int p0), (2, .int p1), (3, .int p2)]) dX7_lay_77 ?_ rfl rfl
                refine V_aload (pc2 := 81) dX7_lay_79 0 rfl ?_
                obtain ⟨x87, e_x87, h⟩ := bS h
                refine V_gI (pc2 := 84) e_x87 dX7_lay_81 wF_7_291 ?_
                refine V_istore (pc2 := 86) (L2 := [(5, .int x87), (4, .ref r86), (0, .ref a0), (1, .int p0), (2, .int p1), (3, .int p2)]) dX7_lay_84 ?_ rfl rfl
                refine V_aload (pc2 := 88) dX7_lay_86 1 rfl ?_
                refine V_iload_n (pc2 := 89) dX7_lay_88 4 rfl rfl ?_
                obtain ⟨m88, e_m88, h⟩ := bS h
                refine V_pI (pc2 := 92) e_m88 dX7_lay_89 wP_7_291 rfl rfl ?_
                refine V_iload_n (pc2 := 93) dX7_lay_92 4 rfl rfl ?_
                refine V_iconst (v := 1) (pc2 := 94) dX7_lay_93 (by decide) ?_
                refine V_icmp_ne (pc2 := 97) (tgt := 117) dX7_lay_94 (fun c94 => ?_) (fun c94 => ?_)
                · replace h := iF c94 h
                  refine V_iload_n (pc2 := 118) dX7_lay_117 4 rfl rfl ?_
                  refine V_iconst (v := 2) (pc2 := 119) dX7_lay_118 (by decide) ?_
                  refine V_icmp_ne (pc2 := 122) (tgt := 139) dX7_lay_119 (fun c119 => ?_) (fun c119 => ?_)
                  · replace h := iF c119 h
                    refine V_aload (pc2 := 141) dX7_lay_139 1 rfl ?_
                    refine V_iload_n (pc2 := 142) dX7_lay_141 5 rfl rfl ?_
                    obtain ⟨m89, e_m89, h⟩ := bS h
                    refine V_pI (pc2 := 145) e_m89 dX7_lay_142 wP_7_308 rfl rfl ?_
                    refine V_iload (pc2 := 147) dX7_lay_145 0 rfl ?_
                    obtain ⟨e1, e2⟩ := inj2 h
                    subst e1
                    subst e2
                    exact V_iret dX7_lay_147 rfl ⟨rfl, rfl⟩
                  · replace h := iT c119 h
                    refine V_aload (pc2 := 124) dX7_lay_122 1 rfl ?_
                    obtain ⟨r90, e_r90, h⟩ := bS h
                    refine V_gR (pc2 := 127) e_r90 dX7_lay_124 wF_7_301 ?_
                    refine V_aload_n (pc2 := 128) dX7_lay_127 2 rfl rfl ?_
                    obtain ⟨r91, e_r91, h⟩ := bS h
                    refine V_gR (pc2 := 131) e_r91 dX7_lay_128 wF_7_31 ?_
                    refine V_iload_n (pc2 := 132) dX7_lay_131 5 rfl rfl ?_
                    obtain ⟨r92, e_r92, h⟩ := bS h
                    refine V_ldR (pc2 := 133) e_r92 dX7_lay_132 rfl ?_
                    obtain ⟨m93, e_m93, h⟩ := bS h
                    obtain ⟨⟨fs_m93, o_m93⟩, e_m93⟩ := cV_of e_m93
                    refine V_cVv (pc2 := 136) [.ref r92] (st := []) o_m93 (tX3_become e_m93) dX7_lay_133 wV_7_305 (by decide) rfl (Nat.le_of_ble_eq_true rfl) ?_
                    refine V_goto (tgt := 145) dX7_lay_136 ?_
                    refine V_iload (pc2 := 147) dX7_lay_145 0 rfl ?_
                    obtain ⟨e1, e2⟩ := inj2 h
                    subst e1
                    subst e2
                    exact V_iret dX7_lay_147 rfl ⟨rfl, rfl⟩
                · replace h := iT c94 h
                  refine V_aload (pc2 := 99) dX7_lay_97 1 rfl ?_
                  obtain ⟨r94, e_r94, h⟩ := bS h
                  refine V_gR (pc2 := 102) e_r94 dX7_lay_99 wF_7_294 ?_
                  refine V_aload_n (pc2 := 103) dX7_lay_102 2 rfl rfl ?_
                  obtain ⟨r95, e_r95, h⟩ := bS h
                  refine V_gR (pc2 := 106) e_r95 dX7_lay_103 wF_7_10 ?_
                  obtain ⟨r96, e_r96, h⟩ := bS h
                  refine V_gR (pc2 := 109) e_r96 dX7_lay_106 wF_7_115 ?_
                  refine V_iload_n (pc2 := 110) dX7_lay_109 5 rfl rfl ?_
                  obtain ⟨r97, e_r97, h⟩ := bS h
                  refine V_ldR (pc2 := 111) e_r97 dX7_lay_110 rfl ?_
                  obtain ⟨m98, e_m98, h⟩ := bS h
                  obtain ⟨⟨fs_m98, o_m98⟩, e_m98⟩ := cV_of e_m98
                  refine V_cVv (pc2 := 114) [.ref r97] (st := []) o_m98 (tX5_become e_m98) dX7_lay_111 wV_7_298 (by decide) rfl (Nat.le_of_ble_eq_true rfl) ?_
                  refine V_goto (tgt := 145) dX7_lay_114 ?_
                  refine V_iload (pc2 := 147) dX7_lay_145 0 rfl ?_
                  obtain ⟨e1, e2⟩ := inj2 h
                  subst e1
                  subst e2
                  exact V_iret dX7_lay_147 rfl ⟨rfl, rfl⟩
              · replace h := iT c65 h
                refine V_ldc (v := -1000000011) (pc2 := 70) dX7_lay_68 wconstant_7_212 ?_
                obtain ⟨e1, e2⟩ := inj2 h
                subst e1
                subst e2
                exact V_iret dX7_lay_70 rfl ⟨rfl, rfl⟩
          · replace h := iT c37 h
            refine V_iload_n (pc2 := 41) dX7_lay_40 3 rfl rfl ?_
            obtain ⟨b99, e_b99, h⟩ := bS h
            refine V_cSi (pc2 := 44) [.int p2] (st := []) (tX7_isSheet e_b99) dX7_lay_41 wS_7_206 (by decide) rfl (Nat.le_of_ble_eq_true rfl) ?_
            refine V_ifb_ne (pc2 := 47) (tgt := 50) dX7_lay_44 (fun c44 => ?_) (fun c44 => ?_)
            · replace h := iT c44 h
              refine V_iload_n (pc2 := 51) dX7_lay_50 2 rfl rfl ?_
              refine V_iconst (v := 2) (pc2 := 52) dX7_lay_51 (by decide) ?_
              refine V_icmp_ne (pc2 := 55) (tgt := 71) dX7_lay_52 (fun c52 => ?_) (fun c52 => ?_)
              · replace h := iF c52 h
                refine V_aload_n (pc2 := 72) dX7_lay_71 0 rfl rfl ?_
                obtain ⟨r100, e_r100, h⟩ := bS h
                refine V_gR (pc2 := 75) e_r100 dX7_lay_72 wF_7_37 ?_
                refine V_iload_n (pc2 := 76) dX7_lay_75 1 rfl rfl ?_
                obtain ⟨r101, e_r101, h⟩ := bS h
                refine V_ldR (pc2 := 77) e_r101 dX7_lay_76 rfl ?_
                refine V_astore (pc2 := 79) (L2 := [(4, .ref r101), (0, .ref a0), (1, .int p0), (2, .int p1), (3, .int p2)]) dX7_lay_77 ?_ rfl rfl
                refine V_aload (pc2 := 81) dX7_lay_79 0 rfl ?_
                obtain ⟨x102, e_x102, h⟩ := bS h
                refine V_gI (pc2 := 84) e_x102 dX7_lay_81 wF_7_291 ?_
                refine V_istore (pc2 := 86) (L2 := [(5, .int x102), (4, .ref r101), (0, .ref a0), (1, .int p0), (2, .int p1), (3, .int p2)]) dX7_lay_84 ?_ rfl rfl
                refine V_aload (pc2 := 88) dX7_lay_86 1 rfl ?_
                refine V_iload_n (pc2 := 89) dX7_lay_88 4 rfl rfl ?_
                obtain ⟨m103, e_m103, h⟩ := bS h
                refine V_pI (pc2 := 92) e_m103 dX7_lay_89 wP_7_291 rfl rfl ?_
                refine V_iload_n (pc2 := 93) dX7_lay_92 4 rfl rfl ?_
                refine V_iconst (v := 1) (pc2 := 94) dX7_lay_93 (by decide) ?_
                refine V_icmp_ne (pc2 := 97) (tgt := 117) dX7_lay_94 (fun c94 => ?_) (fun c94 => ?_)
                · replace h := iF c94 h
                  refine V_iload_n (pc2 := 118) dX7_lay_117 4 rfl rfl ?_
                  refine V_iconst (v := 2) (pc2 := 119) dX7_lay_118 (by decide) ?_
                  refine V_icmp_ne (pc2 := 122) (tgt := 139) dX7_lay_119 (fun c119 => ?_) (fun c119 => ?_)
                  · replace h := iF c119 h
                    refine V_aload (pc2 := 141) dX7_lay_139 1 rfl ?_
                    refine V_iload_n (pc2 := 142) dX7_lay_141 5 rfl rfl ?_
                    obtain ⟨m104, e_m104, h⟩ := bS h
                    refine V_pI (pc2 := 145) e_m104 dX7_lay_142 wP_7_308 rfl rfl ?_
                    refine V_iload (pc2 := 147) dX7_lay_145 0 rfl ?_
                    obtain ⟨e1, e2⟩ := inj2 h
                    subst e1
                    subst e2
                    exact V_iret dX7_lay_147 rfl ⟨rfl, rfl⟩
                  · replace h := iT c119 h
                    refine V_aload (pc2 := 124) dX7_lay_122 1 rfl ?_
                    obtain ⟨r105, e_r105, h⟩ := bS h
                    refine V_gR (pc2 := 127) e_r105 dX7_lay_124 wF_7_301 ?_
                    refine V_aload_n (pc2 := 128) dX7_lay_127 2 rfl rfl ?_
                    obtain ⟨r106, e_r106, h⟩ := bS h
                    refine V_gR (pc2 := 131) e_r106 dX7_lay_128 wF_7_31 ?_
                    refine V_iload_n (pc2 := 132) dX7_lay_131 5 rfl rfl ?_
                    obtain ⟨r107, e_r107, h⟩ := bS h
                    refine V_ldR (pc2 := 133) e_r107 dX7_lay_132 rfl ?_
                    obtain ⟨m108, e_m108, h⟩ := bS h
                    obtain ⟨⟨fs_m108, o_m108⟩, e_m108⟩ := cV_of e_m108
                    refine V_cVv (pc2 := 136) [.ref r107] (st := []) o_m108 (tX3_become e_m108) dX7_lay_133 wV_7_305 (by decide) rfl (Nat.le_of_ble_eq_true rfl) ?_
                    refine V_goto (tgt := 145) dX7_lay_136 ?_
                    refine V_iload (pc2 := 147) dX7_lay_145 0 rfl ?_
                    obtain ⟨e1, e2⟩ := inj2 h
                    subst e1
                    subst e2
                    exact V_iret dX7_lay_147 rfl ⟨rfl, rfl⟩
                · replace h := iT c94 h
                  refine V_aload (pc2 := 99) dX7_lay_97 1 rfl ?_
                  obtain ⟨r109, e_r109, h⟩ := bS h
                  refine V_gR (pc2 := 102) e_r109 dX7_lay_99 wF_7_294 ?_
                  refine V_aload_n (pc2 := 103) dX7_lay_102 2 rfl rfl ?_
                  obtain ⟨r110, e_r110, h⟩ := bS h
                  refine V_gR (pc2 := 106) e_r110 dX7_lay_103 wF_7_10 ?_
                  obtain ⟨r111, e_r111, h⟩ := bS h
                  refine V_gR (pc2 := 109) e_r111 dX7_lay_106 wF_7_115 ?_
                  refine V_iload_n (pc2 := 110) dX7_lay_109 5 rfl rfl ?_
                  obtain ⟨r112, e_r112, h⟩ := bS h
                  refine V_ldR (pc2 := 111) e_r112 dX7_lay_110 rfl ?_
                  obtain ⟨m113, e_m113, h⟩ := bS h
                  obtain ⟨⟨fs_m113, o_m113⟩, e_m113⟩ := cV_of e_m113
                  refine V_cVv (pc2 := 114) [.ref r112] (st := []) o_m113 (tX5_become e_m113) dX7_lay_111 wV_7_298 (by decide) rfl (Nat.le_of_ble_eq_true rfl) ?_
                  refine V_goto (tgt := 145) dX7_lay_114 ?_
                  refine V_iload (pc2 := 147) dX7_lay_145 0 rfl ?_
                  obtain ⟨e1, e2⟩ := inj2 h
                  subst e1
                  subst e2
                  exact V_iret dX7_lay_147 rfl ⟨rfl, rfl⟩
              · replace h := iT c52 h
                refine V_aload_n (pc2 := 56) dX7_lay_55 0 rfl rfl ?_
                obtain ⟨r114, e_r114, h⟩ := bS h
                refine V_gR (pc2 := 59) e_r114 dX7_lay_56 wF_7_31 ?_
                refine V_iload_n (pc2 := 60) dX7_lay_59 3 rfl rfl ?_
                obtain ⟨r115, e_r115, h⟩ := bS h
                refine V_ldR (pc2 := 61) e_r115 dX7_lay_60 rfl ?_
                obtain ⟨x116, e_x116, h⟩ := bS h
                refine V_gI (pc2 := 64) e_x116 dX7_lay_61 wF_7_209 ?_
                refine V_iconst (v := -1) (pc2 := 65) dX7_lay_64 (by decide) ?_
                refine V_icmp_ne (pc2 := 68) (tgt := 71) dX7_lay_65 (fun c65 => ?_) (fun c65 => ?_)
                · replace h := iF c65 h
                  refine V_aload_n (pc2 := 72) dX7_lay_71 0 rfl rfl ?_
                  obtain ⟨r117, e_r117, h⟩ := bS h
                  refine V_gR (pc2 := 75) e_r117 dX7_lay_72 wF_7_37 ?_
                  refine V_iload_n (pc2 := 76) dX7_lay_75 1 rfl rfl ?_
                  obtain ⟨r118, e_r118, h⟩ := bS h
                  refine V_ldR (pc2 := 77) e_r118 dX7_lay_76 rfl ?_
                  refine V_astore (pc2 := 79) (L2 := [(4, .ref r118), (0, .ref a0), (1, .int p0), (2, .int p1), (3, .int p2)]) dX7_lay_77 ?_ rfl rfl
                  refine V_aload (pc2 := 81) dX7_lay_79 0 rfl ?_
                  obtain ⟨x119, e_x119, h⟩ := bS h
                  refine V_gI (pc2 := 84) e_x119 dX7_lay_81 wF_7_291 ?_
                  refine V_istore (pc2 := 86) (L2 := [(5, .int x119), (4, .ref r118), (0, .ref a0), (1, .int p0), (2, .int p1), (3, .int p2)]) dX7_lay_84 ?_ rfl rfl
                  refine V_aload (pc2 := 88) dX7_lay_86 1 rfl ?_
                  refine V_iload_n (pc2 := 89) dX7_lay_88 4 rfl rfl ?_
                  obtain ⟨m120, e_m120, h⟩ := bS h
                  refine V_pI (pc2 := 92) e_m120 dX7_lay_89 wP_7_291 rfl rfl ?_
                  refine V_iload_n (pc2 := 93) dX7_lay_92 4 rfl rfl ?_
                  refine V_iconst (v := 1) (pc2 := 94) dX7_lay_93 (by decide) ?_
                  refine V_icmp_ne (pc2 := 97) (tgt := 117) dX7_lay_94 (fun c94 => ?_) (fun c94 => ?_)
                  · replace h := iF c94 h
                    refine V_iload_n (pc2 := 118) dX7_lay_117 4 rfl rfl ?_
                    refine V_iconst (v := 2) (pc2 := 119) dX7_lay_118 (by decide) ?_
                    refine V_icmp_ne (pc2 := 122) (tgt := 139) dX7_lay_119 (fun c119 => ?_) (fun c119 => ?_)
                    · replace h := iF c119 h
                      refine V_aload (pc2 := 141) dX7_lay_139 1 rfl ?_
                      refine V_iload_n (pc2 := 142) dX7_lay_141 5 rfl rfl ?_
                      obtain ⟨m121, e_m121, h⟩ := bS h
                      refine V_pI (pc2 := 145) e_m121 dX7_lay_142 wP_7_308 rfl rfl ?_
                      refine V_iload (pc2 := 147) dX7_lay_145 0 rfl ?_
                      obtain ⟨e1, e2⟩ := inj2 h
                      subst e1
                      subst e2
                      exact V_iret dX7_lay_147 rfl ⟨rfl, rfl⟩
                    · replace h := iT c119 h
                      refine V_aload (pc2 := 124) dX7_lay_122 1 rfl ?_
                      obtain ⟨r122, e_r122, h⟩ := bS h
                      refine V_gR (pc2 := 127) e_r122 dX7_lay_124 wF_7_301 ?_
                      refine V_aload_n (pc2 := 128) dX7_lay_127 2 rfl rfl ?_
                      obtain ⟨r123, e_r123, h⟩ := bS h
                      refine V_gR (pc2 := 131) e_r123 dX7_lay_128 wF_7_31 ?_
                      refine V_iload_n (pc2 := 132) dX7_lay_131 5 rfl rfl ?_
                      obtain ⟨r124, e_r124, h⟩ := bS h
                      refine V_ldR (pc2 := 133) e_r124 dX7_lay_132 rfl ?_
                      obtain ⟨m125, e_m125, h⟩ := bS h
                      obtain ⟨⟨fs_m125, o_m125⟩, e_m125⟩ := cV_of e_m125
                      refine V_cVv (pc2 := 136) [.ref r124] (st := []) o_m125 (tX3_become e_m125) dX7_lay_133 wV_7_305 (by decide) rfl (Nat.le_of_ble_eq_true rfl) ?_
                      refine V_goto (tgt := 145) dX7_lay_136 ?_
                      refine V_iload (pc2 := 147) dX7_lay_145 0 rfl ?_
                      obtain ⟨e1, e2⟩ := inj2 h
                      subst e1
                      subst e2
                      exact V_iret dX7_lay_147 rfl ⟨rfl, rfl⟩
                  · replace h := iT c94 h
                    refine V_aload (pc2 := 99) dX7_lay_97 1 rfl ?_
                    obtain ⟨r126, e_r126, h⟩ := bS h
                    refine V_gR (pc2 := 102) e_r126 dX7_lay_99 wF_7_294 ?_
                    refine V_aload_n (pc2 := 103) dX7_lay_102 2 rfl rfl ?_
                    obtain ⟨r127, e_r127, h⟩ := bS h
                    refine V_gR (pc2 := 106) e_r127 dX7_lay_103 wF_7_10 ?_
                    obtain ⟨r128, e_r128, h⟩ := bS h
                    refine V_gR (pc2 := 109) e_r128 dX7_lay_106 wF_7_115 ?_
                    refine V_iload_n (pc2 := 110) dX7_lay_109 5 rfl rfl ?_
                    obtain ⟨r129, e_r129, h⟩ := bS h
                    refine V_ldR (pc2 := 111) e_r129 dX7_lay_110 rfl ?_
                    obtain ⟨m130, e_m130, h⟩ := bS h
                    obtain ⟨⟨fs_m130, o_m130⟩, e_m130⟩ := cV_of e_m130
                    refine V_cVv (pc2 := 114) [.ref r129] (st := []) o_m130 (tX5_become e_m130) dX7_lay_111 wV_7_298 (by decide) rfl (Nat.le_of_ble_eq_true rfl) ?_
                    refine V_goto (tgt := 145) dX7_lay_114 ?_
                    refine V_iload (pc2 := 147) dX7_lay_145 0 rfl ?_
                    obtain ⟨e1, e2⟩ := inj2 h
                    subst e1
                    subst e2
                    exact V_iret dX7_lay_147 rfl ⟨rfl, rfl⟩
                · replace h := iT c65 h
                  refine V_ldc (v := -1000000011) (pc2 := 70) dX7_lay_68 wconstant_7_212 ?_
                  obtain ⟨e1, e2⟩ := inj2 h
                  subst e1
                  subst e2
                  exact V_iret dX7_lay_70 rfl ⟨rfl, rfl⟩
            · replace h := iF c44 h
              refine V_ldc (v := -1000000001) (pc2 := 49) dX7_lay_47 wconstant_7_51 ?_
              obtain ⟨e1, e2⟩ := inj2 h
              subst e1
              subst e2
              exact V_iret dX7_lay_49 rfl ⟨rfl, rfl⟩
    · replace h := iF c13 h
      refine V_ldc (v := -1000000001) (pc2 := 18) dX7_lay_16 wconstant_7_51 ?_
      obtain ⟨e1, e2⟩ := inj2 h
      subst e1
      subst e2
      exact V_iret dX7_lay_18 rfl ⟨rfl, rfl⟩
noncomputable def fX4_refusalAs (a0 : Nat) (p0 : Int32) (m : Mem) : Option (Int32) :=
  (gI m a0 4 0).bind fun x1 =>
  if x1 = 0 then
    some (-1000000011 : Int32)
  else
    (gI m a0 4 0).bind fun x2 =>
    if x2 = p0 then
      some (0 : Int32)
    else
      some (-1000000012 : Int32)
set_option maxRecDepth 20000 in
theorem tX4_refusalAs {D : Dat} {a0 : Nat} {p0 : Int32} {m : Mem} {rR : Int32} (h : fX4_refusalAs a0 p0 m = some rR) : T D 0 IX4_refusalAs [.ref a0, .int p0] m 0 0 (Qi rR m) := by
  refine T_of_V (by decide) (Nat.le_of_ble_eq_true rfl) ?_
  show V D 0 IX4_refusalAs 0 [(0, .ref a0), (1, .int p0)] [] m 0 0 (Qi rR m)
  unfold fX4_refusalAs at h
  refine V_aload_n (pc2 := 1) dX4_refusalAs_0 0 rfl rfl ?_
  obtain ⟨x1, e_x1, h⟩ := bS h
  refine V_gI (pc2 := 4) e_x1 dX4_refusalAs_1 wF_4_9 ?_
  refine V_if_ne (pc2 := 7) (tgt := 10) dX4_refusalAs_4 (fun c4 => ?_) (fun c4 => ?_)
  · replace h := iF c4 h
    refine V_aload_n (pc2 := 11) dX4_refusalAs_10 0 rfl rfl ?_
    obtain ⟨x2, e_x2, h⟩ := bS h
    refine V_gI (pc2 := 14) e_x2 dX4_refusalAs_11 wF_4_9 ?_
    refine V_iload_n (pc2 := 15) dX4_refusalAs_14 1 rfl rfl ?_
    refine V_icmp_ne (pc2 := 18) (tgt := 22) dX4_refusalAs_15 (fun c15 => ?_) (fun c15 => ?_)
    · replace h := iF c15 h
      refine V_ldc (v := -1000000012) (pc2 := 24) dX4_refusalAs_22 wconstant_4_30 ?_
      have e1 := inj1 h
      subst e1
      exact V_iret dX4_refusalAs_24 rfl ⟨rfl, rfl⟩
    · replace h := iT c15 h
      refine V_iconst (v := 0) (pc2 := 19) dX4_refusalAs_18 (by decide) ?_
      refine V_goto (tgt := 24) dX4_refusalAs_19 ?_
      have e1 := inj1 h
      subst e1
      exact V_iret dX4_refusalAs_24 rfl ⟨rfl, rfl⟩
  · replace h := iT c4 h
    refine V_ldc (v := -1000000011) (pc2 := 9) dX4_refusalAs_7 wconstant_4_29 ?_
    have e1 := inj1 h
    subst e1
    exact V_iret dX4_refusalAs_9 rfl ⟨rfl, rfl⟩
noncomputable def fX7_ask (a0 : Nat) (p0 : Int32) (p1 : Int32) (m : Mem) : Option (Int32) :=
  (fX7_isSlot p0 m).bind fun b1 =>
  if b1 = true then
    (fX7_isKind p1 m).bind fun b2 =>
    if b2 = true then
      (gR m a0 7 6).bind fun r3 =>
      (ldR m r3 5 p0).bind fun r4 =>
      (cV m r4 4 (fX4_refusalAs r4 (1 : Int32) m)).bind fun x5 =>
      if x5 = 0 then
        (gR m a0 7 6).bind fun r6 =>
        (ldR m r6 5 p0).bind fun r7 =>
        (gR m r7 4 1).bind fun r8 =>
        (cV m r8 5 (fX5_isOf r8 p1 m)).bind fun b9 =>
        if b9 = true then
          (cV m r8 5 (fX5_worth r8 m)).bind fun x10 =>
          some x10
        else
          some (-1000000012 : Int32)
      else
        some x5
    else
      some (-1000000001 : Int32)
  else
    some (-1000000001 : Int32)
set_option maxRecDepth 20000 in
theorem tX7_ask {D : Dat} {a0 : Nat} {p0 : Int32} {p1 : Int32} {m : Mem} {rR : Int32} (h : fX7_ask a0 p0 p1 m = some rR) : T D 3 IX7_ask [.ref a0, .int p0, .int p1] m 0 0 (Qi rR m) := by
  refine T_of_V (by decide) (Nat.le_of_ble_eq_true rfl) ?_
  show V D 3 IX7_ask 0 [(0, .ref a0), (1, .int p0), (2, .int p1)] [] m 0 0 (Qi rR m)
  unfold fX7_ask at h
  refine V_iload_n (pc2 := 1) dX7_ask_0 1 rfl rfl ?_
  obtain ⟨b1, e_b1, h⟩ := bS h
  refine V_cSi (pc2 := 4) [.int p0] (st := []) (tX7_isSlot e_b1) dX7_ask_1 wS_7_288 (by decide) rfl (Nat.le_of_ble_eq_true rfl) ?_
  refine V_ifb_eq (pc2 := 7) (tgt := 14) dX7_ask_4 (fun c4 => ?_) (fun c4 => ?_)
  · replace h := iF c4 h
    refine V_ldc (v := -1000000001) (pc2 := 16) dX7_ask_14 wconstant_7_51 ?_
    have e1 := inj1 h
    subst e1
    exact V_iret dX7_ask_16 rfl ⟨rfl, rfl⟩
  · replace h := iT c4 h
    refine V_iload_n (pc2 := 8) dX7_ask_7 2 rfl rfl ?_
    obtain ⟨b2, e_b2, h⟩ := bS h
    refine V_cSi (pc2 := 11) [.int p1] (st := []) (tX7_isKind e_b2) dX7_ask_8 wS_7_102 (by decide) rfl (Nat.le_of_ble_eq_true rfl) ?_
    refine V_ifb_ne (pc2 := 14) (tgt := 17) dX7_ask_11 (fun c11 => ?_) (fun c11 => ?_)
    · replace h := iT c11 h
      refine V_aload_n (pc2 := 18) dX7_ask_17 0 rfl rfl ?_
      obtain ⟨r3, e_r3, h⟩ := bS h
      refine V_gR (pc2 := 21) e_r3 dX7_ask_18 wF_7_37 ?_
      refine V_iload_n (pc2 := 22) dX7_ask_21 1 rfl rfl ?_
      obtain ⟨r4, e_r4, h⟩ := bS h
      refine V_ldR (pc2 := 23) e_r4 dX7_ask_22 rfl ?_
      refine V_iconst (v := 1) (pc2 := 24) dX7_ask_23 (by decide) ?_
      obtain ⟨x5, e_x5, h⟩ := bS h
      obtain ⟨⟨fs_x5, o_x5⟩, e_x5⟩ := cV_of e_x5
      refine V_cVi (pc2 := 27) [.int (1 : Int32)] (st := []) o_x5 (tX4_refusalAs e_x5) dX7_ask_24 wV_7_311 (by decide) rfl (Nat.le_of_ble_eq_true rfl) ?_
      refine V_istore_n (pc2 := 28) (L2 := [(3, .int x5), (0, .ref a0), (1, .int p0), (2, .int p1)]) dX7_ask_27 ?_ rfl rfl rfl
      refine V_iload_n (pc2 := 29) dX7_ask_28 0 rfl rfl ?_
      refine V_if_eq (pc2 := 32) (tgt := 34) dX7_ask_29 (fun c29 => ?_) (fun c29 => ?_)
      · replace h := iT c29 h
        refine V_aload_n (pc2 := 35) dX7_ask_34 1 rfl rfl ?_
        obtain ⟨r6, e_r6, h⟩ := bS h
        refine V_gR (pc2 := 38) e_r6 dX7_ask_35 wF_7_37 ?_
        refine V_iload_n (pc2 := 39) dX7_ask_38 2 rfl rfl ?_
        obtain ⟨r7, e_r7, h⟩ := bS h
        refine V_ldR (pc2 := 40) e_r7 dX7_ask_39 rfl ?_
        obtain ⟨r8, e_r8, h⟩ := bS h
        refine V_gR (pc2 := 43) e_r8 dX7_ask_40 wF_7_294 ?_
        refine V_astore (pc2 := 45) (L2 := [(4, .ref r8), (3, .int x5), (0, .ref a0), (1, .int p0), (2, .int p1)]) dX7_ask_43 ?_ rfl rfl
        refine V_aload (pc2 := 47) dX7_ask_45 0 rfl ?_
        refine V_iload_n (pc2 := 48) dX7_ask_47 4 rfl rfl ?_
        obtain ⟨b9, e_b9, h⟩ := bS h
        obtain ⟨⟨fs_b9, o_b9⟩, e_b9⟩ := cV_of e_b9
        refine V_cVi (pc2 := 51) [.int p1] (st := []) o_b9 (tX5_isOf e_b9) dX7_ask_48 wV_7_138 (by decide) rfl (Nat.le_of_ble_eq_true rfl) ?_
        refine V_ifb_eq (pc2 := 54) (tgt := 62) dX7_ask_51 (fun c51 => ?_) (fun c51 => ?_)
        · replace h := iF c51 h
          refine V_ldc (v := -1000000012) (pc2 := 64) dX7_ask_62 wconstant_7_141 ?_
          have e1 := inj1 h
          subst e1
          exact V_iret dX7_ask_64 rfl ⟨rfl, rfl⟩
        · replace h := iT c51 h
          refine V_aload (pc2 := 56) dX7_ask_54 0 rfl ?_
          obtain ⟨x10, e_x10, h⟩ := bS h
          obtain ⟨⟨fs_x10, o_x10⟩, e_x10⟩ := cV_of e_x10
          refine V_cVi (pc2 := 59) [] (st := []) o_x10 (tX5_worth e_x10) dX7_ask_56 wV_7_134 (by decide) rfl (Nat.le_of_ble_eq_true rfl) ?_
          refine V_goto (tgt := 64) dX7_ask_59 ?_
          have e1 := inj1 h
          subst e1
          exact V_iret dX7_ask_64 rfl ⟨rfl, rfl⟩
      · replace h := iF c29 h
        refine V_iload_n (pc2 := 33) dX7_ask_32 0 rfl rfl ?_
        have e1 := inj1 h
        subst e1
        exact V_iret dX7_ask_33 rfl ⟨rfl, rfl⟩
    · replace h := iF c11 h
      refine V_ldc (v := -1000000001) (pc2 := 16) dX7_ask_14 wconstant_7_51 ?_
      have e1 := inj1 h
      subst e1
      exact V_iret dX7_ask_16 rfl ⟨rfl, rfl⟩
noncomputable def fX7_item (a0 : Nat) (p0 : Int32) (p1 : Int32) (m : Mem) : Option (Int32) :=
  (fX7_isSlot p0 m).bind fun b1 =>
  if b1 = true then
    (gR m a0 7 6).bind fun r2 =>
    (ldR m r2 5 p0).bind fun r3 =>
    (cV m r3 4 (fX4_refusalAs r3 (2 : Int32) m)).bind fun x4 =>
    if x4 = 0 then
      (gR m a0 7 6).bind fun r5 =>
      (ldR m r5 5 p0).bind fun r6 =>
      (gR m r6 4 2).bind fun r7 =>
      (gI m r7 3 1).bind fun x8 =>
      (fX7_within p1 (0 : Int32) (x8 - (1 : Int32)) m).bind fun b9 =>
      if b9 = true then
        (cV m r7 3 (fX3_isNumber r7 p1 m)).bind fun b10 =>
        if b10 = true then
          (gR m r7 3 2).bind fun r11 =>
          (ldI m r11 p1).bind fun x12 =>
          some x12
        else
          some (-1000000012 : Int32)
      else
        some (-1000000013 : Int32)
    else
      some x4
  else
    some (-1000000001 : Int32)
set_option maxRecDepth 20000 in
theorem tX7_item {D : Dat} {a0 : Nat} {p0 : Int32} {p1 : Int32} {m : Mem} {rR : Int32} (h : fX7_item a0 p0 p1 m = some rR) : T D 2 IX7_item [.ref a0, .int p0, .int p1] m 0 0 (Qi rR m) := by
  refine T_of_V (by decide) (Nat.le_of_ble_eq_true rfl) ?_
  show V D 2 IX7_item 0 [(0, .ref a0), (1, .int p0), (2, .int p1)] [] m 0 0 (Qi rR m)
  unfold fX7_item at h
  refine V_iload_n (pc2 := 1) dX7_item_0 1 rfl rfl ?_
  obtain ⟨b1, e_b1, h⟩ := bS h
  refine V_cSi (pc2 := 4) [.int p0] (st := []) (tX7_isSlot e_b1) dX7_item_1 wS_7_288 (by decide) rfl (Nat.le_of_ble_eq_true rfl) ?_
  refine V_ifb_ne (pc2 := 7) (tgt := 10) dX7_item_4 (fun c4 => ?_) (fun c4 => ?_)
  · replace h := iT c4 h
    refine V_aload_n (pc2 := 11) dX7_item_10 0 rfl rfl ?_
    obtain ⟨r2, e_r2, h⟩ := bS h
    refine V_gR (pc2 := 14) e_r2 dX7_item_11 wF_7_37 ?_
    refine V_iload_n (pc2 := 15) dX7_item_14 1 rfl rfl ?_
    obtain ⟨r3, e_r3, h⟩ := bS h
    refine V_ldR (pc2 := 16) e_r3 dX7_item_15 rfl ?_
    refine V_iconst (v := 2) (pc2 := 17) dX7_item_16 (by decide) ?_
    obtain ⟨x4, e_x4, h⟩ := bS h
    obtain ⟨⟨fs_x4, o_x4⟩, e_x4⟩ := cV_of e_x4
    refine V_cVi (pc2 := 20) [.int (2 : Int32)] (st := []) o_x4 (tX4_refusalAs e_x4) dX7_item_17 wV_7_311 (by decide) rfl (Nat.le_of_ble_eq_true rfl) ?_
    refine V_istore_n (pc2 := 21) (L2 := [(3, .int x4), (0, .ref a0), (1, .int p0), (2, .int p1)]) dX7_item_20 ?_ rfl rfl rfl
    refine V_iload_n (pc2 := 22) dX7_item_21 0 rfl rfl ?_
    refine V_if_eq (pc2 := 25) (tgt := 27) dX7_item_22 (fun c22 => ?_) (fun c22 => ?_)
    · replace h := iT c22 h
      refine V_aload_n (pc2 := 28) dX7_item_27 1 rfl rfl ?_
      obtain ⟨r5, e_r5, h⟩ := bS h
      refine V_gR (pc2 := 31) e_r5 dX7_item_28 wF_7_37 ?_
      refine V_iload_n (pc2 := 32) dX7_item_31 2 rfl rfl ?_
      obtain ⟨r6, e_r6, h⟩ := bS h
      refine V_ldR (pc2 := 33) e_r6 dX7_item_32 rfl ?_
      obtain ⟨r7, e_r7, h⟩ := bS h
      refine V_gR (pc2 := 36) e_r7 dX7_item_33 wF_7_301 ?_
      refine V_astore (pc2 := 38) (L2 := [(4, .ref r7), (3, .int x4), (0, .ref a0), (1, .int p0), (2, .int p1)]) dX7_item_36 ?_ rfl rfl
      refine V_iload_n (pc2 := 39) dX7_item_38 4 rfl rfl ?_
      refine V_iconst (v := 0) (pc2 := 40) dX7_item_39 (by decide) ?_
      refine V_aload (pc2 := 42) dX7_item_40 0 rfl ?_
      obtain ⟨x8, e_x8, h⟩ := bS h
      refine V_gI (pc2 := 45) e_x8 dX7_item_42 wF_7_221 ?_
      refine V_iconst (v := 1) (pc2 := 46) dX7_item_45 (by decide) ?_
      refine V_isub (pc2 := 47) dX7_item_46 ?_
      obtain ⟨b9, e_b9, h⟩ := bS h
      refine V_cSi (pc2 := 50) [.int p1, .int (0 : Int32), .int (x8 - (1 : Int32))] (st := []) (tX7_within e_b9) dX7_item_47 wS_7_47 (by decide) rfl (Nat.le_of_ble_eq_true rfl) ?_
      refine V_ifb_ne (pc2 := 53) (tgt := 57) dX7_item_50 (fun c50 => ?_) (fun c50 => ?_)
      · replace h := iT c50 h
        refine V_aload (pc2 := 59) dX7_item_57 0 rfl ?_
        refine V_iload_n (pc2 := 60) dX7_item_59 4 rfl rfl ?_
        obtain ⟨b10, e_b10, h⟩ := bS h
        obtain ⟨⟨fs_b10, o_b10⟩, e_b10⟩ := cV_of e_b10
        refine V_cVi (pc2 := 63) [.int p1] (st := []) o_b10 (tX3_isNumber e_b10) dX7_item_60 wV_7_224 (by decide) rfl (Nat.le_of_ble_eq_true rfl) ?_
        refine V_ifb_eq (pc2 := 66) (tgt := 76) dX7_item_63 (fun c63 => ?_) (fun c63 => ?_)
        · replace h := iF c63 h
          refine V_ldc (v := -1000000012) (pc2 := 78) dX7_item_76 wconstant_7_141 ?_
          have e1 := inj1 h
          subst e1
          exact V_iret dX7_item_78 rfl ⟨rfl, rfl⟩
        · replace h := iT c63 h
          refine V_aload (pc2 := 68) dX7_item_66 0 rfl ?_
          obtain ⟨r11, e_r11, h⟩ := bS h
          refine V_gR (pc2 := 71) e_r11 dX7_item_68 wF_7_227 ?_
          refine V_iload_n (pc2 := 72) dX7_item_71 4 rfl rfl ?_
          obtain ⟨x12, e_x12, h⟩ := bS h
          refine V_ldI (pc2 := 73) e_x12 dX7_item_72 ?_
          refine V_goto (tgt := 78) dX7_item_73 ?_
          have e1 := inj1 h
          subst e1
          exact V_iret dX7_item_78 rfl ⟨rfl, rfl⟩
      · replace h := iF c50 h
        refine V_ldcw (v := -1000000013) (pc2 := 56) dX7_item_53 wconstant_7_271 ?_
        have e1 := inj1 h
        subst e1
        exact V_iret dX7_item_56 rfl ⟨rfl, rfl⟩
    · replace h := iF c22 h
      refine V_iload_n (pc2 := 26) dX7_item_25 0 rfl rfl ?_
      have e1 := inj1 h
      subst e1
      exact V_iret dX7_item_26 rfl ⟨rfl, rfl⟩
  · replace h := iF c4 h
    refine V_ldc (v := -1000000001) (pc2 := 9) dX7_item_7 wconstant_7_51 ?_
    have e1 := inj1 h
    subst e1
    exact V_iret dX7_item_9 rfl ⟨rfl, rfl⟩
noncomputable def fX7_rest (a0 : Nat) (p0 : Int32) (p1 : Int32) (m : Mem) : Option (Int32) :=
  (fX7_isSlot p0 m).bind fun b1 =>
  if b1 = true then
    (gR m a0 7 6).bind fun r2 =>
    (ldR m r2 5 p0).bind fun r3 =>
    (cV m r3 4 (fX4_refusalAs r3 (3 : Int32) m)).bind fun x4 =>
    if x4 = 0 then
      if p1 = 0 then
        some (-1000000002 : Int32)
      else
        (gR m a0 7 6).bind fun r5 =>
        (ldR m r5 5 p0).bind fun r6 =>
        (gI m r6 4 3).bind fun x7 =>
        (rmI x7 p1).bind fun x8 =>
        some x8
    else
      some x4
  else
    some (-1000000001 : Int32)
set_option maxRecDepth 20000 in
theorem tX7_rest {D : Dat} {a0 : Nat} {p0 : Int32} {p1 : Int32} {m : Mem} {rR : Int32} (h : fX7_rest a0 p0 p1 m = some rR) : T D 2 IX7_rest [.ref a0, .int p0, .int p1] m 0 0 (Qi rR m) := by
  refine T_of_V (by decide) (Nat.le_of_ble_eq_true rfl) ?_
  show V D 2 IX7_rest 0 [(0, .ref a0), (1, .int p0), (2, .int p1)] [] m 0 0 (Qi rR m)
  unfold fX7_rest at h
  refine V_iload_n (pc2 := 1) dX7_rest_0 1 rfl rfl ?_
  obtain ⟨b1, e_b1, h⟩ := bS h
  refine V_cSi (pc2 := 4) [.int p0] (st := []) (tX7_isSlot e_b1) dX7_rest_1 wS_7_288 (by decide) rfl (Nat.le_of_ble_eq_true rfl) ?_
  refine V_ifb_ne (pc2 := 7) (tgt := 10) dX7_rest_4 (fun c4 => ?_) (fun c4 => ?_)
  · replace h := iT c4 h
    refine V_aload_n (pc2 := 11) dX7_rest_10 0 rfl rfl ?_
    obtain ⟨r2, e_r2, h⟩ := bS h
    refine V_gR (pc2 := 14) e_r2 dX7_rest_11 wF_7_37 ?_
    refine V_iload_n (pc2 := 15) dX7_rest_14 1 rfl rfl ?_
    obtain ⟨r3, e_r3, h⟩ := bS h
    refine V_ldR (pc2 := 16) e_r3 dX7_rest_15 rfl ?_
    refine V_iconst (v := 3) (pc2 := 17) dX7_rest_16 (by decide) ?_
    obtain ⟨x4, e_x4, h⟩ := bS h
    obtain ⟨⟨fs_x4, o_x4⟩, e_x4⟩ := cV_of e_x4
    refine V_cVi (pc2 := 20) [.int (3 : Int32)] (st := []) o_x4 (tX4_refusalAs e_x4) dX7_rest_17 wV_7_311 (by decide) rfl (Nat.le_of_ble_eq_true rfl) ?_
    refine V_istore_n (pc2 := 21) (L2 := [(3, .int x4), (0, .ref a0), (1, .int p0), (2, .int p1)]) dX7_rest_20 ?_ rfl rfl rfl
    refine V_iload_n (pc2 := 22) dX7_rest_21 0 rfl rfl ?_
    refine V_if_eq (pc2 := 25) (tgt := 27) dX7_rest_22 (fun c22 => ?_) (fun c22 => ?_)
    · replace h := iT c22 h
      refine V_iload_n (pc2 := 28) dX7_rest_27 3 rfl rfl ?_
      refine V_if_ne (pc2 := 31) (tgt := 36) dX7_rest_28 (fun c28 => ?_) (fun c28 => ?_)
      · replace h := iF c28 h
        refine V_aload_n (pc2 := 37) dX7_rest_36 1 rfl rfl ?_
        obtain ⟨r5, e_r5, h⟩ := bS h
        refine V_gR (pc2 := 40) e_r5 dX7_rest_37 wF_7_37 ?_
        refine V_iload_n (pc2 := 41) dX7_rest_40 2 rfl rfl ?_
        obtain ⟨r6, e_r6, h⟩ := bS h
        refine V_ldR (pc2 := 42) e_r6 dX7_rest_41 rfl ?_
        obtain ⟨x7, e_x7, h⟩ := bS h
        refine V_gI (pc2 := 45) e_x7 dX7_rest_42 wF_7_308 ?_
        refine V_iload_n (pc2 := 46) dX7_rest_45 3 rfl rfl ?_
        obtain ⟨x8, e_x8, h⟩ := bS h
        refine V_rmI (pc2 := 47) e_x8 dX7_rest_46 ?_
        have e1 := inj1 h
        subst e1
        exact V_iret dX7_rest_47 rfl ⟨rfl, rfl⟩
      · replace h := iT c28 h
        refine V_ldc (v := -1000000002) (pc2 := 33) dX7_rest_31 wconstant_7_176 ?_
        refine V_goto (tgt := 47) dX7_rest_33 ?_
        have e1 := inj1 h
        subst e1
        exact V_iret dX7_rest_47 rfl ⟨rfl, rfl⟩
    · replace h := iF c22 h
      refine V_iload_n (pc2 := 26) dX7_rest_25 0 rfl rfl ?_
      have e1 := inj1 h
      subst e1
      exact V_iret dX7_rest_26 rfl ⟨rfl, rfl⟩
  · replace h := iF c4 h
    refine V_ldc (v := -1000000001) (pc2 := 9) dX7_rest_7 wconstant_7_51 ?_
    have e1 := inj1 h
    subst e1
    exact V_iret dX7_rest_9 rfl ⟨rfl, rfl⟩
noncomputable def fX7_tell (a0 : Nat) (p0 : Int32) (m : Mem) : Option (Int32 × Mem) :=
  (gI m a0 7 8).bind fun x1 =>
  if x1 < (60 : Int32) then
    (gR m a0 7 7).bind fun r2 =>
    (gI m a0 7 8).bind fun x3 =>
    (stI m r2 x3 p0).bind fun m4 =>
    (gI m4 a0 7 8).bind fun x5 =>
    (pI m4 a0 7 8 (x5 + (1 : Int32))).bind fun m6 =>
    (gI m6 a0 7 8).bind fun x7 =>
    some (x7, m6)
  else
    some ((-1000000003 : Int32), m)
set_option maxRecDepth 20000 in
theorem tX7_tell {D : Dat} {a0 : Nat} {p0 : Int32} {m : Mem} {rR : Int32} {mR : Mem} (h : fX7_tell a0 p0 m = some (rR, mR)) : T D 0 IX7_tell [.ref a0, .int p0] m 0 0 (Qi rR mR) := by
  refine T_of_V (by decide) (Nat.le_of_ble_eq_true rfl) ?_
  show V D 0 IX7_tell 0 [(0, .ref a0), (1, .int p0)] [] m 0 0 (Qi rR mR)
  unfold fX7_tell at h
  refine V_aload_n (pc2 := 1) dX7_tell_0 0 rfl rfl ?_
  obtain ⟨x1, e_x1, h⟩ := bS h
  refine V_gI (pc2 := 4) e_x1 dX7_tell_1 wF_7_314 ?_
  refine V_bipush (v := 60) (pc2 := 6) dX7_tell_4 (by decide) ?_
  refine V_icmp_lt (pc2 := 9) (tgt := 12) dX7_tell_6 (fun c6 => ?_) (fun c6 => ?_)
  · replace h := iT c6 h
    refine V_aload_n (pc2 := 13) dX7_tell_12 0 rfl rfl ?_
    obtain ⟨r2, e_r2, h⟩ := bS h
    refine V_gR (pc2 := 16) e_r2 dX7_tell_13 wF_7_41 ?_
    refine V_aload_n (pc2 := 17) dX7_tell_16 0 rfl rfl ?_
    obtain ⟨x3, e_x3, h⟩ := bS h
    refine V_gI (pc2 := 20) e_x3 dX7_tell_17 wF_7_314 ?_
    refine V_iload_n (pc2 := 21) dX7_tell_20 1 rfl rfl ?_
    obtain ⟨m4, e_m4, h⟩ := bS h
    refine V_stI (pc2 := 22) e_m4 dX7_tell_21 ?_
    refine V_aload_n (pc2 := 23) dX7_tell_22 0 rfl rfl ?_
    refine V_dup (pc2 := 24) dX7_tell_23 rfl ?_
    obtain ⟨x5, e_x5, h⟩ := bS h
    refine V_gI (pc2 := 27) e_x5 dX7_tell_24 wF_7_314 ?_
    refine V_iconst (v := 1) (pc2 := 28) dX7_tell_27 (by decide) ?_
    refine V_iadd (pc2 := 29) dX7_tell_28 ?_
    obtain ⟨m6, e_m6, h⟩ := bS h
    refine V_pI (pc2 := 32) e_m6 dX7_tell_29 wP_7_314 rfl rfl ?_
    refine V_aload_n (pc2 := 33) dX7_tell_32 0 rfl rfl ?_
    obtain ⟨x7, e_x7, h⟩ := bS h
    refine V_gI (pc2 := 36) e_x7 dX7_tell_33 wF_7_314 ?_
    obtain ⟨e1, e2⟩ := inj2 h
    subst e1
    subst e2
    exact V_iret dX7_tell_36 rfl ⟨rfl, rfl⟩
  · replace h := iF c6 h
    refine V_ldc (v := -1000000003) (pc2 := 11) dX7_tell_9 wconstant_7_56 ?_
    obtain ⟨e1, e2⟩ := inj2 h
    subst e1
    subst e2
    exact V_iret dX7_tell_11 rfl ⟨rfl, rfl⟩
noncomputable def fX7_waitsAt (a0 : Nat) (p0 : Int32) (p1 : Int32) (p2 : Int32) (m : Mem) : Option (Bool) :=
  (fX7_within p0 (0 : Int32) (p1 - (1 : Int32)) m).bind fun b1 =>
  if b1 = true then
    (gR m a0 7 7).bind fun r2 =>
    (ldI m r2 p0).bind fun x3 =>
    if x3 = p2 then
      some true
    else
      some false
  else
    some false
set_option maxRecDepth 20000 in
theorem tX7_waitsAt {D : Dat} {a0 : Nat} {p0 : Int32} {p1 : Int32} {p2 : Int32} {m : Mem} {rR : Bool} (h : fX7_waitsAt a0 p0 p1 p2 m = some rR) : T D 1 IX7_waitsAt [.ref a0, .int p0, .int p1, .int p2] m 0 0 (Qi (zb rR) m) := by
  refine T_of_V (by decide) (Nat.le_of_ble_eq_true rfl) ?_
  show V D 1 IX7_waitsAt 0 [(0, .ref a0), (1, .int p0), (2, .int p1), (3, .int p2)] [] m 0 0 (Qi (zb rR) m)
  unfold fX7_waitsAt at h
  refine V_iload_n (pc2 := 1) dX7_waitsAt_0 1 rfl rfl ?_
  refine V_iconst (v := 0) (pc2 := 2) dX7_waitsAt_1 (by decide) ?_
  refine V_iload_n (pc2 := 3) dX7_waitsAt_2 2 rfl rfl ?_
  refine V_iconst (v := 1) (pc2 := 4) dX7_waitsAt_3 (by decide) ?_
  refine V_isub (pc2 := 5) dX7_waitsAt_4 ?_
  obtain ⟨b1, e_b1, h⟩ := bS h
  refine V_cSi (pc2 := 8) [.int p0, .int (0 : Int32), .int (p1 - (1 : Int32))] (st := []) (tX7_within e_b1) dX7_waitsAt_5 wS_7_47 (by decide) rfl (Nat.le_of_ble_eq_true rfl) ?_
  refine V_ifb_eq (pc2 := 11) (tgt := 25) dX7_waitsAt_8 (fun c8 => ?_) (fun c8 => ?_)
  · replace h := iF c8 h
    refine V_iconst (v := 0) (pc2 := 26) dX7_waitsAt_25 (by decide) ?_
    have e1 := inj1 h
    subst e1
    exact V_bret (b := false) dX7_waitsAt_26 rfl ⟨rfl, rfl⟩
  · replace h := iT c8 h
    refine V_aload_n (pc2 := 12) dX7_waitsAt_11 0 rfl rfl ?_
    obtain ⟨r2, e_r2, h⟩ := bS h
    refine V_gR (pc2 := 15) e_r2 dX7_waitsAt_12 wF_7_41 ?_
    refine V_iload_n (pc2 := 16) dX7_waitsAt_15 1 rfl rfl ?_
    obtain ⟨x3, e_x3, h⟩ := bS h
    refine V_ldI (pc2 := 17) e_x3 dX7_waitsAt_16 ?_
    refine V_iload_n (pc2 := 18) dX7_waitsAt_17 3 rfl rfl ?_
    refine V_icmp_ne (pc2 := 21) (tgt := 25) dX7_waitsAt_18 (fun c18 => ?_) (fun c18 => ?_)
    · replace h := iF c18 h
      refine V_iconst (v := 0) (pc2 := 26) dX7_waitsAt_25 (by decide) ?_
      have e1 := inj1 h
      subst e1
      exact V_bret (b := false) dX7_waitsAt_26 rfl ⟨rfl, rfl⟩
    · replace h := iT c18 h
      refine V_iconst (v := 1) (pc2 := 22) dX7_waitsAt_21 (by decide) ?_
      refine V_goto (tgt := 26) dX7_waitsAt_22 ?_
      have e1 := inj1 h
      subst e1
      exact V_bret (b := true) dX7_waitsAt_26 rfl ⟨rfl, rfl⟩
noncomputable def fX7_check_b0 (a0 : Nat) (x1 : Int32) (x10 : Int32) : Int32 × Mem → Option ((Int32 × Mem) ⊕ (Int32 × Mem)) := fun (y11, m12) =>
  if x10 ≤ y11 then
    if x1 ≤ ((2 : Int32) * x10) then
      some (.inr ((0 : Int32), m12))
    else
      some (.inr ((1 : Int32) + ((2 : Int32) * x10), m12))
  else
    (gR m12 a0 7 1).bind fun r13 =>
    (cV m12 r13 2 (fX2_takeTurn r13 m12)).bind fun (x14, m15) =>
    (cV m15 a0 7 (fX7_waitsAt a0 ((2 : Int32) * y11) x1 x14 m15)).bind fun b16 =>
    if b16 = true then
      (gR m15 a0 7 1).bind fun r17 =>
      (cV m15 r17 2 (fX2_spread r17 m15)).bind fun x18 =>
      (cV m15 a0 7 (fX7_waitsAt a0 (((2 : Int32) * y11) + (1 : Int32)) x1 x18 m15)).bind fun b19 =>
      if b19 = true then
        some (.inl (y11 + (1 : Int32), m15))
      else
        some (.inr ((2 : Int32) + ((2 : Int32) * y11), m15))
    else
      some (.inr ((1 : Int32) + ((2 : Int32) * y11), m15))
noncomputable def fX7_check (a0 : Nat) (p0 : Int32) (m : Mem) : Option (Int32 × Mem) :=
  (gI m a0 7 8).bind fun x1 =>
  (pI m a0 7 8 (0 : Int32)).bind fun m2 =>
  (fX7_within p0 (1 : Int32) (30 : Int32) m2).bind fun b3 =>
  if b3 = true then
    (gI m2 a0 7 3).bind fun x4 =>
    if x4 = 0 then
      some ((-1000000002 : Int32), m2)
    else
      (gR m2 a0 7 1).bind fun r5 =>
      (gR m2 a0 7 2).bind fun r6 =>
      (cV m2 r5 2 (fX2_become r5 r6 m2)).bind fun m7 =>
      (gR m7 a0 7 1).bind fun r8 =>
      (gI m7 r8 2 10).bind fun x9 =>
      (fJ9_min_7cf53 p0 ((9999 : Int32) - x9) m7).bind fun x10 =>
      loopF (fX7_check_b0 a0 x1 x10) bigN ((0 : Int32), m7)
  else
    some ((-1000000001 : Int32), m2)
set_option maxRecDepth 20000 in
theorem tX7_check {D : Dat} {a0 : Nat} {p0 : Int32} {m : Mem} {rR : Int32} {mR : Mem} (h : fX7_check a0 p0 m = some (rR, mR)) : T D 5 IX7_check [.ref a0, .int p0] m 0 0 (Qi rR mR) := by
  refine T_of_V (by decide) (Nat.le_of_ble_eq_true rfl) ?_
  show V D 5 IX7_check 0 [(0, .ref a0), (1, .int p0)] [] m 0 0 (Qi rR mR)
  unfold fX7_check at h
  refine V_aload_n (pc2 := 1) dX7_check_0 0 rfl rfl ?_
  obtain ⟨x1, e_x1, h⟩ := bS h
  refine V_gI (pc2 := 4) e_x1 dX7_check_1 wF_7_314 ?_
  refine V_istore_n (pc2 := 5) (L2 := [(2, .int x1), (0, .ref a0), (1, .int p0)]) dX7_check_4 ?_ rfl rfl rfl
  refine V_aload_n (pc2 := 6) dX7_check_5 1 rfl rfl ?_
  refine V_iconst (v := 0) (pc2 := 7) dX7_check_6 (by decide) ?_
  obtain ⟨m2, e_m2, h⟩ := bS h
  refine V_pI (pc2 := 10) e_m2 dX7_check_7 wP_7_314 rfl rfl ?_
  refine V_iload_n (pc2 := 11) dX7_check_10 2 rfl rfl ?_
  refine V_iconst (v := 1) (pc2 := 12) dX7_check_11 (by decide) ?_
  refine V_bipush (v := 30) (pc2 := 14) dX7_check_12 (by decide) ?_
  obtain ⟨b3, e_b3, h⟩ := bS h
  refine V_cSi (pc2 := 17) [.int p0, .int (1 : Int32), .int (30 : Int32)] (st := []) (tX7_within e_b3) dX7_check_14 wS_7_47 (by decide) rfl (Nat.le_of_ble_eq_true rfl) ?_
  refine V_ifb_ne (pc2 := 20) (tgt := 23) dX7_check_17 (fun c17 => ?_) (fun c17 => ?_)
  · replace h := iT c17 h
    refine V_aload_n (pc2 := 24) dX7_check_23 1 rfl rfl ?_
    obtain ⟨x4, e_x4, h⟩ := bS h
    refine V_gI (pc2 := 27) e_x4 dX7_check_24 wF_7_317 ?_
    refine V_if_ne (pc2 := 30) (tgt := 33) dX7_check_27 (fun c27 => ?_) (fun c27 => ?_)
    · replace h := iF c27 h
      refine V_aload_n (pc2 := 34) dX7_check_33 1 rfl rfl ?_
      obtain ⟨r5, e_r5, h⟩ := bS h
      refine V_gR (pc2 := 37) e_r5 dX7_check_34 wF_7_16 ?_
      refine V_aload_n (pc2 := 38) dX7_check_37 1 rfl rfl ?_
      obtain ⟨r6, e_r6, h⟩ := bS h
      refine V_gR (pc2 := 41) e_r6 dX7_check_38 wF_7_19 ?_
      obtain ⟨m7, e_m7, h⟩ := bS h
      obtain ⟨⟨fs_m7, o_m7⟩, e_m7⟩ := cV_of e_m7
      refine V_cVv (pc2 := 44) [.ref r6] (st := []) o_m7 (tX2_become e_m7) dX7_check_41 wV_7_180 (by decide) rfl (Nat.le_of_ble_eq_true rfl) ?_
      refine V_iload_n (pc2 := 45) dX7_check_44 2 rfl rfl ?_
      refine V_sipush (v := 9999) (pc2 := 48) dX7_check_45 (by decide) ?_
      refine V_aload_n (pc2 := 49) dX7_check_48 1 rfl rfl ?_
      obtain ⟨r8, e_r8, h⟩ := bS h
      refine V_gR (pc2 := 52) e_r8 dX7_check_49 wF_7_16 ?_
      obtain ⟨x9, e_x9, h⟩ := bS h
      refine V_gI (pc2 := 55) e_x9 dX7_check_52 wF_7_163 ?_
      refine V_isub (pc2 := 56) dX7_check_55 ?_
      obtain ⟨x10, e_x10, h⟩ := bS h
      refine V_cSi (pc2 := 59) [.int p0, .int ((9999 : Int32) - x9)] (st := []) (tJ9_min_7cf53 e_x10) dX7_check_56 wS_7_142 (by decide) rfl (Nat.le_of_ble_eq_true rfl) ?_
      refine V_istore_n (pc2 := 60) (L2 := [(3, .int x10), (2, .int x1), (0, .ref a0), (1, .int p0)]) dX7_check_59 ?_ rfl rfl rfl
      refine V_iconst (v := 0) (pc2 := 61) dX7_check_60 (by decide) ?_
      refine V_istore (pc2 := 63) (L2 := [(4, .int (0 : Int32)), (3, .int x10), (2, .int x1), (0, .ref a0), (1, .int p0)]) dX7_check_61 ?_ rfl rfl
      have hl := h
      clear h
      have key63 : ∀ (n : Nat) (y11 : Int32) (m12 : Mem), loopF (fX7_check_b0 a0 x1 x10) n (y11, m12) = some (rR, mR) → V D 5 IX7_check 63 [(0, .ref a0), (2, .int x1), (3, .int x10), (4, .int y11)] [] m12 0 0 (Qi rR mR) := by
        intro n
        induction n with
        | zero => intro y11 m12 h; cases h
        | succ n ih =>
          intro y11 m12 h
          obtain ⟨o, h, ho⟩ := loopF_inv h
          dsimp only [fX7_check_b0] at h
          refine V_iload (pc2 := 65) dX7_check_63 3 rfl ?_
          refine V_iload_n (pc2 := 66) dX7_check_65 2 rfl rfl ?_
          refine V_icmp_ge (pc2 := 69) (tgt := 133) dX7_check_66 (fun c66 => ?_) (fun c66 => ?_)
          · replace h := iT c66 h
            refine V_iload_n (pc2 := 134) dX7_check_133 1 rfl rfl ?_
            refine V_iconst (v := 2) (pc2 := 135) dX7_check_134 (by decide) ?_
            refine V_iload_n (pc2 := 136) dX7_check_135 2 rfl rfl ?_
            refine V_imul (pc2 := 137) dX7_check_136 ?_
            refine V_icmp_le (pc2 := 140) (tgt := 148) dX7_check_137 (fun c137 => ?_) (fun c137 => ?_)
            · replace h := iT c137 h
              refine V_iconst (v := 0) (pc2 := 149) dX7_check_148 (by decide) ?_
              have ee := inj1 h
              subst ee
              obtain ⟨e1, e2⟩ := pinj2 (loopF_e ho)
              subst e1
              subst e2
              exact V_iret dX7_check_149 rfl ⟨rfl, rfl⟩
            · replace h := iF c137 h
              refine V_iconst (v := 1) (pc2 := 141) dX7_check_140 (by decide) ?_
              refine V_iconst (v := 2) (pc2 := 142) dX7_check_141 (by decide) ?_
              refine V_iload_n (pc2 := 143) dX7_check_142 2 rfl rfl ?_
              refine V_imul (pc2 := 144) dX7_check_143 ?_
              refine V_iadd (pc2 := 145) dX7_check_144 ?_
              refine V_goto (tgt := 149) dX7_check_145 ?_
              have ee := inj1 h
              subst ee
              obtain ⟨e1, e2⟩ := pinj2 (loopF_e ho)
              subst e1
              subst e2
              exact V_iret dX7_check_149 rfl ⟨rfl, rfl⟩
          · replace h := iF c66 h
            refine V_aload_n (pc2 := 70) dX7_check_69 0 rfl rfl ?_
            obtain ⟨r13, e_r13, h⟩ := bS h
            refine V_gR (pc2 := 73) e_r13 dX7_check_70 wF_7_16 ?_
            obtain ⟨⟨x14, m15⟩, e_x14, h⟩ := bS h
            try dsimp only at h
            obtain ⟨⟨fs_x14, o_x14⟩, e_x14⟩ := cV_of e_x14
            refine V_cVi (pc2 := 76) [] (st := []) o_x14 (tX2_takeTurn e_x14) dX7_check_73 wV_7_166 (by decide) rfl (Nat.le_of_ble_eq_true rfl) ?_
            refine V_istore (pc2 := 78) (L2 := [(5, .int x14), (0, .ref a0), (2, .int x1), (3, .int x10), (4, .int y11)]) dX7_check_76 ?_ rfl rfl
            refine V_aload_n (pc2 := 79) dX7_check_78 1 rfl rfl ?_
            refine V_iconst (v := 2) (pc2 := 80) dX7_check_79 (by decide) ?_
            refine V_iload (pc2 := 82) dX7_check_80 4 rfl ?_
            refine V_imul (pc2 := 83) dX7_check_82 ?_
            refine V_iload_n (pc2 := 84) dX7_check_83 2 rfl rfl ?_
            refine V_iload (pc2 := 86) dX7_check_84 0 rfl ?_
            obtain ⟨b16, e_b16, h⟩ := bS h
            obtain ⟨⟨fs_b16, o_b16⟩, e_b16⟩ := cV_of e_b16
            refine V_cVi (pc2 := 89) [.int ((2 : Int32) * y11), .int x1, .int x14] (st := []) o_b16 (tX7_waitsAt e_b16) dX7_check_86 wV_7_321 (by decide) rfl (Nat.le_of_ble_eq_true rfl) ?_
            refine V_ifb_ne (pc2 := 92) (tgt := 99) dX7_check_89 (fun c89 => ?_) (fun c89 => ?_)
            · replace h := iT c89 h
              refine V_aload_n (pc2 := 100) dX7_check_99 1 rfl rfl ?_
              refine V_iconst (v := 2) (pc2 := 101) dX7_check_100 (by decide) ?_
              refine V_iload (pc2 := 103) dX7_check_101 4 rfl ?_
              refine V_imul (pc2 := 104) dX7_check_103 ?_
              refine V_iconst (v := 1) (pc2 := 105) dX7_check_104 (by decide) ?_
              refine V_iadd (pc2 := 106) dX7_check_105 ?_
              refine V_iload_n (pc2 := 107) dX7_check_106 2 rfl rfl ?_
              refine V_aload_n (pc2 := 108) dX7_check_107 1 rfl rfl ?_
              obtain ⟨r17, e_r17, h⟩ := bS h
              refine V_gR (pc2 := 111) e_r17 dX7_check_108 wF_7_16 ?_
              obtain ⟨x18, e_x18, h⟩ := bS h
              obtain ⟨⟨fs_x18, o_x18⟩, e_x18⟩ := cV_of e_x18
              refine V_cVi (pc2 := 114) [] (st := [.int x1, .int (((2 : Int32) * y11) + (1 : Int32)), .ref a0]) o_x18 (tX2_spread e_x18) dX7_check_111 wV_7_187 (by decide) rfl (Nat.le_of_ble_eq_true rfl) ?_
              obtain ⟨b19, e_b19, h⟩ := bS h
              obtain ⟨⟨fs_b19, o_b19⟩, e_b19⟩ := cV_of e_b19
              refine V_cVi (pc2 := 117) [.int (((2 : Int32) * y11) + (1 : Int32)), .int x1, .int x18] (st := []) o_b19 (tX7_waitsAt e_b19) dX7_check_114 wV_7_321 (by decide) rfl (Nat.le_of_ble_eq_true rfl) ?_
              refine V_ifb_ne (pc2 := 120) (tgt := 127) dX7_check_117 (fun c117 => ?_) (fun c117 => ?_)
              · replace h := iT c117 h
                refine V_iinc (pc2 := 130) (v := y11 + (1 : Int32)) (L2 := [(4, .int (y11 + (1 : Int32))), (5, .int x14), (0, .ref a0), (2, .int x1), (3, .int x10)]) dX7_check_127 4 rfl (by rfl) ?_ rfl rfl
                refine V_goto (tgt := 63) dX7_check_130 ?_
                have ee := inj1 h
                subst ee
                exact V_lv (ih _ _ (loopF_c ho)) [2, 3, 4, 0] rfl
              · replace h := iF c117 h
                refine V_iconst (v := 2) (pc2 := 121) dX7_check_120 (by decide) ?_
                refine V_iconst (v := 2) (pc2 := 122) dX7_check_121 (by decide) ?_
                refine V_iload (pc2 := 124) dX7_check_122 4 rfl ?_
                refine V_imul (pc2 := 125) dX7_check_124 ?_
                refine V_iadd (pc2 := 126) dX7_check_125 ?_
                have ee := inj1 h
                subst ee
                obtain ⟨e1, e2⟩ := pinj2 (loopF_e ho)
                subst e1
                subst e2
                exact V_iret dX7_check_126 rfl ⟨rfl, rfl⟩
            · replace h := iF c89 h
              refine V_iconst (v := 1) (pc2 := 93) dX7_check_92 (by decide) ?_
              refine V_iconst (v := 2) (pc2 := 94) dX7_check_93 (by decide) ?_
              refine V_iload (pc2 := 96) dX7_check_94 4 rfl ?_
              refine V_imul (pc2 := 97) dX7_check_96 ?_
              refine V_iadd (pc2 := 98) dX7_check_97 ?_
              have ee := inj1 h
              subst ee
              obtain ⟨e1, e2⟩ := pinj2 (loopF_e ho)
              subst e1
              subst e2
              exact V_iret dX7_check_98 rfl ⟨rfl, rfl⟩
      exact V_lv (key63 _ _ _ hl) [3, 2, 1, 0] rfl
    · replace h := iT c27 h
      refine V_ldc (v := -1000000002) (pc2 := 32) dX7_check_30 wconstant_7_176 ?_
      obtain ⟨e1, e2⟩ := inj2 h
      subst e1
      subst e2
      exact V_iret dX7_check_32 rfl ⟨rfl, rfl⟩
  · replace h := iF c17 h
    refine V_ldc (v := -1000000001) (pc2 := 22) dX7_check_20 wconstant_7_51 ?_
    obtain ⟨e1, e2⟩ := inj2 h
    subst e1
    subst e2
    exact V_iret dX7_check_22 rfl ⟨rfl, rfl⟩
