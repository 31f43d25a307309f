noncomputable def fX7_go_b0 (a0 : Nat) (x4 : Int32) : Int32 × Mem → Option ((Int32 × Mem) ⊕ Mem) := fun (y5, m6) =>
  if x4 ≤ y5 then
    some (.inr m6)
  else
    (gR m6 a0 7 0).bind fun r7 =>
    (cV m6 r7 2 (fX2_takeTurn r7 m6)).bind fun (x8, m9) =>
    some (.inl (y5 + (1 : Int32), m9))
noncomputable def fX7_go (a0 : Nat) (p0 : Int32) (m : Mem) : Option (Int32 × Mem) :=
  (fX7_within p0 (1 : Int32) (100 : Int32) m).bind fun b1 =>
  if b1 = true then
    (gR m a0 7 0).bind fun r2 =>
    (gI m r2 2 10).bind fun x3 =>
    (fJ9_min_7cf53 p0 ((9999 : Int32) - x3) m).bind fun x4 =>
    (loopF (fX7_go_b0 a0 x4) bigN ((0 : Int32), m)).bind fun m10 =>
    (gR m10 a0 7 0).bind fun r11 =>
    (gI m10 r11 2 12).bind fun x12 =>
    some (x12, m10)
  else
    some ((-1000000001 : Int32), m)
set_option maxRecDepth 20000 in
theorem tX7_go {D : Dat} {a0 : Nat} {p0 : Int32} {m : Mem} {rR : Int32} {mR : Mem} (h : fX7_go a0 p0 m = some (rR, mR)) : T D 5 IX7_go [.ref a0, .int p0] m 0 0 (Qi rR mR) := by
  refine T_of_V (by decide) (Nat.le_of_ble_eq_true rfl) ?_
  show V D 5 IX7_go 0 [(0, .ref a0), (1, .int p0)] [] m 0 0 (Qi rR mR)
  unfold fX7_go at h
  refine V_iload_n (pc2 := 1) dX7_go_0 1 rfl rfl ?_
  refine V_iconst (v := 1) (pc2 := 2) dX7_go_1 (by decide) ?_
  refine V_bipush (v := 100) (pc2 := 4) dX7_go_2 (by decide) ?_
  obtain ⟨b1, e_b1, h⟩ := bS h
  refine V_cSi (pc2 := 7) [.int p0, .int (1 : Int32), .int (100 : Int32)] (st := []) (tX7_within e_b1) dX7_go_4 wS_7_47 (by decide) rfl (Nat.le_of_ble_eq_true rfl) ?_
  refine V_ifb_ne (pc2 := 10) (tgt := 13) dX7_go_7 (fun c7 => ?_) (fun c7 => ?_)
  · replace h := iT c7 h
    refine V_iload_n (pc2 := 14) dX7_go_13 1 rfl rfl ?_
    refine V_sipush (v := 9999) (pc2 := 17) dX7_go_14 (by decide) ?_
    refine V_aload_n (pc2 := 18) dX7_go_17 0 rfl rfl ?_
    obtain ⟨r2, e_r2, h⟩ := bS h
    refine V_gR (pc2 := 21) e_r2 dX7_go_18 wF_7_10 ?_
    obtain ⟨x3, e_x3, h⟩ := bS h
    refine V_gI (pc2 := 24) e_x3 dX7_go_21 wF_7_163 ?_
    refine V_isub (pc2 := 25) dX7_go_24 ?_
    obtain ⟨x4, e_x4, h⟩ := bS h
    refine V_cSi (pc2 := 28) [.int p0, .int ((9999 : Int32) - x3)] (st := []) (tJ9_min_7cf53 e_x4) dX7_go_25 wS_7_142 (by decide) rfl (Nat.le_of_ble_eq_true rfl) ?_
    refine V_istore_n (pc2 := 29) (L2 := [(2, .int x4), (0, .ref a0), (1, .int p0)]) dX7_go_28 ?_ rfl rfl rfl
    refine V_iconst (v := 0) (pc2 := 30) dX7_go_29 (by decide) ?_
    refine V_istore_n (pc2 := 31) (L2 := [(3, .int (0 : Int32)), (2, .int x4), (0, .ref a0), (1, .int p0)]) dX7_go_30 ?_ rfl rfl rfl
    obtain ⟨m10, hl, h⟩ := bS h
    have hJ50 : V D 5 IX7_go 50 [(0, .ref a0)] [] m10 0 0 (Qi rR mR) := by
      refine V_aload_n (pc2 := 51) dX7_go_50 0 rfl rfl ?_
      obtain ⟨r11, e_r11, h⟩ := bS h
      refine V_gR (pc2 := 54) e_r11 dX7_go_51 wF_7_10 ?_
      obtain ⟨x12, e_x12, h⟩ := bS h
      refine V_gI (pc2 := 57) e_x12 dX7_go_54 wF_7_99 ?_
      obtain ⟨e1, e2⟩ := inj2 h
      subst e1
      subst e2
      exact V_iret dX7_go_57 rfl ⟨rfl, rfl⟩
    clear h
    have key31 : ∀ (n : Nat) (y5 : Int32) (m6 : Mem), loopF (fX7_go_b0 a0 x4) n (y5, m6) = some m10 → V D 5 IX7_go 31 [(0, .ref a0), (2, .int x4), (3, .int y5)] [] m6 0 0 (Qi rR mR) := by
      intro n
      induction n with
      | zero => intro y5 m6 h; cases h
      | succ n ih =>
        intro y5 m6 h
        obtain ⟨o, h, ho⟩ := loopF_inv h
        dsimp only [fX7_go_b0] at h
        refine V_iload_n (pc2 := 32) dX7_go_31 2 rfl rfl ?_
        refine V_iload_n (pc2 := 33) dX7_go_32 1 rfl rfl ?_
        refine V_icmp_ge (pc2 := 36) (tgt := 50) dX7_go_33 (fun c33 => ?_) (fun c33 => ?_)
        · replace h := iT c33 h
          have ee := inj1 h
          subst ee
          have e1 := pinj1 (loopF_e ho)
          subst e1
          exact V_lv hJ50 [0] rfl
        · replace h := iF c33 h
          refine V_aload_n (pc2 := 37) dX7_go_36 0 rfl rfl ?_
          obtain ⟨r7, e_r7, h⟩ := bS h
          refine V_gR (pc2 := 40) e_r7 dX7_go_37 wF_7_10 ?_
          obtain ⟨⟨x8, m9⟩, e_x8, h⟩ := bS h
          try dsimp only at h
          obtain ⟨⟨fs_x8, o_x8⟩, e_x8⟩ := cV_of e_x8
          refine V_cVi (pc2 := 43) [] (st := []) o_x8 (tX2_takeTurn e_x8) dX7_go_40 wV_7_166 (by decide) rfl (Nat.le_of_ble_eq_true rfl) ?_
          refine V_pop (pc2 := 44) dX7_go_43 rfl ?_
          refine V_iinc (pc2 := 47) (v := y5 + (1 : Int32)) (L2 := [(3, .int (y5 + (1 : Int32))), (0, .ref a0), (2, .int x4)]) dX7_go_44 2 rfl (by rfl) ?_ rfl rfl
          refine V_goto (tgt := 31) dX7_go_47 ?_
          have ee := inj1 h
          subst ee
          exact V_lv (ih _ _ (loopF_c ho)) [1, 2, 0] rfl
    exact V_lv (key31 _ _ _ hl) [2, 1, 0] rfl
  · replace h := iF c7 h
    refine V_ldc (v := -1000000001) (pc2 := 12) dX7_go_10 wconstant_7_51 ?_
    obtain ⟨e1, e2⟩ := inj2 h
    subst e1
    subst e2
    exact V_iret dX7_go_12 rfl ⟨rfl, rfl⟩
noncomputable def fX7_odds_b0 (a0 : Nat) (p0 : Int32) (q5 : Nat) (x9 : Int32) : Int32 × Int32 × Mem → Option ((Int32 × Int32 × Mem) ⊕ (Int32 × Mem)) := fun (y11, y12, m13) =>
  if (10 : Int32) ≤ y12 then
    some (.inr (y11, m13))
  else
    (gR m13 a0 7 0).bind fun r14 =>
    (gR m13 a0 7 0).bind fun r15 =>
    (gR m13 a0 7 0).bind fun r16 =>
    (cV m13 r16 2 (fX2_lastsBy r16 q5 y12 m13)).bind fun (x17, m18) =>
    (cV m18 r15 2 (fX2_landsBehind r15 x17 x9 m18)).bind fun x19 =>
    (cV m18 r14 2 (fX2_goesTo r14 q5 x19 m18)).bind fun x20 =>
    (
      if x20 = p0 then
        some (y11 + (1 : Int32))
      else
        some y11).bind fun y21 =>
    some (.inl (y21, y12 + (1 : Int32), m18))
noncomputable def fX7_odds (a0 : Nat) (p0 : Int32) (m : Mem) : Option (Int32 × Mem) :=
  (gR m a0 7 0).bind fun r1 =>
  (cV m r1 2 (fX2_isChild r1 p0 m)).bind fun b2 =>
  if b2 = true then
    (gR m a0 7 0).bind fun r3 =>
    (cV m r3 2 (fX2_stopNow r3 m)).bind fun r4 =>
    match r4 with
    | none =>
      some ((-1000000002 : Int32), m)
    | some q5 =>
      (gR m a0 7 0).bind fun r6 =>
      (cV m r6 2 (fX2_inCount r6 m)).bind fun x7 =>
      if x7 = 0 then
        some ((-1000000002 : Int32), m)
      else
        (gR m a0 7 0).bind fun r8 =>
        (cV m r8 2 (fX2_measureRound r8 m)).bind fun (x9, m10) =>
        (loopF (fX7_odds_b0 a0 p0 q5 x9) bigN ((0 : Int32), (0 : Int32), m10)).bind fun (y22, m23) =>
        some (y22, m23)
  else
    some ((-1000000001 : Int32), m)
set_option maxRecDepth 20000 in
theorem tX7_odds {D : Dat} {a0 : Nat} {p0 : Int32} {m : Mem} {rR : Int32} {mR : Mem} (h : fX7_odds a0 p0 m = some (rR, mR)) : T D 4 IX7_odds [.ref a0, .int p0] m 0 0 (Qi rR mR) := by
  refine T_of_V (by decide) (Nat.le_of_ble_eq_true rfl) ?_
  show V D 4 IX7_odds 0 [(0, .ref a0), (1, .int p0)] [] m 0 0 (Qi rR mR)
  unfold fX7_odds at h
  refine V_aload_n (pc2 := 1) dX7_odds_0 0 rfl rfl ?_
  obtain ⟨r1, e_r1, h⟩ := bS h
  refine V_gR (pc2 := 4) e_r1 dX7_odds_1 wF_7_10 ?_
  refine V_iload_n (pc2 := 5) dX7_odds_4 1 rfl rfl ?_
  obtain ⟨b2, e_b2, h⟩ := bS h
  obtain ⟨⟨fs_b2, o_b2⟩, e_b2⟩ := cV_of e_b2
  refine V_cVi (pc2 := 8) [.int p0] (st := []) o_b2 (tX2_isChild e_b2) dX7_odds_5 wV_7_72 (by decide) rfl (Nat.le_of_ble_eq_true rfl) ?_
  refine V_ifb_ne (pc2 := 11) (tgt := 14) dX7_odds_8 (fun c8 => ?_) (fun c8 => ?_)
  · replace h := iT c8 h
    refine V_aload_n (pc2 := 15) dX7_odds_14 0 rfl rfl ?_
    obtain ⟨r3, e_r3, h⟩ := bS h
    refine V_gR (pc2 := 18) e_r3 dX7_odds_15 wF_7_10 ?_
    obtain ⟨r4, e_r4, h⟩ := bS h
    obtain ⟨⟨fs_r4, o_r4⟩, e_r4⟩ := cV_of e_r4
    refine V_cVq (pc2 := 21) [] (st := []) o_r4 (tX2_stopNow e_r4) dX7_odds_18 wV_7_169 (by decide) rfl (Nat.le_of_ble_eq_true rfl) ?_
    refine V_astoreq_n (pc2 := 22) (L2 := [(2, va_rf r4), (0, .ref a0), (1, .int p0)]) dX7_odds_21 ?_ rfl rfl rfl
    refine V_aloadq_n (pc2 := 23) dX7_odds_22 0 rfl rfl ?_
    refine V_ifnull (pc2 := 26) (tgt := 36) dX7_odds_23 (fun c => ?_) (fun q5 c => ?_)
    · subst c
      try dsimp only at h
      refine V_ldc (v := -1000000002) (pc2 := 38) dX7_odds_36 wconstant_7_176 ?_
      obtain ⟨e1, e2⟩ := inj2 h
      subst e1
      subst e2
      exact V_iret dX7_odds_38 rfl ⟨rfl, rfl⟩
    · subst c
      try dsimp only at h
      refine V_aload_n (pc2 := 27) dX7_odds_26 1 rfl rfl ?_
      obtain ⟨r6, e_r6, h⟩ := bS h
      refine V_gR (pc2 := 30) e_r6 dX7_odds_27 wF_7_10 ?_
      obtain ⟨x7, e_x7, h⟩ := bS h
      obtain ⟨⟨fs_x7, o_x7⟩, e_x7⟩ := cV_of e_x7
      refine V_cVi (pc2 := 33) [] (st := []) o_x7 (tX2_inCount e_x7) dX7_odds_30 wV_7_173 (by decide) rfl (Nat.le_of_ble_eq_true rfl) ?_
      refine V_if_ne (pc2 := 36) (tgt := 39) dX7_odds_33 (fun c33 => ?_) (fun c33 => ?_)
      · replace h := iF c33 h
        refine V_aload_n (pc2 := 40) dX7_odds_39 1 rfl rfl ?_
        obtain ⟨r8, e_r8, h⟩ := bS h
        refine V_gR (pc2 := 43) e_r8 dX7_odds_40 wF_7_10 ?_
        obtain ⟨⟨x9, m10⟩, e_x9, h⟩ := bS h
        try dsimp only at h
        obtain ⟨⟨fs_x9, o_x9⟩, e_x9⟩ := cV_of e_x9
        refine V_cVi (pc2 := 46) [] (st := []) o_x9 (tX2_measureRound e_x9) dX7_odds_43 wV_7_157 (by decide) rfl (Nat.le_of_ble_eq_true rfl) ?_
        refine V_istore_n (pc2 := 47) (L2 := [(3, .int x9), (2, .ref q5), (0, .ref a0), (1, .int p0)]) dX7_odds_46 ?_ rfl rfl rfl
        refine V_iconst (v := 0) (pc2 := 48) dX7_odds_47 (by decide) ?_
        refine V_istore (pc2 := 50) (L2 := [(4, .int (0 : Int32)), (3, .int x9), (2, .ref q5), (0, .ref a0), (1, .int p0)]) dX7_odds_48 ?_ rfl rfl
        refine V_iconst (v := 0) (pc2 := 51) dX7_odds_50 (by decide) ?_
        refine V_istore (pc2 := 53) (L2 := [(5, .int (0 : Int32)), (4, .int (0 : Int32)), (3, .int x9), (2, .ref q5), (0, .ref a0), (1, .int p0)]) dX7_odds_51 ?_ rfl rfl
        obtain ⟨⟨y22, m23⟩, hl, h⟩ := bS h
        try dsimp only at h
        have hJ99 : V D 4 IX7_odds 99 [(4, .int y22)] [] m23 0 0 (Qi rR mR) := by
          refine V_iload (pc2 := 101) dX7_odds_99 0 rfl ?_
          obtain ⟨e1, e2⟩ := inj2 h
          subst e1
          subst e2
          exact V_iret dX7_odds_101 rfl ⟨rfl, rfl⟩
        clear h
        have key53 : ∀ (n : Nat) (y11 : Int32) (y12 : Int32) (m13 : Mem), loopF (fX7_odds_b0 a0 p0 q5 x9) n (y11, y12, m13) = some (y22, m23) → V D 4 IX7_odds 53 [(0, .ref a0), (1, .int p0), (2, .ref q5), (3, .int x9), (4, .int y11), (5, .int y12)] [] m13 0 0 (Qi rR mR) := by
          intro n
          induction n with
          | zero => intro y11 y12 m13 h; cases h
          | succ n ih =>
            intro y11 y12 m13 h
            obtain ⟨o, h, ho⟩ := loopF_inv h
            dsimp only [fX7_odds_b0] at h
            refine V_iload (pc2 := 55) dX7_odds_53 5 rfl ?_
            refine V_bipush (v := 10) (pc2 := 57) dX7_odds_55 (by decide) ?_
            refine V_icmp_ge (pc2 := 60) (tgt := 99) dX7_odds_57 (fun c57 => ?_) (fun c57 => ?_)
            · replace h := iT c57 h
              have ee := inj1 h
              subst ee
              obtain ⟨e1, e2⟩ := pinj2 (loopF_e ho)
              subst e1
              subst e2
              exact V_lv hJ99 [4] rfl
            · replace h := iF c57 h
              refine V_aload_n (pc2 := 61) dX7_odds_60 0 rfl rfl ?_
              obtain ⟨r14, e_r14, h⟩ := bS h
              refine V_gR (pc2 := 64) e_r14 dX7_odds_61 wF_7_10 ?_
              refine V_aload_n (pc2 := 65) dX7_odds_64 2 rfl rfl ?_
              refine V_aload_n (pc2 := 66) dX7_odds_65 0 rfl rfl ?_
              obtain ⟨r15, e_r15, h⟩ := bS h
              refine V_gR (pc2 := 69) e_r15 dX7_odds_66 wF_7_10 ?_
              refine V_aload_n (pc2 := 70) dX7_odds_69 0 rfl rfl ?_
              obtain ⟨r16, e_r16, h⟩ := bS h
              refine V_gR (pc2 := 73) e_r16 dX7_odds_70 wF_7_10 ?_
              refine V_aload_n (pc2 := 74) dX7_odds_73 2 rfl rfl ?_
              refine V_iload (pc2 := 76) dX7_odds_74 5 rfl ?_
              obtain ⟨⟨x17, m18⟩, e_x17, h⟩ := bS h
              try dsimp only at h
              obtain ⟨⟨fs_x17, o_x17⟩, e_x17⟩ := cV_of e_x17
              refine V_cVi (pc2 := 79) [.ref q5, .int y12] (st := [.ref r15, .ref q5, .ref r14]) o_x17 (tX2_lastsBy e_x17) dX7_odds_76 wV_7_130 (by decide) rfl (Nat.le_of_ble_eq_true rfl) ?_
              refine V_iload_n (pc2 := 80) dX7_odds_79 3 rfl rfl ?_
              obtain ⟨x19, e_x19, h⟩ := bS h
              obtain ⟨⟨fs_x19, o_x19⟩, e_x19⟩ := cV_of e_x19
              refine V_cVi (pc2 := 83) [.int x17, .int x9] (st := [.ref q5, .ref r14]) o_x19 (tX2_landsBehind e_x19) dX7_odds_80 wV_7_160 (by decide) rfl (Nat.le_of_ble_eq_true rfl) ?_
              obtain ⟨x20, e_x20, h⟩ := bS h
              obtain ⟨⟨fs_x20, o_x20⟩, e_x20⟩ := cV_of e_x20
              refine V_cVi (pc2 := 86) [.ref q5, .int x19] (st := []) o_x20 (tX2_goesTo e_x20) dX7_odds_83 wV_7_177 (by decide) rfl (Nat.le_of_ble_eq_true rfl) ?_
              refine V_iload_n (pc2 := 87) dX7_odds_86 1 rfl rfl ?_
              obtain ⟨y21, hb, h⟩ := bS h
              have hJ93 : V D 4 IX7_odds 93 [(0, .ref a0), (1, .int p0), (2, .ref q5), (3, .int x9), (4, .int y21), (5, .int y12)] [] m18 0 0 (Qi rR mR) := by
                refine V_iinc (pc2 := 96) (v := y12 + (1 : Int32)) (L2 := [(5, .int (y12 + (1 : Int32))), (0, .ref a0), (1, .int p0), (2, .ref q5), (3, .int x9), (4, .int y21)]) dX7_odds_93 5 rfl (by rfl) ?_ rfl rfl
                refine V_goto (tgt := 53) dX7_odds_96 ?_
                have ee := inj1 h
                subst ee
                exact V_lv (ih _ _ _ (loopF_c ho)) [1, 2, 3, 4, 5, 0] rfl
              clear h
              have h := hb
              clear hb
              refine V_icmp_ne (pc2 := 90) (tgt := 93) dX7_odds_87 (fun c87 => ?_) (fun c87 => ?_)
              · replace h := iF c87 h
                have e1 := inj1 h
                subst e1
                exact hJ93
              · replace h := iT c87 h
                refine V_iinc (pc2 := 93) (v := y11 + (1 : Int32)) (L2 := [(4, .int (y11 + (1 : Int32))), (0, .ref a0), (1, .int p0), (2, .ref q5), (3, .int x9), (5, .int y12)]) dX7_odds_90 4 rfl (by rfl) ?_ rfl rfl
                have e1 := inj1 h
                subst e1
                exact V_lv hJ93 [1, 2, 3, 4, 0, 5] rfl
        exact V_lv (key53 _ _ _ _ hl) [4, 5, 3, 2, 1, 0] rfl
      · replace h := iT c33 h
        refine V_ldc (v := -1000000002) (pc2 := 38) dX7_odds_36 wconstant_7_176 ?_
        obtain ⟨e1, e2⟩ := inj2 h
        subst e1
        subst e2
        exact V_iret dX7_odds_38 rfl ⟨rfl, rfl⟩
  · replace h := iF c8 h
    refine V_ldc (v := -1000000001) (pc2 := 13) dX7_odds_11 wconstant_7_51 ?_
    obtain ⟨e1, e2⟩ := inj2 h
    subst e1
    subst e2
    exact V_iret dX7_odds_13 rfl ⟨rfl, rfl⟩
noncomputable def fX0_become (a0 : Nat) (p0 : Nat) (m : Mem) : Option (Mem) :=
  (gI m p0 0 0).bind fun x1 =>
  (pI m a0 0 0 x1).bind fun m2 =>
  (gI m2 p0 0 1).bind fun x3 =>
  (pI m2 a0 0 1 x3).bind fun m4 =>
  (gI m4 p0 0 2).bind fun x5 =>
  (pI m4 a0 0 2 x5).bind fun m6 =>
  some m6
set_option maxRecDepth 20000 in
theorem tX0_become {D : Dat} {a0 : Nat} {p0 : Nat} {m : Mem} {mR : Mem} (h : fX0_become a0 p0 m = some mR) : T D 0 IX0_become [.ref a0, .ref p0] m 0 0 (Qv mR) := by
  refine T_of_V (by decide) (Nat.le_of_ble_eq_true rfl) ?_
  show V D 0 IX0_become 0 [(0, .ref a0), (1, .ref p0)] [] m 0 0 (Qv mR)
  unfold fX0_become at h
  refine V_aload_n (pc2 := 1) dX0_become_0 0 rfl rfl ?_
  refine V_aload_n (pc2 := 2) dX0_become_1 1 rfl rfl ?_
  obtain ⟨x1, e_x1, h⟩ := bS h
  refine V_gI (pc2 := 5) e_x1 dX0_become_2 wF_0_7 ?_
  obtain ⟨m2, e_m2, h⟩ := bS h
  refine V_pI (pc2 := 8) e_m2 dX0_become_5 wP_0_7 rfl rfl ?_
  refine V_aload_n (pc2 := 9) dX0_become_8 0 rfl rfl ?_
  refine V_aload_n (pc2 := 10) dX0_become_9 1 rfl rfl ?_
  obtain ⟨x3, e_x3, h⟩ := bS h
  refine V_gI (pc2 := 13) e_x3 dX0_become_10 wF_0_13 ?_
  obtain ⟨m4, e_m4, h⟩ := bS h
  refine V_pI (pc2 := 16) e_m4 dX0_become_13 wP_0_13 rfl rfl ?_
  refine V_aload_n (pc2 := 17) dX0_become_16 0 rfl rfl ?_
  refine V_aload_n (pc2 := 18) dX0_become_17 1 rfl rfl ?_
  obtain ⟨x5, e_x5, h⟩ := bS h
  refine V_gI (pc2 := 21) e_x5 dX0_become_18 wF_0_16 ?_
  obtain ⟨m6, e_m6, h⟩ := bS h
  refine V_pI (pc2 := 24) e_m6 dX0_become_21 wP_0_16 rfl rfl ?_
  have e1 := inj1 h
  subst e1
  exact V_vret dX0_become_24 rfl ⟨rfl, rfl⟩
noncomputable def fX5_become (a0 : Nat) (p0 : Nat) (m : Mem) : Option (Mem) :=
  (gI m p0 5 0).bind fun x1 =>
  (pI m a0 5 0 x1).bind fun m2 =>
  (gI m2 p0 5 1).bind fun x3 =>
  (pI m2 a0 5 1 x3).bind fun m4 =>
  (gI m4 p0 5 2).bind fun x5 =>
  (pI m4 a0 5 2 x5).bind fun m6 =>
  some m6
set_option maxRecDepth 20000 in
theorem tX5_become {D : Dat} {a0 : Nat} {p0 : Nat} {m : Mem} {mR : Mem} (h : fX5_become a0 p0 m = some mR) : T D 0 IX5_become [.ref a0, .ref p0] m 0 0 (Qv mR) := by
  refine T_of_V (by decide) (Nat.le_of_ble_eq_true rfl) ?_
  show V D 0 IX5_become 0 [(0, .ref a0), (1, .ref p0)] [] m 0 0 (Qv mR)
  unfold fX5_become at h
  refine V_aload_n (pc2 := 1) dX5_become_0 0 rfl rfl ?_
  refine V_aload_n (pc2 := 2) dX5_become_1 1 rfl rfl ?_
  obtain ⟨x1, e_x1, h⟩ := bS h
  refine V_gI (pc2 := 5) e_x1 dX5_become_2 wF_5_9 ?_
  obtain ⟨m2, e_m2, h⟩ := bS h
  refine V_pI (pc2 := 8) e_m2 dX5_become_5 wP_5_9 rfl rfl ?_
  refine V_aload_n (pc2 := 9) dX5_become_8 0 rfl rfl ?_
  refine V_aload_n (pc2 := 10) dX5_become_9 1 rfl rfl ?_
  obtain ⟨x3, e_x3, h⟩ := bS h
  refine V_gI (pc2 := 13) e_x3 dX5_become_10 wF_5_15 ?_
  obtain ⟨m4, e_m4, h⟩ := bS h
  refine V_pI (pc2 := 16) e_m4 dX5_become_13 wP_5_15 rfl rfl ?_
  refine V_aload_n (pc2 := 17) dX5_become_16 0 rfl rfl ?_
  refine V_aload_n (pc2 := 18) dX5_become_17 1 rfl rfl ?_
  obtain ⟨x5, e_x5, h⟩ := bS h
  refine V_gI (pc2 := 21) e_x5 dX5_become_18 wF_5_18 ?_
  obtain ⟨m6, e_m6, h⟩ := bS h
  refine V_pI (pc2 := 24) e_m6 dX5_become_21 wP_5_18 rfl rfl ?_
  have e1 := inj1 h
  subst e1
  exact V_vret dX5_become_24 rfl ⟨rfl, rfl⟩
noncomputable def fX2_become_b2 (a0 : Nat) (p0 : Nat) : Int32 × Mem → Option ((Int32 × Mem) ⊕ Mem) := fun (y30, m31) =>
  (gI m31 a0 2 7).bind fun x32 =>
  if x32 ≤ y30 then
    some (.inr m31)
  else
    (gR m31 a0 2 6).bind fun r33 =>
    (gR m31 p0 2 6).bind fun r34 =>
    (ldR m31 r34 3 y30).bind fun r35 =>
    (stR m31 r33 3 6 y30 r35).bind fun m36 =>
    some (.inl (y30 + (1 : Int32), m36))
noncomputable def fX2_become_b1 (a0 : Nat) (p0 : Nat) : Int32 × Mem → Option ((Int32 × Mem) ⊕ Mem) := fun (y19, m20) =>
  (gI m20 a0 2 5).bind fun x21 =>
  if x21 ≤ y19 then
    some (.inr m20)
  else
    (gR m20 a0 2 4).bind fun r22 =>
    (ldR m20 r22 2 y19).bind fun r23 =>
    (gR m20 p0 2 4).bind fun r24 =>
    (ldR m20 r24 2 y19).bind fun r25 =>
    (cV m20 r23 5 (fX5_become r23 r25 m20)).bind fun m26 =>
    some (.inl (y19 + (1 : Int32), m26))
noncomputable def fX2_become_b0 (a0 : Nat) (p0 : Nat) : Int32 × Mem → Option ((Int32 × Mem) ⊕ Mem) := fun (y3, m4) =>
  (gI m4 a0 2 1).bind fun x5 =>
  if x5 ≤ y3 then
    some (.inr m4)
  else
    (gR m4 a0 2 0).bind fun r6 =>
    (ldR m4 r6 1 y3).bind fun r7 =>
    (gR m4 p0 2 0).bind fun r8 =>
    (ldR m4 r8 1 y3).bind fun r9 =>
    (cV m4 r7 0 (fX0_become r7 r9 m4)).bind fun m10 =>
    some (.inl (y3 + (1 : Int32), m10))
noncomputable def fX2_become (a0 : Nat) (p0 : Nat) (m : Mem) : Option (Mem) :=
  (gI m p0 2 1).bind fun x1 =>
  (pI m a0 2 1 x1).bind fun m2 =>
  (loopF (fX2_become_b0 a0 p0) bigN ((0 : Int32), m2)).bind fun m11 =>
  (gI m11 p0 2 3).bind fun x12 =>
  (pI m11 a0 2 3 x12).bind fun m13 =>
  (gR m13 p0 2 2).bind fun r14 =>
  (gR m13 a0 2 2).bind fun r15 =>
  (cpI m13 r14 (0 : Int32) r15 (0 : Int32) (20 : Int32)).bind fun m16 =>
  (gI m16 p0 2 5).bind fun x17 =>
  (pI m16 a0 2 5 x17).bind fun m18 =>
  (loopF (fX2_become_b1 a0 p0) bigN ((0 : Int32), m18)).bind fun m27 =>
  (gI m27 p0 2 7).bind fun x28 =>
  (pI m27 a0 2 7 x28).bind fun m29 =>
  (loopF (fX2_become_b2 a0 p0) bigN ((0 : Int32), m29)).bind fun m37 =>
  (gR m37 p0 2 8).bind fun r38 =>
  (gR m37 a0 2 8).bind fun r39 =>
  (cpI m37 r38 (0 : Int32) r39 (0 : Int32) (3 : Int32)).bind fun m40 =>
  (gI m40 p0 2 10).bind fun x41 =>
  (pI m40 a0 2 10 x41).bind fun m42 =>
  (gI m42 p0 2 11).bind fun x43 =>
  (pI m42 a0 2 11 x43).bind fun m44 =>
  (gI m44 p0 2 12).bind fun x45 =>
  (pI m44 a0 2 12 x45).bind fun m46 =>
  (gI m46 p0 2 13).bind fun x47 =>
  (pI m46 a0 2 13 x47).bind fun m48 =>
  (gI m48 p0 2 14).bind fun x49 =>
  (pI m48 a0 2 14 x49).bind fun m50 =>
  (gI m50 p0 2 15).bind fun x51 =>
  (pI m50 a0 2 15 x51).bind fun m52 =>
  (gI m52 p0 2 16).bind fun x53 =>
  (pI m52 a0 2 16 x53).bind fun m54 =>
  (gI m54 p0 2 17).bind fun x55 =>
  (pI m54 a0 2 17 x55).bind fun m56 =>
  some m56
set_option maxRecDepth 20000 in
theorem tX2_become {D : Dat} {a0 : Nat} {p0 : Nat} {m : Mem} {mR : Mem} (h : fX2_become a0 p0 m = some mR) : T D 2 IX2_become [.ref a0, .ref p0] m 0 0 (Qv mR) := by
  refine T_of_V (by decide) (Nat.le_of_ble_eq_true rfl) ?_
  show V D 2 IX2_become 0 [(0, .ref a0), (1, .ref p0)] [] m 0 0 (Qv mR)
  unfold fX2_become at h
  refine V_aload_n (pc2 := 1) dX2_become_0 0 rfl rfl ?_
  refine V_aload_n (pc2 := 2) dX2_become_1 1 rfl rfl ?_
  obtain ⟨x1, e_x1, h⟩ := bS h
  refine V_gI (pc2 := 5) e_x1 dX2_become_2 wF_2_48 ?_
  obtain ⟨m2, e_m2, h⟩ := bS h
  refine V_pI (pc2 := 8) e_m2 dX2_become_5 wP_2_48 rfl rfl ?_
  refine V_iconst (v := 0) (pc2 := 9) dX2_become_8 (by decide) ?_
  refine V_istore_n (pc2 := 10) (L2 := [(2, .int (0 : Int32)), (0, .ref a0), (1, .ref p0)]) dX2_become_9 ?_ rfl rfl rfl
  obtain ⟨m11, hl, h⟩ := bS h
  have hJ39 : V D 2 IX2_become 39 [(0, .ref a0), (1, .ref p0)] [] m11 0 0 (Qv mR) := by
    refine V_aload_n (pc2 := 40) dX2_become_39 0 rfl rfl ?_
    refine V_aload_n (pc2 := 41) dX2_become_40 1 rfl rfl ?_
    obtain ⟨x12, e_x12, h⟩ := bS h
    refine V_gI (pc2 := 44) e_x12 dX2_become_41 wF_2_55 ?_
    obtain ⟨m13, e_m13, h⟩ := bS h
    refine V_pI (pc2 := 47) e_m13 dX2_become_44 wP_2_55 rfl rfl ?_
    refine V_aload_n (pc2 := 48) dX2_become_47 1 rfl rfl ?_
    obtain ⟨r14, e_r14, h⟩ := bS h
    refine V_gR (pc2 := 51) e_r14 dX2_become_48 wF_2_17 ?_
    refine V_iconst (v := 0) (pc2 := 52) dX2_become_51 (by decide) ?_
    refine V_aload_n (pc2 := 53) dX2_become_52 0 rfl rfl ?_
    obtain ⟨r15, e_r15, h⟩ := bS h
    refine V_gR (pc2 := 56) e_r15 dX2_become_53 wF_2_17 ?_
    refine V_iconst (v := 0) (pc2 := 57) dX2_become_56 (by decide) ?_
    refine V_bipush (v := 20) (pc2 := 59) dX2_become_57 (by decide) ?_
    obtain ⟨m16, e_m16, h⟩ := bS h
    refine V_cpI (pc2 := 62) e_m16 dX2_become_59 (by decide) (Nat.le_of_ble_eq_true rfl) wmethodLink_2_58 clk ?_
    refine V_aload_n (pc2 := 63) dX2_become_62 0 rfl rfl ?_
    refine V_aload_n (pc2 := 64) dX2_become_63 1 rfl rfl ?_
    obtain ⟨x17, e_x17, h⟩ := bS h
    refine V_gI (pc2 := 67) e_x17 dX2_become_64 wF_2_64 ?_
    obtain ⟨m18, e_m18, h⟩ := bS h
    refine V_pI (pc2 := 70) e_m18 dX2_become_67 wP_2_64 rfl rfl ?_
    refine V_iconst (v := 0) (pc2 := 71) dX2_become_70 (by decide) ?_
    refine V_istore_n (pc2 := 72) (L2 := [(2, .int (0 : Int32)), (0, .ref a0), (1, .ref p0)]) dX2_become_71 ?_ rfl rfl rfl
    obtain ⟨m27, hl, h⟩ := bS h
    have hJ101 : V D 2 IX2_become 101 [(0, .ref a0), (1, .ref p0)] [] m27 0 0 (Qv mR) := by
      refine V_aload_n (pc2 := 102) dX2_become_101 0 rfl rfl ?_
      refine V_aload_n (pc2 := 103) dX2_become_102 1 rfl rfl ?_
      obtain ⟨x28, e_x28, h⟩ := bS h
      refine V_gI (pc2 := 106) e_x28 dX2_become_103 wF_2_70 ?_
      obtain ⟨m29, e_m29, h⟩ := bS h
      refine V_pI (pc2 := 109) e_m29 dX2_become_106 wP_2_70 rfl rfl ?_
      refine V_iconst (v := 0) (pc2 := 110) dX2_become_109 (by decide) ?_
      refine V_istore_n (pc2 := 111) (L2 := [(2, .int (0 : Int32)), (0, .ref a0), (1, .ref p0)]) dX2_become_110 ?_ rfl rfl rfl
      obtain ⟨m37, hl, h⟩ := bS h
      have hJ137 : V D 2 IX2_become 137 [(0, .ref a0), (1, .ref p0)] [] m37 0 0 (Qv mR) := by
        refine V_aload_n (pc2 := 138) dX2_become_137 1 rfl rfl ?_
        obtain ⟨r38, e_r38, h⟩ := bS h
        refine V_gR (pc2 := 141) e_r38 dX2_become_138 wF_2_33 ?_
        refine V_iconst (v := 0) (pc2 := 142) dX2_become_141 (by decide) ?_
        refine V_aload_n (pc2 := 143) dX2_become_142 0 rfl rfl ?_
        obtain ⟨r39, e_r39, h⟩ := bS h
        refine V_gR (pc2 := 146) e_r39 dX2_become_143 wF_2_33 ?_
        refine V_iconst (v := 0) (pc2 := 147) dX2_become_146 (by decide) ?_
        refine V_iconst (v := 3) (pc2 := 148) dX2_become_147 (by decide) ?_
        obtain ⟨m40, e_m40, h⟩ := bS h
        refine V_cpI (pc2 := 151) e_m40 dX2_become_148 (by decide) (Nat.le_of_ble_eq_true rfl) wmethodLink_2_58 clk ?_
        refine V_aload_n (pc2 := 152) dX2_become_151 0 rfl rfl ?_
        refine V_aload_n (pc2 := 153) dX2_become_152 1 rfl rfl ?_
        obtain ⟨x41, e_x41, h⟩ := bS h
        refine V_gI (pc2 := 156) e_x41 dX2_become_153 wF_2_73 ?_
        obtain ⟨m42, e_m42, h⟩ := bS h
        refine V_pI (pc2 := 159) e_m42 dX2_become_156 wP_2_73 rfl rfl ?_
        refine V_aload_n (pc2 := 160) dX2_become_159 0 rfl rfl ?_
        refine V_aload_n (pc2 := 161) dX2_become_160 1 rfl rfl ?_
        obtain ⟨x43, e_x43, h⟩ := bS h
        refine V_gI (pc2 := 164) e_x43 dX2_become_161 wF_2_39 ?_
        obtain ⟨m44, e_m44, h⟩ := bS h
        refine V_pI (pc2 := 167) e_m44 dX2_become_164 wP_2_39 rfl rfl ?_
        refine V_aload_n (pc2 := 168) dX2_become_167 0 rfl rfl ?_
        refine V_aload_n (pc2 := 169) dX2_become_168 1 rfl rfl ?_
        obtain ⟨x45, e_x45, h⟩ := bS h
        refine V_gI (pc2 := 172) e_x45 dX2_become_169 wF_2_76 ?_
        obtain ⟨m46, e_m46, h⟩ := bS h
        refine V_pI (pc2 := 175) e_m46 dX2_become_172 wP_2_76 rfl rfl ?_
        refine V_aload_n (pc2 := 176) dX2_become_175 0 rfl rfl ?_
        refine V_aload_n (pc2 := 177) dX2_become_176 1 rfl rfl ?_
        obtain ⟨x47, e_x47, h⟩ := bS h
        refine V_gI (pc2 := 180) e_x47 dX2_become_177 wF_2_79 ?_
        obtain ⟨m48, e_m48, h⟩ := bS h
        refine V_pI (pc2 := 183) e_m48 dX2_become_180 wP_2_79 rfl rfl ?_
        refine V_aload_n (pc2 := 184) dX2_become_183 0 rfl rfl ?_
        refine V_aload_n (pc2 := 185) dX2_become_184 1 rfl rfl ?_
        obtain ⟨x49, e_x49, h⟩ := bS h
        refine V_gI (pc2 := 188) e_x49 dX2_become_185 wF_2_82 ?_
        obtain ⟨m50, e_m50, h⟩ := bS h
        refine V_pI (pc2 := 191) e_m50 dX2_become_188 wP_2_82 rfl rfl ?_
        refine V_aload_n (pc2 := 192) dX2_become_191 0 rfl rfl ?_
        refine V_aload_n (pc2 := 193) dX2_become_192 1 rfl rfl ?_
        obtain ⟨x51, e_x51, h⟩ := bS h
        refine V_gI (pc2 := 196) e_x51 dX2_become_193 wF_2_85 ?_
        obtain ⟨m52, e_m52, h⟩ := bS h
        refine V_pI (pc2 := 199) e_m52 dX2_become_196 wP_2_85 rfl rfl ?_
        refine V_aload_n (pc2 := 200) dX2_become_199 0 rfl rfl ?_
        refine V_aload_n (pc2 := 201) dX2_become_200 1 rfl rfl ?_
        obtain ⟨x53, e_x53, h⟩ := bS h
        refine V_gI (pc2 := 204) e_x53 dX2_become_201 wF_2_88 ?_
        obtain ⟨m54, e_m54, h⟩ := bS h
        refine V_pI (pc2 := 207) e_m54 dX2_become_204 wP_2_88 rfl rfl ?_
        refine V_aload_n (pc2 := 208) dX2_become_207 0 rfl rfl ?_
        refine V_aload_n (pc2 := 209) dX2_become_208 1 rfl rfl ?_
        obtain ⟨x55, e_x55, h⟩ := bS h
        refine V_gI (pc2 := 212) e_x55 dX2_become_209 wF_2_43 ?_
        obtain ⟨m56, e_m56, h⟩ := bS h
        refine V_pI (pc2 := 215) e_m56 dX2_become_212 wP_2_43 rfl rfl ?_
        have e1 := inj1 h
        subst e1
        exact V_vret dX2_become_215 rfl ⟨rfl, rfl⟩
      clear h
      have key111 : ∀ (n : Nat) (y30 : Int32) (m31 : Mem), loopF (fX2_become_b2 a0 p0) n (y30, m31) = some m37 → V D 2 IX2_become 111 [(0, .ref a0), (1, .ref p0), (2, .int y30)] [] m31 0 0 (Qv mR) := by
        intro n
        induction n with
        | zero => intro y30 m31 h; cases h
        | succ n ih =>
          intro y30 m31 h
          obtain ⟨o, h, ho⟩ := loopF_inv h
          dsimp only [fX2_become_b2] at h
          refine V_iload_n (pc2 := 112) dX2_become_111 2 rfl rfl ?_
          refine V_aload_n (pc2 := 113) dX2_become_112 0 rfl rfl ?_
          obtain ⟨x32, e_x32, h⟩ := bS h
          refine V_gI (pc2 := 116) e_x32 dX2_become_113 wF_2_70 ?_
          refine V_icmp_ge (pc2 := 119) (tgt := 137) dX2_become_116 (fun c116 => ?_) (fun c116 => ?_)
          · replace h := iT c116 h
            have ee := inj1 h
            subst ee
            have e1 := pinj1 (loopF_e ho)
            subst e1
            exact V_lv hJ137 [0, 1] rfl
          · replace h := iF c116 h
            refine V_aload_n (pc2 := 120) dX2_become_119 0 rfl rfl ?_
            obtain ⟨r33, e_r33, h⟩ := bS h
            refine V_gR (pc2 := 123) e_r33 dX2_become_120 wF_2_29 ?_
            refine V_iload_n (pc2 := 124) dX2_become_123 2 rfl rfl ?_
            refine V_aload_n (pc2 := 125) dX2_become_124 1 rfl rfl ?_
            obtain ⟨r34, e_r34, h⟩ := bS h
            refine V_gR (pc2 := 128) e_r34 dX2_become_125 wF_2_29 ?_
            refine V_iload_n (pc2 := 129) dX2_become_128 2 rfl rfl ?_
            obtain ⟨r35, e_r35, h⟩ := bS h
            refine V_ldR (pc2 := 130) e_r35 dX2_become_129 rfl ?_
            obtain ⟨m36, e_m36, h⟩ := bS h
            refine V_stR (pc2 := 131) e_m36 dX2_become_130 rfl rfl ?_
            refine V_iinc (pc2 := 134) (v := y30 + (1 : Int32)) (L2 := [(2, .int (y30 + (1 : Int32))), (0, .ref a0), (1, .ref p0)]) dX2_become_131 2 rfl (by rfl) ?_ rfl rfl
            refine V_goto (tgt := 111) dX2_become_134 ?_
            have ee := inj1 h
            subst ee
            exact V_lv (ih _ _ (loopF_c ho)) [1, 2, 0] rfl
      exact V_lv (key111 _ _ _ hl) [1, 2, 0] rfl
    clear h
    have key72 : ∀ (n : Nat) (y19 : Int32) (m20 : Mem), loopF (fX2_become_b1 a0 p0) n (y19, m20) = some m27 → V D 2 IX2_become 72 [(0, .ref a0), (1, .ref p0), (2, .int y19)] [] m20 0 0 (Qv mR) := by
      intro n
      induction n with
      | zero => intro y19 m20 h; cases h
      | succ n ih =>
        intro y19 m20 h
        obtain ⟨o, h, ho⟩ := loopF_inv h
        dsimp only [fX2_become_b1] at h
        refine V_iload_n (pc2 := 73) dX2_become_72 2 rfl rfl ?_
        refine V_aload_n (pc2 := 74) dX2_become_73 0 rfl rfl ?_
        obtain ⟨x21, e_x21, h⟩ := bS h
        refine V_gI (pc2 := 77) e_x21 dX2_become_74 wF_2_64 ?_
        refine V_icmp_ge (pc2 := 80) (tgt := 101) dX2_become_77 (fun c77 => ?_) (fun c77 => ?_)
        · replace h := iT c77 h
          have ee := inj1 h
          subst ee
          have e1 := pinj1 (loopF_e ho)
          subst e1
          exact V_lv hJ101 [0, 1] rfl
        · replace h := iF c77 h
          refine V_aload_n (pc2 := 81) dX2_become_80 0 rfl rfl ?_
          obtain ⟨r22, e_r22, h⟩ := bS h
          refine V_gR (pc2 := 84) e_r22 dX2_become_81 wF_2_23 ?_
          refine V_iload_n (pc2 := 85) dX2_become_84 2 rfl rfl ?_
          obtain ⟨r23, e_r23, h⟩ := bS h
          refine V_ldR (pc2 := 86) e_r23 dX2_become_85 rfl ?_
          refine V_aload_n (pc2 := 87) dX2_become_86 1 rfl rfl ?_
          obtain ⟨r24, e_r24, h⟩ := bS h
          refine V_gR (pc2 := 90) e_r24 dX2_become_87 wF_2_23 ?_
          refine V_iload_n (pc2 := 91) dX2_become_90 2 rfl rfl ?_
          obtain ⟨r25, e_r25, h⟩ := bS h
          refine V_ldR (pc2 := 92) e_r25 dX2_become_91 rfl ?_
          obtain ⟨m26, e_m26, h⟩ := bS h
          obtain ⟨⟨fs_m26, o_m26⟩, e_m26⟩ := cV_of e_m26
          refine V_cVv (pc2 := 95) [.ref r25] (st := []) o_m26 (tX5_become e_m26) dX2_become_92 wV_2_67 (by decide) rfl (Nat.le_of_ble_eq_true rfl) ?_
          refine V_iinc (pc2 := 98) (v := y19 + (1 : Int32)) (L2 := [(2, .int (y19 + (1 : Int32))), (0, .ref a0), (1, .ref p0)]) dX2_become_95 2 rfl (by rfl) ?_ rfl rfl
          refine V_goto (tgt := 72) dX2_become_98 ?_
          have ee := inj1 h
          subst ee
          exact V_lv (ih _ _ (loopF_c ho)) [1, 2, 0] rfl
    exact V_lv (key72 _ _ _ hl) [1, 2, 0] rfl
  clear h
  have key10 : ∀ (n : Nat) (y3 : Int32) (m4 : Mem), loopF (fX2_become_b0 a0 p0) n (y3, m4) = some m11 → V D 2 IX2_become 10 [(0, .ref a0), (1, .ref p0), (2, .int y3)] [] m4 0 0 (Qv mR) := by
    intro n
    induction n with
    | zero => intro y3 m4 h; cases h
    | succ n ih =>
      intro y3 m4 h
      obtain ⟨o, h, ho⟩ := loopF_inv h
      dsimp only [fX2_become_b0] at h
      refine V_iload_n (pc2 := 11) dX2_become_10 2 rfl rfl ?_
      refine V_aload_n (pc2 := 12) dX2_become_11 0 rfl rfl ?_
      obtain ⟨x5, e_x5, h⟩ := bS h
      refine V_gI (pc2 := 15) e_x5 dX2_become_12 wF_2_48 ?_
      refine V_icmp_ge (pc2 := 18) (tgt := 39) dX2_become_15 (fun c15 => ?_) (fun c15 => ?_)
      · replace h := iT c15 h
        have ee := inj1 h
        subst ee
        have e1 := pinj1 (loopF_e ho)
        subst e1
        exact V_lv hJ39 [0, 1] rfl
      · replace h := iF c15 h
        refine V_aload_n (pc2 := 19) dX2_become_18 0 rfl rfl ?_
        obtain ⟨r6, e_r6, h⟩ := bS h
        refine V_gR (pc2 := 22) e_r6 dX2_become_19 wF_2_11 ?_
        refine V_iload_n (pc2 := 23) dX2_become_22 2 rfl rfl ?_
        obtain ⟨r7, e_r7, h⟩ := bS h
        refine V_ldR (pc2 := 24) e_r7 dX2_become_23 rfl ?_
        refine V_aload_n (pc2 := 25) dX2_become_24 1 rfl rfl ?_
        obtain ⟨r8, e_r8, h⟩ := bS h
        refine V_gR (pc2 := 28) e_r8 dX2_become_25 wF_2_11 ?_
        refine V_iload_n (pc2 := 29) dX2_become_28 2 rfl rfl ?_
        obtain ⟨r9, e_r9, h⟩ := bS h
        refine V_ldR (pc2 := 30) e_r9 dX2_become_29 rfl ?_
        obtain ⟨m10, e_m10, h⟩ := bS h
        obtain ⟨⟨fs_m10, o_m10⟩, e_m10⟩ := cV_of e_m10
        refine V_cVv (pc2 := 33) [.ref r9] (st := []) o_m10 (tX0_become e_m10) dX2_become_30 wV_2_51 (by decide) rfl (Nat.le_of_ble_eq_true rfl) ?_
        refine V_iinc (pc2 := 36) (v := y3 + (1 : Int32)) (L2 := [(2, .int (y3 + (1 : Int32))), (0, .ref a0), (1, .ref p0)]) dX2_become_33 2 rfl (by rfl) ?_ rfl rfl
        refine V_goto (tgt := 10) dX2_become_36 ?_
        have ee := inj1 h
        subst ee
        exact V_lv (ih _ _ (loopF_c ho)) [1, 2, 0] rfl
  exact V_lv (key10 _ _ _ hl) [1, 2, 0] rfl
noncomputable def fX2_hadNone_b0 (a0 : Nat) (m : Mem) : Int32 × Int32 → Option ((Int32 × Int32) ⊕ Int32) := fun (y1, y2) =>
  (gI m a0 2 1).bind fun x3 =>
  if x3 ≤ y2 then
    some (.inr y1)
  else
    (gR m a0 2 0).bind fun r4 =>
    (ldR m r4 1 y2).bind fun r5 =>
    (gI m r5 0 1).bind fun x6 =>
    (
      if x6 = 0 then
        some (y1 + (1 : Int32))
      else
        some y1).bind fun y7 =>
    some (.inl (y7, y2 + (1 : Int32)))
noncomputable def fX2_hadNone (a0 : Nat) (m : Mem) : Option (Int32) :=
  (loopF (fX2_hadNone_b0 a0 m) bigN ((0 : Int32), (0 : Int32))).bind fun y8 =>
  some y8
set_option maxRecDepth 20000 in
theorem tX2_hadNone {D : Dat} {a0 : Nat} {m : Mem} {rR : Int32} (h : fX2_hadNone a0 m = some rR) : T D 0 IX2_hadNone [.ref a0] m 0 0 (Qi rR m) := by
  refine T_of_V (by decide) (Nat.le_of_ble_eq_true rfl) ?_
  show V D 0 IX2_hadNone 0 [(0, .ref a0)] [] m 0 0 (Qi rR m)
  unfold fX2_hadNone at h
  refine V_iconst (v := 0) (pc2 := 1) dX2_hadNone_0 (by decide) ?_
  refine V_istore_n (pc2 := 2) (L2 := [(1, .int (0 : Int32)), (0, .ref a0)]) dX2_hadNone_1 ?_ rfl rfl rfl
  refine V_iconst (v := 0) (pc2 := 3) dX2_hadNone_2 (by decide) ?_
  refine V_istore_n (pc2 := 4) (L2 := [(2, .int (0 : Int32)), (1, .int (0 : Int32)), (0, .ref a0)]) dX2_hadNone_3 ?_ rfl rfl rfl
  obtain ⟨y8, hl, h⟩ := bS h
  have hJ33 : V D 0 IX2_hadNone 33 [(1, .int y8)] [] m 0 0 (Qi rR m) := by
    refine V_iload_n (pc2 := 34) dX2_hadNone_33 0 rfl rfl ?_
    have e1 := inj1 h
    subst e1
    exact V_iret dX2_hadNone_34 rfl ⟨rfl, rfl⟩
  clear h
  have key4 : ∀ (n : Nat) (y1 : Int32) (y2 : Int32), loopF (fX2_hadNone_b0 a0 m) n (y1, y2) = some y8 → V D 0 IX2_hadNone 4 [(0, .ref a0), (1, .int y1), (2, .int y2)] [] m 0 0 (Qi rR m) := by
    intro n
    induction n with
    | zero => intro y1 y2 h; cases h
    | succ n ih =>
      intro y1 y2 h
      obtain ⟨o, h, ho⟩ := loopF_inv h
      dsimp only [fX2_hadNone_b0] at h
      refine V_iload_n (pc2 := 5) dX2_hadNone_4 2 rfl rfl ?_
      refine V_aload_n (pc2 := 6) dX2_hadNone_5 0 rfl rfl ?_
      obtain ⟨x3, e_x3, h⟩ := bS h
      refine V_gI (pc2 := 9) e_x3 dX2_hadNone_6 wF_2_48 ?_
      refine V_icmp_ge (pc2 := 12) (tgt := 33) dX2_hadNone_9 (fun c9 => ?_) (fun c9 => ?_)
      · replace h := iT c9 h
        have ee := inj1 h
        subst ee
        have e1 := pinj1 (loopF_e ho)
        subst e1
        exact V_lv hJ33 [1] rfl
      · replace h := iF c9 h
        refine V_aload_n (pc2 := 13) dX2_hadNone_12 0 rfl rfl ?_
        obtain ⟨r4, e_r4, h⟩ := bS h
        refine V_gR (pc2 := 16) e_r4 dX2_hadNone_13 wF_2_11 ?_
        refine V_iload_n (pc2 := 17) dX2_hadNone_16 2 rfl rfl ?_
        obtain ⟨r5, e_r5, h⟩ := bS h
        refine V_ldR (pc2 := 18) e_r5 dX2_hadNone_17 rfl ?_
        obtain ⟨x6, e_x6, h⟩ := bS h
        refine V_gI (pc2 := 21) e_x6 dX2_hadNone_18 wF_2_102 ?_
        obtain ⟨y7, hb, h⟩ := bS h
        have hJ27 : V D 0 IX2_hadNone 27 [(0, .ref a0), (1, .int y7), (2, .int y2)] [] m 0 0 (Qi rR m) := by
          refine V_iinc (pc2 := 30) (v := y2 + (1 : Int32)) (L2 := [(2, .int (y2 + (1 : Int32))), (0, .ref a0), (1, .int y7)]) dX2_hadNone_27 2 rfl (by rfl) ?_ rfl rfl
          refine V_goto (tgt := 4) dX2_hadNone_30 ?_
          have ee := inj1 h
          subst ee
          exact V_lv (ih _ _ (loopF_c ho)) [1, 2, 0] rfl
        clear h
        have h := hb
        clear hb
        refine V_if_ne (pc2 := 24) (tgt := 27) dX2_hadNone_21 (fun c21 => ?_) (fun c21 => ?_)
        · replace h := iF c21 h
          have e1 := inj1 h
          subst e1
          exact hJ27
        · replace h := iT c21 h
          refine V_iinc (pc2 := 27) (v := y1 + (1 : Int32)) (L2 := [(1, .int (y1 + (1 : Int32))), (0, .ref a0), (2, .int y2)]) dX2_hadNone_24 1 rfl (by rfl) ?_ rfl rfl
          have e1 := inj1 h
          subst e1
          exact V_lv hJ27 [1, 0, 2] rfl
  exact V_lv (key4 _ _ _ hl) [2, 1, 0] rfl
noncomputable def fX2_spread_b0 (a0 : Nat) (m : Mem) : Int32 × Int32 × Int32 → Option ((Int32 × Int32 × Int32) ⊕ (Int32 × Int32)) := fun (y1, y2, y3) =>
  (gI m a0 2 1).bind fun x4 =>
  if x4 ≤ y3 then
    some (.inr (y1, y2))
  else
    (gR m a0 2 0).bind fun r5 =>
    (ldR m r5 1 y3).bind fun r6 =>
    (gI m r6 0 1).bind fun x7 =>
    (fJ9_min_7cf53 y1 x7 m).bind fun x8 =>
    (gR m a0 2 0).bind fun r9 =>
    (ldR m r9 1 y3).bind fun r10 =>
    (gI m r10 0 1).bind fun x11 =>
    (fJ9_max_7cf53 y2 x11 m).bind fun x12 =>
    some (.inl (x8, x12, y3 + (1 : Int32)))
noncomputable def fX2_spread (a0 : Nat) (m : Mem) : Option (Int32) :=
  (loopF (fX2_spread_b0 a0 m) bigN ((99 : Int32), (0 : Int32), (0 : Int32))).bind fun (y13, y14) =>
  (gI m a0 2 1).bind fun x15 =>
  if x15 = 0 then
    some (0 : Int32)
  else
    some (y14 - y13)
set_option maxRecDepth 20000 in
theorem tX2_spread {D : Dat} {a0 : Nat} {m : Mem} {rR : Int32} (h : fX2_spread a0 m = some rR) : T D 1 IX2_spread [.ref a0] m 0 0 (Qi rR m) := by
  refine T_of_V (by decide) (Nat.le_of_ble_eq_true rfl) ?_
  show V D 1 IX2_spread 0 [(0, .ref a0)] [] m 0 0 (Qi rR m)
  unfold fX2_spread at h
  refine V_bipush (v := 99) (pc2 := 2) dX2_spread_0 (by decide) ?_
  refine V_istore_n (pc2 := 3) (L2 := [(1, .int (99 : Int32)), (0, .ref a0)]) dX2_spread_2 ?_ rfl rfl rfl
  refine V_iconst (v := 0) (pc2 := 4) dX2_spread_3 (by decide) ?_
  refine V_istore_n (pc2 := 5) (L2 := [(2, .int (0 : Int32)), (1, .int (99 : Int32)), (0, .ref a0)]) dX2_spread_4 ?_ rfl rfl rfl
  refine V_iconst (v := 0) (pc2 := 6) dX2_spread_5 (by decide) ?_
  refine V_istore_n (pc2 := 7) (L2 := [(3, .int (0 : Int32)), (2, .int (0 : Int32)), (1, .int (99 : Int32)), (0, .ref a0)]) dX2_spread_6 ?_ rfl rfl rfl
  obtain ⟨⟨y13, y14⟩, hl, h⟩ := bS h
  try dsimp only at h
  have hJ49 : V D 1 IX2_spread 49 [(0, .ref a0), (1, .int y13), (2, .int y14)] [] m 0 0 (Qi rR m) := by
    refine V_aload_n (pc2 := 50) dX2_spread_49 0 rfl rfl ?_
    obtain ⟨x15, e_x15, h⟩ := bS h
    refine V_gI (pc2 := 53) e_x15 dX2_spread_50 wF_2_48 ?_
    refine V_if_ne (pc2 := 56) (tgt := 60) dX2_spread_53 (fun c53 => ?_) (fun c53 => ?_)
    · replace h := iF c53 h
      refine V_iload_n (pc2 := 61) dX2_spread_60 2 rfl rfl ?_
      refine V_iload_n (pc2 := 62) dX2_spread_61 1 rfl rfl ?_
      refine V_isub (pc2 := 63) dX2_spread_62 ?_
      have e1 := inj1 h
      subst e1
      exact V_iret dX2_spread_63 rfl ⟨rfl, rfl⟩
    · replace h := iT c53 h
      refine V_iconst (v := 0) (pc2 := 57) dX2_spread_56 (by decide) ?_
      refine V_goto (tgt := 63) dX2_spread_57 ?_
      have e1 := inj1 h
      subst e1
      exact V_iret dX2_spread_63 rfl ⟨rfl, rfl⟩
  clear h
  have key7 : ∀ (n : Nat) (y1 : Int32) (y2 : Int32) (y3 : Int32), loopF (fX2_spread_b0 a0 m) n (y1, y2, y3) = some (y13, y14) → V D 1 IX2_spread 7 [(0, .ref a0), (1, .int y1), (2, .int y2), (3, .int y3)] [] m 0 0 (Qi rR m) := by
    intro n
    induction n with
    | zero => intro y1 y2 y3 h; cases h
    | succ n ih =>
      intro y1 y2 y3 h
      obtain ⟨o, h, ho⟩ := loopF_inv h
      dsimp only [fX2_spread_b0] at h
      refine V_iload_n (pc2 := 8) dX2_spread_7 3 rfl rfl ?_
      refine V_aload_n (pc2 := 9) dX2_spread_8 0 rfl rfl ?_
      obtain ⟨x4, e_x4, h⟩ := bS h
      refine V_gI (pc2 := 12) e_x4 dX2_spread_9 wF_2_48 ?_
      refine V_icmp_ge (pc2 := 15) (tgt := 49) dX2_spread_12 (fun c12 => ?_) (fun c12 => ?_)
      · replace h := iT c12 h
        have ee := inj1 h
        subst ee
        obtain ⟨e1, e2⟩ := pinj2 (loopF_e ho)
        subst e1
        subst e2
        exact V_lv hJ49 [0, 1, 2] rfl
      · replace h := iF c12 h
        refine V_iload_n (pc2 := 16) dX2_spread_15 1 rfl rfl ?_
        refine V_aload_n (pc2 := 17) dX2_spread_16 0 rfl rfl ?_
        obtain ⟨r5, e_r5, h⟩ := bS h
        refine V_gR (pc2 := 20) e_r5 dX2_spread_17 wF_2_11 ?_
        refine V_iload_n (pc2 := 21) dX2_spread_20 3 rfl rfl ?_
        obtain ⟨r6, e_r6, h⟩ := bS h
        refine V_ldR (pc2 := 22) e_r6 dX2_spread_21 rfl ?_
        obtain ⟨x7, e_x7, h⟩ := bS h
        refine V_gI (pc2 := 25) e_x7 dX2_spread_22 wF_2_102 ?_
        obtain ⟨x8, e_x8, h⟩ := bS h
        refine V_cSi (pc2 := 28) [.int y1, .int x7] (st := []) (tJ9_min_7cf53 e_x8) dX2_spread_25 wS_2_105 (by decide) rfl (Nat.le_of_ble_eq_true rfl) ?_
        refine V_istore_n (pc2 := 29) (L2 := [(1, .int x8), (0, .ref a0), (2, .int y2), (3, .int y3)]) dX2_spread_28 ?_ rfl rfl rfl
        refine V_iload_n (pc2 := 30) dX2_spread_29 2 rfl rfl ?_
        refine V_aload_n (pc2 := 31) dX2_spread_30 1 rfl rfl ?_
        obtain ⟨r9, e_r9, h⟩ := bS h
        refine V_gR (pc2 := 34) e_r9 dX2_spread_31 wF_2_11 ?_
        refine V_iload_n (pc2 := 35) dX2_spread_34 3 rfl rfl ?_
        obtain ⟨r10, e_r10, h⟩ := bS h
        refine V_ldR (pc2 := 36) e_r10 dX2_spread_35 rfl ?_
        obtain ⟨x11, e_x11, h⟩ := bS h
        refine V_gI (pc2 := 39) e_x11 dX2_spread_36 wF_2_102 ?_
        obtain ⟨x12, e_x12, h⟩ := bS h
        refine V_cSi (pc2 := 42) [.int y2, .int x11] (st := []) (tJ9_max_7cf53 e_x12) dX2_spread_39 wS_2_111 (by decide) rfl (Nat.le_of_ble_eq_true rfl) ?_
        refine V_istore_n (pc2 := 43) (L2 := [(2, .int x12), (1, .int x8), (0, .ref a0), (3, .int y3)]) dX2_spread_42 ?_ rfl rfl rfl
        refine V_iinc (pc2 := 46) (v := y3 + (1 : Int32)) (L2 := [(3, .int (y3 + (1 : Int32))), (2, .int x12), (1, .int x8), (0, .ref a0)]) dX2_spread_43 3 rfl (by rfl) ?_ rfl rfl
        refine V_goto (tgt := 7) dX2_spread_46 ?_
        have ee := inj1 h
        subst ee
        exact V_lv (ih _ _ _ (loopF_c ho)) [3, 2, 1, 0] rfl
  exact V_lv (key7 _ _ _ _ hl) [3, 2, 1, 0] rfl
noncomputable def fX2_takeTurns_b0 (a0 : Nat) (p0 : Int32) : Int32 × Int32 × Mem → Option ((Int32 × Int32 × Mem) ⊕ (Int32 × Mem)) := fun (y1, y2, m3) =>
  if p0 ≤ y2 then
    some (.inr (y1, m3))
  else
    (cV m3 a0 2 (fX2_takeTurn a0 m3)).bind fun (x4, m5) =>
    some (.inl (x4, y2 + (1 : Int32), m5))
noncomputable def fX2_takeTurns (a0 : Nat) (p0 : Int32) (m : Mem) : Option (Int32 × Mem) :=
  (loopF (fX2_takeTurns_b0 a0 p0) bigN ((-1 : Int32), (0 : Int32), m)).bind fun (y6, m7) =>
  some (y6, m7)
set_option maxRecDepth 20000 in
theorem tX2_takeTurns {D : Dat} {a0 : Nat} {p0 : Int32} {m : Mem} {rR : Int32} {mR : Mem} (h : fX2_takeTurns a0 p0 m = some (rR, mR)) : T D 5 IX2_takeTurns [.ref a0, .int p0] m 0 0 (Qi rR mR) := by
  refine T_of_V (by decide) (Nat.le_of_ble_eq_true rfl) ?_
  show V D 5 IX2_takeTurns 0 [(0, .ref a0), (1, .int p0)] [] m 0 0 (Qi rR mR)
  unfold fX2_takeTurns at h
  refine V_iconst (v := -1) (pc2 := 1) dX2_takeTurns_0 (by decide) ?_
  refine V_istore_n (pc2 := 2) (L2 := [(2, .int (-1 : Int32)), (0, .ref a0), (1, .int p0)]) dX2_takeTurns_1 ?_ rfl rfl rfl
  refine V_iconst (v := 0) (pc2 := 3) dX2_takeTurns_2 (by decide) ?_
  refine V_istore_n (pc2 := 4) (L2 := [(3, .int (0 : Int32)), (2, .int (-1 : Int32)), (0, .ref a0), (1, .int p0)]) dX2_takeTurns_3 ?_ rfl rfl rfl
  obtain ⟨⟨y6, m7⟩, hl, h⟩ := bS h
  try dsimp only at h
  have hJ20 : V D 5 IX2_takeTurns 20 [(2, .int y6)] [] m7 0 0 (Qi rR mR) := by
    refine V_iload_n (pc2 := 21) dX2_takeTurns_20 0 rfl rfl ?_
    obtain ⟨e1, e2⟩ := inj2 h
    subst e1
    subst e2
    exact V_iret dX2_takeTurns_21 rfl ⟨rfl, rfl⟩
  clear h
  have key4 : ∀ (n : Nat) (y1 : Int32) (y2 : Int32) (m3 : Mem), loopF (fX2_takeTurns_b0 a0 p0) n (y1, y2, m3) = some (y6, m7) → V D 5 IX2_takeTurns 4 [(0, .ref a0), (1, .int p0), (2, .int y1), (3, .int y2)] [] m3 0 0 (Qi rR mR) := by
    intro n
    induction n with
    | zero => intro y1 y2 m3 h; cases h
    | succ n ih =>
      intro y1 y2 m3 h
      obtain ⟨o, h, ho⟩ := loopF_inv h
      dsimp only [fX2_takeTurns_b0] at h
      refine V_iload_n (pc2 := 5) dX2_takeTurns_4 3 rfl rfl ?_
      refine V_iload_n (pc2 := 6) dX2_takeTurns_5 1 rfl rfl ?_
      refine V_icmp_ge (pc2 := 9) (tgt := 20) dX2_takeTurns_6 (fun c6 => ?_) (fun c6 => ?_)
      · replace h := iT c6 h
        have ee := inj1 h
        subst ee
        obtain ⟨e1, e2⟩ := pinj2 (loopF_e ho)
        subst e1
        subst e2
        exact V_lv hJ20 [2] rfl
      · replace h := iF c6 h
        refine V_aload_n (pc2 := 10) dX2_takeTurns_9 0 rfl rfl ?_
        obtain ⟨⟨x4, m5⟩, e_x4, h⟩ := bS h
        try dsimp only at h
        obtain ⟨⟨fs_x4, o_x4⟩, e_x4⟩ := cV_of e_x4
        refine V_cVi (pc2 := 13) [] (st := []) o_x4 (tX2_takeTurn e_x4) dX2_takeTurns_10 wV_2_195 (by decide) rfl (Nat.le_of_ble_eq_true rfl) ?_
        refine V_istore_n (pc2 := 14) (L2 := [(2, .int x4), (0, .ref a0), (1, .int p0), (3, .int y2)]) dX2_takeTurns_13 ?_ rfl rfl rfl
        refine V_iinc (pc2 := 17) (v := y2 + (1 : Int32)) (L2 := [(3, .int (y2 + (1 : Int32))), (2, .int x4), (0, .ref a0), (1, .int p0)]) dX2_takeTurns_14 3 rfl (by rfl) ?_ rfl rfl
        refine V_goto (tgt := 4) dX2_takeTurns_17 ?_
        have ee := inj1 h
        subst ee
        exact V_lv (ih _ _ _ (loopF_c ho)) [2, 3, 1, 0] rfl
  exact V_lv (key4 _ _ _ _ hl) [2, 3, 1, 0] rfl
noncomputable def fX7_behind (a0 : Nat) (p0 : Int32) (p1 : Int32) (m : Mem) : Option (Int32 × Mem) :=
  (fX7_within p0 (0 : Int32) (100 : Int32) m).bind fun b1 =>
  if b1 = true then
    (fX7_within p1 (0 : Int32) (5 : Int32) m).bind fun b2 =>
    if b2 = true then
      (gR m a0 7 1).bind fun r3 =>
      (gR m a0 7 0).bind fun r4 =>
      (cV m r3 2 (fX2_become r3 r4 m)).bind fun m5 =>
      (gR m5 a0 7 1).bind fun r6 =>
      (cV m5 r6 2 (fX2_takeTurns r6 p0 m5)).bind fun (x7, m8) =>
      if p1 = (0 : Int32) then
        (gR m8 a0 7 1).bind fun r9 =>
        (gI m8 r9 2 12).bind fun x10 =>
        some (x10, m8)
      else if p1 = (1 : Int32) then
        (gR m8 a0 7 1).bind fun r11 =>
        (cV m8 r11 2 (fX2_spread r11 m8)).bind fun x12 =>
        some (x12, m8)
      else if p1 = (2 : Int32) then
        (gR m8 a0 7 1).bind fun r13 =>
        (cV m8 r13 2 (fX2_hadNone r13 m8)).bind fun x14 =>
        some (x14, m8)
      else if p1 = (3 : Int32) then
        (gR m8 a0 7 1).bind fun r15 =>
        (gI m8 r15 2 14).bind fun x16 =>
        some (x16, m8)
      else if p1 = (4 : Int32) then
        (gR m8 a0 7 1).bind fun r17 =>
        (gI m8 r17 2 15).bind fun x18 =>
        some (x18, m8)
      else 
        (gR m8 a0 7 1).bind fun r19 =>
        (gI m8 r19 2 16).bind fun x20 =>
        some (x20, m8)
    else
      some ((-1000000001 : Int32), m)
  else
    some ((-1000000001 : Int32), m)
set_option maxRecDepth 20000 in
theorem tX7_behind {D : Dat} {a0 : Nat} {p0 : Int32} {p1 : Int32} {m : Mem} {rR : Int32} {mR : Mem} (h : fX7_behind a0 p0 p1 m = some (rR, mR)) : T D 6 IX7_behind [.ref a0, .int p0, .int p1] m 0 0 (Qi rR mR) := by
  refine T_of_V (by decide) (Nat.le_of_ble_eq_true rfl) ?_
  show V D 6 IX7_behind 0 [(0, .ref a0), (1, .int p0), (2, .int p1)] [] m 0 0 (Qi rR mR)
  unfold fX7_behind at h
  refine V_iload_n (pc2 := 1) dX7_behind_0 1 rfl rfl ?_
  refine V_iconst (v := 0) (pc2 := 2) dX7_behind_1 (by decide) ?_
  refine V_bipush (v := 100) (pc2 := 4) dX7_behind_2 (by decide) ?_
  obtain ⟨b1, e_b1, h⟩ := bS h
  refine V_cSi (pc2 := 7) [.int p0, .int (0 : Int32), .int (100 : Int32)] (st := []) (tX7_within e_b1) dX7_behind_4 wS_7_47 (by decide) rfl (Nat.le_of_ble_eq_true rfl) ?_
  refine V_ifb_eq (pc2 := 10) (tgt := 19) dX7_behind_7 (fun c7 => ?_) (fun c7 => ?_)
  · replace h := iF c7 h
    refine V_ldc (v := -1000000001) (pc2 := 21) dX7_behind_19 wconstant_7_51 ?_
    obtain ⟨e1, e2⟩ := inj2 h
    subst e1
    subst e2
    exact V_iret dX7_behind_21 rfl ⟨rfl, rfl⟩
  · replace h := iT c7 h
    refine V_iload_n (pc2 := 11) dX7_behind_10 2 rfl rfl ?_
    refine V_iconst (v := 0) (pc2 := 12) dX7_behind_11 (by decide) ?_
    refine V_iconst (v := 5) (pc2 := 13) dX7_behind_12 (by decide) ?_
    obtain ⟨b2, e_b2, h⟩ := bS h
    refine V_cSi (pc2 := 16) [.int p1, .int (0 : Int32), .int (5 : Int32)] (st := []) (tX7_within e_b2) dX7_behind_13 wS_7_47 (by decide) rfl (Nat.le_of_ble_eq_true rfl) ?_
    refine V_ifb_ne (pc2 := 19) (tgt := 22) dX7_behind_16 (fun c16 => ?_) (fun c16 => ?_)
    · replace h := iT c16 h
      refine V_aload_n (pc2 := 23) dX7_behind_22 0 rfl rfl ?_
      obtain ⟨r3, e_r3, h⟩ := bS h
      refine V_gR (pc2 := 26) e_r3 dX7_behind_23 wF_7_16 ?_
      refine V_aload_n (pc2 := 27) dX7_behind_26 0 rfl rfl ?_
      obtain ⟨r4, e_r4, h⟩ := bS h
      refine V_gR (pc2 := 30) e_r4 dX7_behind_27 wF_7_10 ?_
      obtain ⟨m5, e_m5, h⟩ := bS h
      obtain ⟨⟨fs_m5, o_m5⟩, e_m5⟩ := cV_of e_m5
      refine V_cVv (pc2 := 33) [.ref r4] (st := []) o_m5 (tX2_become e_m5) dX7_behind_30 wV_7_180 (by decide) rfl (Nat.le_of_ble_eq_true rfl) ?_
      refine V_aload_n (pc2 := 34) dX7_behind_33 0 rfl rfl ?_
      obtain ⟨r6, e_r6, h⟩ := bS h
      refine V_gR (pc2 := 37) e_r6 dX7_behind_34 wF_7_16 ?_
      refine V_iload_n (pc2 := 38) dX7_behind_37 1 rfl rfl ?_
      obtain ⟨⟨x7, m8⟩, e_x7, h⟩ := bS h
      try dsimp only at h
      obtain ⟨⟨fs_x7, o_x7⟩, e_x7⟩ := cV_of e_x7
      refine V_cVi (pc2 := 41) [.int p0] (st := []) o_x7 (tX2_takeTurns e_x7) dX7_behind_38 wV_7_184 (by decide) rfl (Nat.le_of_ble_eq_true rfl) ?_
      refine V_pop (pc2 := 42) dX7_behind_41 rfl ?_
      refine V_iload_n (pc2 := 43) dX7_behind_42 2 rfl rfl ?_
      by_cases c43_0 : p1 = (0 : Int32)
      · replace h := iT c43_0 h
        refine V_table (off := 33) (tgt := 76) dX7_behind_43 (by rw [c43_0]; decide) ?_
        refine V_aload_n (pc2 := 77) dX7_behind_76 0 rfl rfl ?_
        obtain ⟨r9, e_r9, h⟩ := bS h
        refine V_gR (pc2 := 80) e_r9 dX7_behind_77 wF_7_16 ?_
        obtain ⟨x10, e_x10, h⟩ := bS h
        refine V_gI (pc2 := 83) e_x10 dX7_behind_80 wF_7_99 ?_
        obtain ⟨e1, e2⟩ := inj2 h
        subst e1
        subst e2
        exact V_iret dX7_behind_83 rfl ⟨rfl, rfl⟩
      replace h := iF c43_0 h
      by_cases c43_1 : p1 = (1 : Int32)
      · replace h := iT c43_1 h
        refine V_table (off := 41) (tgt := 84) dX7_behind_43 (by rw [c43_1]; decide) ?_
        refine V_aload_n (pc2 := 85) dX7_behind_84 0 rfl rfl ?_
        obtain ⟨r11, e_r11, h⟩ := bS h
        refine V_gR (pc2 := 88) e_r11 dX7_behind_85 wF_7_16 ?_
        obtain ⟨x12, e_x12, h⟩ := bS h
        obtain ⟨⟨fs_x12, o_x12⟩, e_x12⟩ := cV_of e_x12
        refine V_cVi (pc2 := 91) [] (st := []) o_x12 (tX2_spread e_x12) dX7_behind_88 wV_7_187 (by decide) rfl (Nat.le_of_ble_eq_true rfl) ?_
        obtain ⟨e1, e2⟩ := inj2 h
        subst e1
        subst e2
        exact V_iret dX7_behind_91 rfl ⟨rfl, rfl⟩
      replace h := iF c43_1 h
      by_cases c43_2 : p1 = (2 : Int32)
      · replace h := iT c43_2 h
        refine V_table (off := 49) (tgt := 92) dX7_behind_43 (by rw [c43_2]; decide) ?_
        refine V_aload_n (pc2 := 93) dX7_behind_92 0 rfl rfl ?_
        obtain ⟨r13, e_r13, h⟩ := bS h
        refine V_gR (pc2 := 96) e_r13 dX7_behind_93 wF_7_16 ?_
        obtain ⟨x14, e_x14, h⟩ := bS h
        obtain ⟨⟨fs_x14, o_x14⟩, e_x14⟩ := cV_of e_x14
        refine V_cVi (pc2 := 99) [] (st := []) o_x14 (tX2_hadNone e_x14) dX7_behind_96 wV_7_190 (by decide) rfl (Nat.le_of_ble_eq_true rfl) ?_
        obtain ⟨e1, e2⟩ := inj2 h
        subst e1
        subst e2
        exact V_iret dX7_behind_99 rfl ⟨rfl, rfl⟩
      replace h := iF c43_2 h
      by_cases c43_3 : p1 = (3 : Int32)
      · replace h := iT c43_3 h
        refine V_table (off := 57) (tgt := 100) dX7_behind_43 (by rw [c43_3]; decide) ?_
        refine V_aload_n (pc2 := 101) dX7_behind_100 0 rfl rfl ?_
        obtain ⟨r15, e_r15, h⟩ := bS h
        refine V_gR (pc2 := 104) e_r15 dX7_behind_101 wF_7_16 ?_
        obtain ⟨x16, e_x16, h⟩ := bS h
        refine V_gI (pc2 := 107) e_x16 dX7_behind_104 wF_7_193 ?_
        obtain ⟨e1, e2⟩ := inj2 h
        subst e1
        subst e2
        exact V_iret dX7_behind_107 rfl ⟨rfl, rfl⟩
      replace h := iF c43_3 h
      by_cases c43_4 : p1 = (4 : Int32)
      · replace h := iT c43_4 h
        refine V_table (off := 65) (tgt := 108) dX7_behind_43 (by rw [c43_4]; decide) ?_
        refine V_aload_n (pc2 := 109) dX7_behind_108 0 rfl rfl ?_
        obtain ⟨r17, e_r17, h⟩ := bS h
        refine V_gR (pc2 := 112) e_r17 dX7_behind_109 wF_7_16 ?_
        obtain ⟨x18, e_x18, h⟩ := bS h
        refine V_gI (pc2 := 115) e_x18 dX7_behind_112 wF_7_196 ?_
        obtain ⟨e1, e2⟩ := inj2 h
        subst e1
        subst e2
        exact V_iret dX7_behind_115 rfl ⟨rfl, rfl⟩
      replace h := iF c43_4 h
      refine V_tableD (tgt := 116) dX7_behind_43 (by have g0 := lv_neT c43_0 (show (0 : Int32).toInt = 0 by decide); have g1 := lv_neT c43_1 (show (1 : Int32).toInt = 1 by decide); have g2 := lv_neT c43_2 (show (2 : Int32).toInt = 2 by decide); have g3 := lv_neT c43_3 (show (3 : Int32).toInt = 3 by decide); have g4 := lv_neT c43_4 (show (4 : Int32).toInt = 4 by decide); omega) ?_
      refine V_aload_n (pc2 := 117) dX7_behind_116 0 rfl rfl ?_
      obtain ⟨r19, e_r19, h⟩ := bS h
      refine V_gR (pc2 := 120) e_r19 dX7_behind_117 wF_7_16 ?_
      obtain ⟨x20, e_x20, h⟩ := bS h
      refine V_gI (pc2 := 123) e_x20 dX7_behind_120 wF_7_199 ?_
      obtain ⟨e1, e2⟩ := inj2 h
      subst e1
      subst e2
      exact V_iret dX7_behind_123 rfl ⟨rfl, rfl⟩
    · replace h := iF c16 h
      refine V_ldc (v := -1000000001) (pc2 := 21) dX7_behind_19 wconstant_7_51 ?_
      obtain ⟨e1, e2⟩ := inj2 h
      subst e1
      subst e2
      exact V_iret dX7_behind_21 rfl ⟨rfl, rfl⟩
noncomputable def fX7_had (a0 : Nat) (p0 : Int32) (p1 : Int32) (m : Mem) : Option (Int32 × Mem) :=
  (gR m a0 7 0).bind fun r1 =>
  (cV m r1 2 (fX2_isChild r1 p0 m)).bind fun b2 =>
  if b2 = true then
    (fX7_within p1 (0 : Int32) (100 : Int32) m).bind fun b3 =>
    if b3 = true then
      (gR m a0 7 1).bind fun r4 =>
      (gR m a0 7 0).bind fun r5 =>
      (cV m r4 2 (fX2_become r4 r5 m)).bind fun m6 =>
      (gR m6 a0 7 1).bind fun r7 =>
      (cV m6 r7 2 (fX2_takeTurns r7 p1 m6)).bind fun (x8, m9) =>
      (gR m9 a0 7 1).bind fun r10 =>
      (gR m9 r10 2 0).bind fun r11 =>
      (ldR m9 r11 1 p0).bind fun r12 =>
      (gI m9 r12 0 1).bind fun x13 =>
      some (x13, m9)
    else
      some ((-1000000001 : Int32), m)
  else
    some ((-1000000001 : Int32), m)
set_option maxRecDepth 20000 in
theorem tX7_had {D : Dat} {a0 : Nat} {p0 : Int32} {p1 : Int32} {m : Mem} {rR : Int32} {mR : Mem} (h : fX7_had a0 p0 p1 m = some (rR, mR)) : T D 6 IX7_had [.ref a0, .int p0, .int p1] m 0 0 (Qi rR mR) := by
  refine T_of_V (by decide) (Nat.le_of_ble_eq_true rfl) ?_
  show V D 6 IX7_had 0 [(0, .ref a0), (1, .int p0), (2, .int p1)] [] m 0 0 (Qi rR mR)
  unfold fX7_had at h
  refine V_aload_n (pc2 := 1) dX7_had_0 0 rfl rfl ?_
  obtain ⟨r1, e_r1, h⟩ := bS h
  refine V_gR (pc2 := 4) e_r1 dX7_had_1 wF_7_10 ?_
  refine V_iload_n (pc2 := 5) dX7_had_4 1 rfl rfl ?_
  obtain ⟨b2, e_b2, h⟩ := bS h
  obtain ⟨⟨fs_b2, o_b2⟩, e_b2⟩ := cV_of e_b2
  refine V_cVi (pc2 := 8) [.int p0] (st := []) o_b2 (tX2_isChild e_b2) dX7_had_5 wV_7_72 (by decide) rfl (Nat.le_of_ble_eq_true rfl) ?_
  refine V_ifb_eq (pc2 := 11) (tgt := 21) dX7_had_8 (fun c8 => ?_) (fun c8 => ?_)
  · replace h := iF c8 h
    refine V_ldc (v := -1000000001) (pc2 := 23) dX7_had_21 wconstant_7_51 ?_
    obtain ⟨e1, e2⟩ := inj2 h
    subst e1
    subst e2
    exact V_iret dX7_had_23 rfl ⟨rfl, rfl⟩
  · replace h := iT c8 h
    refine V_iload_n (pc2 := 12) dX7_had_11 2 rfl rfl ?_
    refine V_iconst (v := 0) (pc2 := 13) dX7_had_12 (by decide) ?_
    refine V_bipush (v := 100) (pc2 := 15) dX7_had_13 (by decide) ?_
    obtain ⟨b3, e_b3, h⟩ := bS h
    refine V_cSi (pc2 := 18) [.int p1, .int (0 : Int32), .int (100 : Int32)] (st := []) (tX7_within e_b3) dX7_had_15 wS_7_47 (by decide) rfl (Nat.le_of_ble_eq_true rfl) ?_
    refine V_ifb_ne (pc2 := 21) (tgt := 24) dX7_had_18 (fun c18 => ?_) (fun c18 => ?_)
    · replace h := iT c18 h
      refine V_aload_n (pc2 := 25) dX7_had_24 0 rfl rfl ?_
      obtain ⟨r4, e_r4, h⟩ := bS h
      refine V_gR (pc2 := 28) e_r4 dX7_had_25 wF_7_16 ?_
      refine V_aload_n (pc2 := 29) dX7_had_28 0 rfl rfl ?_
      obtain ⟨r5, e_r5, h⟩ := bS h
      refine V_gR (pc2 := 32) e_r5 dX7_had_29 wF_7_10 ?_
      obtain ⟨m6, e_m6, h⟩ := bS h
      obtain ⟨⟨fs_m6, o_m6⟩, e_m6⟩ := cV_of e_m6
      refine V_cVv (pc2 := 35) [.ref r5] (st := []) o_m6 (tX2_become e_m6) dX7_had_32 wV_7_180 (by decide) rfl (Nat.le_of_ble_eq_true rfl) ?_
      refine V_aload_n (pc2 := 36) dX7_had_35 0 rfl rfl ?_
      obtain ⟨r7, e_r7, h⟩ := bS h
      refine V_gR (pc2 := 39) e_r7 dX7_had_36 wF_7_16 ?_
      refine V_iload_n (pc2 := 40) dX7_had_39 2 rfl rfl ?_
      obtain ⟨⟨x8, m9⟩, e_x8, h⟩ := bS h
      try dsimp only at h
      obtain ⟨⟨fs_x8, o_x8⟩, e_x8⟩ := cV_of e_x8
      refine V_cVi (pc2 := 43) [.int p1] (st := []) o_x8 (tX2_takeTurns e_x8) dX7_had_40 wV_7_184 (by decide) rfl (Nat.le_of_ble_eq_true rfl) ?_
      refine V_pop (pc2 := 44) dX7_had_43 rfl ?_
      refine V_aload_n (pc2 := 45) dX7_had_44 0 rfl rfl ?_
      obtain ⟨r10, e_r10, h⟩ := bS h
      refine V_gR (pc2 := 48) e_r10 dX7_had_45 wF_7_16 ?_
      obtain ⟨r11, e_r11, h⟩ := bS h
      refine V_gR (pc2 := 51) e_r11 dX7_had_48 wF_7_57 ?_
      refine V_iload_n (pc2 := 52) dX7_had_51 1 rfl rfl ?_
      obtain ⟨r12, e_r12, h⟩ := bS h
      refine V_ldR (pc2 := 53) e_r12 dX7_had_52 rfl ?_
      obtain ⟨x13, e_x13, h⟩ := bS h
      refine V_gI (pc2 := 56) e_x13 dX7_had_53 wF_7_66 ?_
      obtain ⟨e1, e2⟩ := inj2 h
      subst e1
      subst e2
      exact V_iret dX7_had_56 rfl ⟨rfl, rfl⟩
    · replace h := iF c18 h
      refine V_ldc (v := -1000000001) (pc2 := 23) dX7_had_21 wconstant_7_51 ?_
      obtain ⟨e1, e2⟩ := inj2 h
      subst e1
      subst e2
      exact V_iret dX7_had_23 rfl ⟨rfl, rfl⟩
noncomputable def fX7_all_b0 (a0 : Nat) : Int32 × Mem → Option ((Int32 × Mem) ⊕ (Int32 × Mem)) := fun (y4, m5) =>
  if (60 : Int32) < y4 then
    some (.inr ((-1000000005 : Int32), m5))
  else
    (gR m5 a0 7 1).bind fun r6 =>
    (cV m5 r6 2 (fX2_hadNone r6 m5)).bind fun x7 =>
    if x7 = 0 then
      some (.inr (y4, m5))
    else
      (gR m5 a0 7 1).bind fun r8 =>
      (cV m5 r8 2 (fX2_takeTurn r8 m5)).bind fun (x9, m10) =>
      some (.inl (y4 + (1 : Int32), m10))
noncomputable def fX7_all (a0 : Nat) (m : Mem) : Option (Int32 × Mem) :=
  (gR m a0 7 1).bind fun r1 =>
  (gR m a0 7 0).bind fun r2 =>
  (cV m r1 2 (fX2_become r1 r2 m)).bind fun m3 =>
  loopF (fX7_all_b0 a0) bigN ((0 : Int32), m3)
set_option maxRecDepth 20000 in
theorem tX7_all {D : Dat} {a0 : Nat} {m : Mem} {rR : Int32} {mR : Mem} (h : fX7_all a0 m = some (rR, mR)) : T D 5 IX7_all [.ref a0] m 0 0 (Qi rR mR) := by
  refine T_of_V (by decide) (Nat.le_of_ble_eq_true rfl) ?_
  show V D 5 IX7_all 0 [(0, .ref a0)] [] m 0 0 (Qi rR mR)
  unfold fX7_all at h
  refine V_aload_n (pc2 := 1) dX7_all_0 0 rfl rfl ?_
  obtain ⟨r1, e_r1, h⟩ := bS h
  refine V_gR (pc2 := 4) e_r1 dX7_all_1 wF_7_16 ?_
  refine V_aload_n (pc2 := 5) dX7_all_4 0 rfl rfl ?_
  obtain ⟨r2, e_r2, h⟩ := bS h
  refine V_gR (pc2 := 8) e_r2 dX7_all_5 wF_7_10 ?_
  obtain ⟨m3, e_m3, h⟩ := bS h
  obtain ⟨⟨fs_m3, o_m3⟩, e_m3⟩ := cV_of e_m3
  refine V_cVv (pc2 := 11) [.ref r2] (st := []) o_m3 (tX2_become e_m3) dX7_all_8 wV_7_180 (by decide) rfl (Nat.le_of_ble_eq_true rfl) ?_
  refine V_iconst (v := 0) (pc2 := 12) dX7_all_11 (by decide) ?_
  refine V_istore_n (pc2 := 13) (L2 := [(1, .int (0 : Int32)), (0, .ref a0)]) dX7_all_12 ?_ rfl rfl rfl
  have hl := h
  clear h
  have key13 : ∀ (n : Nat) (y4 : Int32) (m5 : Mem), loopF (fX7_all_b0 a0) n (y4, m5) = some (rR, mR) → V D 5 IX7_all 13 [(0, .ref a0), (1, .int y4)] [] m5 0 0 (Qi rR mR) := by
    intro n
    induction n with
    | zero => intro y4 m5 h; cases h
    | succ n ih =>
      intro y4 m5 h
      obtain ⟨o, h, ho⟩ := loopF_inv h
      dsimp only [fX7_all_b0] at h
      refine V_iload_n (pc2 := 14) dX7_all_13 1 rfl rfl ?_
      refine V_bipush (v := 60) (pc2 := 16) dX7_all_14 (by decide) ?_
      refine V_icmp_gt (pc2 := 19) (tgt := 45) dX7_all_16 (fun c16 => ?_) (fun c16 => ?_)
      · replace h := iT c16 h
        refine V_ldc (v := -1000000005) (pc2 := 47) dX7_all_45 wconstant_7_202 ?_
        have ee := inj1 h
        subst ee
        obtain ⟨e1, e2⟩ := pinj2 (loopF_e ho)
        subst e1
        subst e2
        exact V_iret dX7_all_47 rfl ⟨rfl, rfl⟩
      · replace h := iF c16 h
        refine V_aload_n (pc2 := 20) dX7_all_19 0 rfl rfl ?_
        obtain ⟨r6, e_r6, h⟩ := bS h
        refine V_gR (pc2 := 23) e_r6 dX7_all_20 wF_7_16 ?_
        obtain ⟨x7, e_x7, h⟩ := bS h
        obtain ⟨⟨fs_x7, o_x7⟩, e_x7⟩ := cV_of e_x7
        refine V_cVi (pc2 := 26) [] (st := []) o_x7 (tX2_hadNone e_x7) dX7_all_23 wV_7_190 (by decide) rfl (Nat.le_of_ble_eq_true rfl) ?_
        refine V_if_ne (pc2 := 29) (tgt := 31) dX7_all_26 (fun c26 => ?_) (fun c26 => ?_)
        · replace h := iF c26 h
          refine V_aload_n (pc2 := 32) dX7_all_31 0 rfl rfl ?_
          obtain ⟨r8, e_r8, h⟩ := bS h
          refine V_gR (pc2 := 35) e_r8 dX7_all_32 wF_7_16 ?_
          obtain ⟨⟨x9, m10⟩, e_x9, h⟩ := bS h
          try dsimp only at h
          obtain ⟨⟨fs_x9, o_x9⟩, e_x9⟩ := cV_of e_x9
          refine V_cVi (pc2 := 38) [] (st := []) o_x9 (tX2_takeTurn e_x9) dX7_all_35 wV_7_166 (by decide) rfl (Nat.le_of_ble_eq_true rfl) ?_
          refine V_pop (pc2 := 39) dX7_all_38 rfl ?_
          refine V_iinc (pc2 := 42) (v := y4 + (1 : Int32)) (L2 := [(1, .int (y4 + (1 : Int32))), (0, .ref a0)]) dX7_all_39 1 rfl (by rfl) ?_ rfl rfl
          refine V_goto (tgt := 13) dX7_all_42 ?_
          have ee := inj1 h
          subst ee
          exact V_lv (ih _ _ (loopF_c ho)) [1, 0] rfl
        · replace h := iT c26 h
          refine V_iload_n (pc2 := 30) dX7_all_29 1 rfl rfl ?_
          have ee := inj1 h
          subst ee
          obtain ⟨e1, e2⟩ := pinj2 (loopF_e ho)
          subst e1
          subst e2
          exact V_iret dX7_all_30 rfl ⟨rfl, rfl⟩
  exact V_lv (key13 _ _ _ hl) [1, 0] rfl
noncomputable def fX7_evens_b0 (a0 : Nat) (p0 : Int32) : Int32 × Mem → Option ((Int32 × Mem) ⊕ (Int32 × Mem)) := fun (y5, m6) =>
  if (60 : Int32) < y5 then
    some (.inr ((-1000000005 : Int32), m6))
  else
    (gR m6 a0 7 1).bind fun r7 =>
    (cV m6 r7 2 (fX2_spread r7 m6)).bind fun x8 =>
    if p0 < x8 then
      (gR m6 a0 7 1).bind fun r9 =>
      (cV m6 r9 2 (fX2_takeTurn r9 m6)).bind fun (x10, m11) =>
      some (.inl (y5 + (1 : Int32), m11))
    else
      some (.inr (y5, m6))
noncomputable def fX7_evens (a0 : Nat) (p0 : Int32) (m : Mem) : Option (Int32 × Mem) :=
  (fX7_within p0 (0 : Int32) (99 : Int32) m).bind fun b1 =>
  if b1 = true then
    (gR m a0 7 1).bind fun r2 =>
    (gR m a0 7 0).bind fun r3 =>
    (cV m r2 2 (fX2_become r2 r3 m)).bind fun m4 =>
    loopF (fX7_evens_b0 a0 p0) bigN ((0 : Int32), m4)
  else
    some ((-1000000001 : Int32), m)
set_option maxRecDepth 20000 in
theorem tX7_evens {D : Dat} {a0 : Nat} {p0 : Int32} {m : Mem} {rR : Int32} {mR : Mem} (h : fX7_evens a0 p0 m = some (rR, mR)) : T D 5 IX7_evens [.ref a0, .int p0] m 0 0 (Qi rR mR) := by
  refine T_of_V (by decide) (Nat.le_of_ble_eq_true rfl) ?_
  show V D 5 IX7_evens 0 [(0, .ref a0), (1, .int p0)] [] m 0 0 (Qi rR mR)
  unfold fX7_evens at h
  refine V_iload_n (pc2 := 1) dX7_evens_0 1 rfl rfl ?_
  refine V_iconst (v := 0) (pc2 := 2) dX7_evens_1 (by decide) ?_
  refine V_bipush (v := 99) (pc2 := 4) dX7_evens_2 (by decide) ?_
  obtain ⟨b1, e_b1, h⟩ := bS h
  refine V_cSi (pc2 := 7) [.int p0, .int (0 : Int32), .int (99 : Int32)] (st := []) (tX7_within e_b1) dX7_evens_4 wS_7_47 (by decide) rfl (Nat.le_of_ble_eq_true rfl) ?_
  refine V_ifb_ne (pc2 := 10) (tgt := 13) dX7_evens_7 (fun c7 => ?_) (fun c7 => ?_)
  · replace h := iT c7 h
    refine V_aload_n (pc2 := 14) dX7_evens_13 0 rfl rfl ?_
    obtain ⟨r2, e_r2, h⟩ := bS h
    refine V_gR (pc2 := 17) e_r2 dX7_evens_14 wF_7_16 ?_
    refine V_aload_n (pc2 := 18) dX7_evens_17 0 rfl rfl ?_
    obtain ⟨r3, e_r3, h⟩ := bS h
    refine V_gR (pc2 := 21) e_r3 dX7_evens_18 wF_7_10 ?_
    obtain ⟨m4, e_m4, h⟩ := bS h
    obtain ⟨⟨fs_m4, o_m4⟩, e_m4⟩ := cV_of e_m4
    refine V_cVv (pc2 := 24) [.ref r3] (st := []) o_m4 (tX2_become e_m4) dX7_evens_21 wV_7_180 (by decide) rfl (Nat.le_of_ble_eq_true rfl) ?_
    refine V_iconst (v := 0) (pc2 := 25) dX7_evens_24 (by decide) ?_
    refine V_istore_n (pc2 := 26) (L2 := [(2, .int (0 : Int32)), (0, .ref a0), (1, .int p0)]) dX7_evens_25 ?_ rfl rfl rfl
    have hl := h
    clear h
    have key26 : ∀ (n : Nat) (y5 : Int32) (m6 : Mem), loopF (fX7_evens_b0 a0 p0) n (y5, m6) = some (rR, mR) → V D 5 IX7_evens 26 [(0, .ref a0), (1, .int p0), (2, .int y5)] [] m6 0 0 (Qi rR mR) := by
      intro n
      induction n with
      | zero => intro y5 m6 h; cases h
      | succ n ih =>
        intro y5 m6 h
        obtain ⟨o, h, ho⟩ := loopF_inv h
        dsimp only [fX7_evens_b0] at h
        refine V_iload_n (pc2 := 27) dX7_evens_26 2 rfl rfl ?_
        refine V_bipush (v := 60) (pc2 := 29) dX7_evens_27 (by decide) ?_
        refine V_icmp_gt (pc2 := 32) (tgt := 59) dX7_evens_29 (fun c29 => ?_) (fun c29 => ?_)
        · replace h := iT c29 h
          refine V_ldc (v := -1000000005) (pc2 := 61) dX7_evens_59 wconstant_7_202 ?_
          have ee := inj1 h
          subst ee
          obtain ⟨e1, e2⟩ := pinj2 (loopF_e ho)
          subst e1
          subst e2
          exact V_iret dX7_evens_61 rfl ⟨rfl, rfl⟩
        · replace h := iF c29 h
          refine V_aload_n (pc2 := 33) dX7_evens_32 0 rfl rfl ?_
          obtain ⟨r7, e_r7, h⟩ := bS h
          refine V_gR (pc2 := 36) e_r7 dX7_evens_33 wF_7_16 ?_
          obtain ⟨x8, e_x8, h⟩ := bS h
          obtain ⟨⟨fs_x8, o_x8⟩, e_x8⟩ := cV_of e_x8
          refine V_cVi (pc2 := 39) [] (st := []) o_x8 (tX2_spread e_x8) dX7_evens_36 wV_7_187 (by decide) rfl (Nat.le_of_ble_eq_true rfl) ?_
          refine V_iload_n (pc2 := 40) dX7_evens_39 1 rfl rfl ?_
          refine V_icmp_gt (pc2 := 43) (tgt := 45) dX7_evens_40 (fun c40 => ?_) (fun c40 => ?_)
          · replace h := iT c40 h
            refine V_aload_n (pc2 := 46) dX7_evens_45 0 rfl rfl ?_
            obtain ⟨r9, e_r9, h⟩ := bS h
            refine V_gR (pc2 := 49) e_r9 dX7_evens_46 wF_7_16 ?_
            obtain ⟨⟨x10, m11⟩, e_x10, h⟩ := bS h
            try dsimp only at h
            obtain ⟨⟨fs_x10, o_x10⟩, e_x10⟩ := cV_of e_x10
            refine V_cVi (pc2 := 52) [] (st := []) o_x10 (tX2_takeTurn e_x10) dX7_evens_49 wV_7_166 (by decide) rfl (Nat.le_of_ble_eq_true rfl) ?_
            refine V_pop (pc2 := 53) dX7_evens_52 rfl ?_
            refine V_iinc (pc2 := 56) (v := y5 + (1 : Int32)) (L2 := [(2, .int (y5 + (1 : Int32))), (0, .ref a0), (1, .int p0)]) dX7_evens_53 2 rfl (by rfl) ?_ rfl rfl
            refine V_goto (tgt := 26) dX7_evens_56 ?_
            have ee := inj1 h
            subst ee
            exact V_lv (ih _ _ (loopF_c ho)) [1, 2, 0] rfl
          · replace h := iF c40 h
            refine V_iload_n (pc2 := 44) dX7_evens_43 2 rfl rfl ?_
            have ee := inj1 h
            subst ee
            obtain ⟨e1, e2⟩ := pinj2 (loopF_e ho)
            subst e1
            subst e2
            exact V_iret dX7_evens_44 rfl ⟨rfl, rfl⟩
    exact V_lv (key26 _ _ _ hl) [1, 2, 0] rfl
  · replace h := iF c7 h
    refine V_ldc (v := -1000000001) (pc2 := 12) dX7_evens_10 wconstant_7_51 ?_
    obtain ⟨e1, e2⟩ := inj2 h
    subst e1
    subst e2
    exact V_iret dX7_evens_12 rfl ⟨rfl, rfl⟩
noncomputable def fX2_makeEvenings_b0 (a0 : Nat) : Int32 × Mem → Option ((Int32 × Mem) ⊕ Mem) := fun (y1, m2) =>
  (gI m2 a0 2 5).bind fun x3 =>
  if x3 ≤ y1 then
    some (.inr m2)
  else
    (gR m2 a0 2 4).bind fun r4 =>
    (ldR m2 r4 2 y1).bind fun r5 =>
    (pI m2 r5 5 0 (2 : Int32)).bind fun m6 =>
    some (.inl (y1 + (1 : Int32), m6))
noncomputable def fX2_makeEvenings (a0 : Nat) (m : Mem) : Option (Mem) :=
  (loopF (fX2_makeEvenings_b0 a0) bigN ((0 : Int32), m)).bind fun m7 =>
  some m7
set_option maxRecDepth 20000 in
theorem tX2_makeEvenings {D : Dat} {a0 : Nat} {m : Mem} {mR : Mem} (h : fX2_makeEvenings a0 m = some mR) : T D 0 IX2_makeEvenings [.ref a0] m 0 0 (Qv mR) := by
  refine T_of_V (by decide) (Nat.le_of_ble_eq_true rfl) ?_
  show V D 0 IX2_makeEvenings 0 [(0, .ref a0)] [] m 0 0 (Qv mR)
  unfold fX2_makeEvenings at h
  refine V_iconst (v := 0) (pc2 := 1) dX2_makeEvenings_0 (by decide) ?_
  refine V_istore_n (pc2 := 2) (L2 := [(1, .int (0 : Int32)), (0, .ref a0)]) dX2_makeEvenings_1 ?_ rfl rfl rfl
  obtain ⟨m7, hl, h⟩ := bS h
  have hJ26 : V D 0 IX2_makeEvenings 26 [] [] m7 0 0 (Qv mR) := by
    have e1 := inj1 h
    subst e1
    exact V_vret dX2_makeEvenings_26 rfl ⟨rfl, rfl⟩
  clear h
  have key2 : ∀ (n : Nat) (y1 : Int32) (m2 : Mem), loopF (fX2_makeEvenings_b0 a0) n (y1, m2) = some m7 → V D 0 IX2_makeEvenings 2 [(0, .ref a0), (1, .int y1)] [] m2 0 0 (Qv mR) := by
    intro n
    induction n with
    | zero => intro y1 m2 h; cases h
    | succ n ih =>
      intro y1 m2 h
      obtain ⟨o, h, ho⟩ := loopF_inv h
      dsimp only [fX2_makeEvenings_b0] at h
      refine V_iload_n (pc2 := 3) dX2_makeEvenings_2 1 rfl rfl ?_
      refine V_aload_n (pc2 := 4) dX2_makeEvenings_3 0 rfl rfl ?_
      obtain ⟨x3, e_x3, h⟩ := bS h
      refine V_gI (pc2 := 7) e_x3 dX2_makeEvenings_4 wF_2_64 ?_
      refine V_icmp_ge (pc2 := 10) (tgt := 26) dX2_makeEvenings_7 (fun c7 => ?_) (fun c7 => ?_)
      · replace h := iT c7 h
        have ee := inj1 h
        subst ee
        have e1 := pinj1 (loopF_e ho)
        subst e1
        exact V_lv hJ26 [] rfl
      · replace h := iF c7 h
        refine V_aload_n (pc2 := 11) dX2_makeEvenings_10 0 rfl rfl ?_
        obtain ⟨r4, e_r4, h⟩ := bS h
        refine V_gR (pc2 := 14) e_r4 dX2_makeEvenings_11 wF_2_23 ?_
        refine V_iload_n (pc2 := 15) dX2_makeEvenings_14 1 rfl rfl ?_
        obtain ⟨r5, e_r5, h⟩ := bS h
        refine V_ldR (pc2 := 16) e_r5 dX2_makeEvenings_15 rfl ?_
        refine V_iconst (v := 2) (pc2 := 17) dX2_makeEvenings_16 (by decide) ?_
        obtain ⟨m6, e_m6, h⟩ := bS h
        refine V_pI (pc2 := 20) e_m6 dX2_makeEvenings_17 wP_2_114 rfl rfl ?_
        refine V_iinc (pc2 := 23) (v := y1 + (1 : Int32)) (L2 := [(1, .int (y1 + (1 : Int32))), (0, .ref a0)]) dX2_makeEvenings_20 1 rfl (by rfl) ?_ rfl rfl
        refine V_goto (tgt := 2) dX2_makeEvenings_23 ?_
        have ee := inj1 h
        subst ee
        exact V_lv (ih _ _ (loopF_c ho)) [1, 0] rfl
  exact V_lv (key2 _ _ _ hl) [1, 0] rfl
noncomputable def fX7_steer_b0 (a0 : Nat) (p0 : Int32) (p1 : Int32) : Int32 × Mem → Option ((Int32 × Mem) ⊕ (Int32 × Mem)) := fun (y4, m5) =>
  if y4 < 0 then
    some (.inr ((-1000000005 : Int32), m5))
  else
    (gR m5 a0 7 1).bind fun r6 =>
    (gR m5 a0 7 0).bind fun r7 =>
    (cV m5 r6 2 (fX2_become r6 r7 m5)).bind fun m8 =>
    (gR m8 a0 7 1).bind fun r9 =>
    (cV m8 r9 2 (fX2_takeTurns r9 y4 m8)).bind fun (x10, m11) =>
    (gR m11 a0 7 1).bind fun r12 =>
    (cV m11 r12 2 (fX2_makeEvenings r12 m11)).bind fun m13 =>
    (gR m13 a0 7 1).bind fun r14 =>
    (cV m13 r14 2 (fX2_takeTurns r14 (p1 - y4) m13)).bind fun (x15, m16) =>
    if x15 = p0 then
      some (.inr (y4, m16))
    else
      some (.inl (y4 + (-1 : Int32), m16))
noncomputable def fX7_steer (a0 : Nat) (p0 : Int32) (p1 : Int32) (m : Mem) : Option (Int32 × Mem) :=
  (gR m a0 7 0).bind fun r1 =>
  (cV m r1 2 (fX2_isChild r1 p0 m)).bind fun b2 =>
  if b2 = true then
    (fX7_within p1 (1 : Int32) (30 : Int32) m).bind fun b3 =>
    if b3 = true then
      loopF (fX7_steer_b0 a0 p0 p1) bigN (p1 - (1 : Int32), m)
    else
      some ((-1000000001 : Int32), m)
  else
    some ((-1000000001 : Int32), m)
set_option maxRecDepth 20000 in
theorem tX7_steer {D : Dat} {a0 : Nat} {p0 : Int32} {p1 : Int32} {m : Mem} {rR : Int32} {mR : Mem} (h : fX7_steer a0 p0 p1 m = some (rR, mR)) : T D 6 IX7_steer [.ref a0, .int p0, .int p1] m 0 0 (Qi rR mR) := by
  refine T_of_V (by decide) (Nat.le_of_ble_eq_true rfl) ?_
  show V D 6 IX7_steer 0 [(0, .ref a0), (1, .int p0), (2, .int p1)] [] m 0 0 (Qi rR mR)
  unfold fX7_steer at h
  refine V_aload_n (pc2 := 1) dX7_steer_0 0 rfl rfl ?_
  obtain ⟨r1, e_r1, h⟩ := bS h
  refine V_gR (pc2 := 4) e_r1 dX7_steer_1 wF_7_10 ?_
  refine V_iload_n (pc2 := 5) dX7_steer_4 1 rfl rfl ?_
  obtain ⟨b2, e_b2, h⟩ := bS h
  obtain ⟨⟨fs_b2, o_b2⟩, e_b2⟩ := cV_of e_b2
  refine V_cVi (pc2 := 8) [.int p0] (st := []) o_b2 (tX2_isChild e_b2) dX7_steer_5 wV_7_72 (by decide) rfl (Nat.le_of_ble_eq_true rfl) ?_
  refine V_ifb_eq (pc2 := 11) (tgt := 21) dX7_steer_8 (fun c8 => ?_) (fun c8 => ?_)
  · replace h := iF c8 h
    refine V_ldc (v := -1000000001) (pc2 := 23) dX7_steer_21 wconstant_7_51 ?_
    obtain ⟨e1, e2⟩ := inj2 h
    subst e1
    subst e2
    exact V_iret dX7_steer_23 rfl ⟨rfl, rfl⟩
  · replace h := iT c8 h
    refine V_iload_n (pc2 := 12) dX7_steer_11 2 rfl rfl ?_
    refine V_iconst (v := 1) (pc2 := 13) dX7_steer_12 (by decide) ?_
    refine V_bipush (v := 30) (pc2 := 15) dX7_steer_13 (by decide) ?_
    obtain ⟨b3, e_b3, h⟩ := bS h
    refine V_cSi (pc2 := 18) [.int p1, .int (1 : Int32), .int (30 : Int32)] (st := []) (tX7_within e_b3) dX7_steer_15 wS_7_47 (by decide) rfl (Nat.le_of_ble_eq_true rfl) ?_
    refine V_ifb_ne (pc2 := 21) (tgt := 24) dX7_steer_18 (fun c18 => ?_) (fun c18 => ?_)
    · replace h := iT c18 h
      refine V_iload_n (pc2 := 25) dX7_steer_24 2 rfl rfl ?_
      refine V_iconst (v := 1) (pc2 := 26) dX7_steer_25 (by decide) ?_
      refine V_isub (pc2 := 27) dX7_steer_26 ?_
      refine V_istore_n (pc2 := 28) (L2 := [(3, .int (p1 - (1 : Int32))), (0, .ref a0), (1, .int p0), (2, .int p1)]) dX7_steer_27 ?_ rfl rfl rfl
      have hl := h
      clear h
      have key28 : ∀ (n : Nat) (y4 : Int32) (m5 : Mem), loopF (fX7_steer_b0 a0 p0 p1) n (y4, m5) = some (rR, mR) → V D 6 IX7_steer 28 [(0, .ref a0), (1, .int p0), (2, .int p1), (3, .int y4)] [] m5 0 0 (Qi rR mR) := by
        intro n
        induction n with
        | zero => intro y4 m5 h; cases h
        | succ n ih =>
          intro y4 m5 h
          obtain ⟨o, h, ho⟩ := loopF_inv h
          dsimp only [fX7_steer_b0] at h
          refine V_iload_n (pc2 := 29) dX7_steer_28 3 rfl rfl ?_
          refine V_if_lt (pc2 := 32) (tgt := 81) dX7_steer_29 (fun c29 => ?_) (fun c29 => ?_)
          · replace h := iT c29 h
            refine V_ldc (v := -1000000005) (pc2 := 83) dX7_steer_81 wconstant_7_202 ?_
            have ee := inj1 h
            subst ee
            obtain ⟨e1, e2⟩ := pinj2 (loopF_e ho)
            subst e1
            subst e2
            exact V_iret dX7_steer_83 rfl ⟨rfl, rfl⟩
          · replace h := iF c29 h
            refine V_aload_n (pc2 := 33) dX7_steer_32 0 rfl rfl ?_
            obtain ⟨r6, e_r6, h⟩ := bS h
            refine V_gR (pc2 := 36) e_r6 dX7_steer_33 wF_7_16 ?_
            refine V_aload_n (pc2 := 37) dX7_steer_36 0 rfl rfl ?_
            obtain ⟨r7, e_r7, h⟩ := bS h
            refine V_gR (pc2 := 40) e_r7 dX7_steer_37 wF_7_10 ?_
            obtain ⟨m8, e_m8, h⟩ := bS h
            obtain ⟨⟨fs_m8, o_m8⟩, e_m8⟩ := cV_of e_m8
            refine V_cVv (pc2 := 43) [.ref r7] (st := []) o_m8 (tX2_become e_m8) dX7_steer_40 wV_7_180 (by decide) rfl (Nat.le_of_ble_eq_true rfl) ?_
            refine V_aload_n (pc2 := 44) dX7_steer_43 0 rfl rfl ?_
            obtain ⟨r9, e_r9, h⟩ := bS h
            refine V_gR (pc2 := 47) e_r9 dX7_steer_44 wF_7_16 ?_
            refine V_iload_n (pc2 := 48) dX7_steer_47 3 rfl rfl ?_
            obtain ⟨⟨x10, m11⟩, e_x10, h⟩ := bS h
            try dsimp only at h
            obtain ⟨⟨fs_x10, o_x10⟩, e_x10⟩ := cV_of e_x10
            refine V_cVi (pc2 := 51) [.int y4] (st := []) o_x10 (tX2_takeTurns e_x10) dX7_steer_48 wV_7_184 (by decide) rfl (Nat.le_of_ble_eq_true rfl) ?_
            refine V_pop (pc2 := 52) dX7_steer_51 rfl ?_
            refine V_aload_n (pc2 := 53) dX7_steer_52 0 rfl rfl ?_
            obtain ⟨r12, e_r12, h⟩ := bS h
            refine V_gR (pc2 := 56) e_r12 dX7_steer_53 wF_7_16 ?_
            obtain ⟨m13, e_m13, h⟩ := bS h
            obtain ⟨⟨fs_m13, o_m13⟩, e_m13⟩ := cV_of e_m13
            refine V_cVv (pc2 := 59) [] (st := []) o_m13 (tX2_makeEvenings e_m13) dX7_steer_56 wV_7_203 (by decide) rfl (Nat.le_of_ble_eq_true rfl) ?_
            refine V_aload_n (pc2 := 60) dX7_steer_59 0 rfl rfl ?_
            obtain ⟨r14, e_r14, h⟩ := bS h
            refine V_gR (pc2 := 63) e_r14 dX7_steer_60 wF_7_16 ?_
            refine V_iload_n (pc2 := 64) dX7_steer_63 2 rfl rfl ?_
            refine V_iload_n (pc2 := 65) dX7_steer_64 3 rfl rfl ?_
            refine V_isub (pc2 := 66) dX7_steer_65 ?_
            obtain ⟨⟨x15, m16⟩, e_x15, h⟩ := bS h
            try dsimp only at h
            obtain ⟨⟨fs_x15, o_x15⟩, e_x15⟩ := cV_of e_x15
            refine V_cVi (pc2 := 69) [.int (p1 - y4)] (st := []) o_x15 (tX2_takeTurns e_x15) dX7_steer_66 wV_7_184 (by decide) rfl (Nat.le_of_ble_eq_true rfl) ?_
            refine V_iload_n (pc2 := 70) dX7_steer_69 1 rfl rfl ?_
            refine V_icmp_ne (pc2 := 73) (tgt := 75) dX7_steer_70 (fun c70 => ?_) (fun c70 => ?_)
            · replace h := iF c70 h
              refine V_iinc (pc2 := 78) (v := y4 + (-1 : Int32)) (L2 := [(3, .int (y4 + (-1 : Int32))), (0, .ref a0), (1, .int p0), (2, .int p1)]) dX7_steer_75 3 rfl (by rfl) ?_ rfl rfl
              refine V_goto (tgt := 28) dX7_steer_78 ?_
              have ee := inj1 h
              subst ee
              exact V_lv (ih _ _ (loopF_c ho)) [1, 2, 3, 0] rfl
            · replace h := iT c70 h
              refine V_iload_n (pc2 := 74) dX7_steer_73 3 rfl rfl ?_
              have ee := inj1 h
              subst ee
              obtain ⟨e1, e2⟩ := pinj2 (loopF_e ho)
              subst e1
              subst e2
              exact V_iret dX7_steer_74 rfl ⟨rfl, rfl⟩
      exact V_lv (key28 _ _ _ hl) [1, 2, 3, 0] rfl
    · replace h := iF c18 h
      refine V_ldc (v := -1000000001) (pc2 := 23) dX7_steer_21 wconstant_7_51 ?_
      obtain ⟨e1, e2⟩ := inj2 h
      subst e1
      subst e2
      exact V_iret dX7_steer_23 rfl ⟨rfl, rfl⟩
noncomputable def fX7_pays_b0 (a0 : Nat) (p0 : Int32) (p1 : Int32) : Int32 × Int32 × Int32 × Mem → Option ((Int32 × Int32 × Int32 × Mem) ⊕ (Int32 × Int32 × Mem)) := fun (y5, y6, y7, m8) =>
  if (9 : Int32) < y7 then
    some (.inr (y5, y6, m8))
  else
    (gR m8 a0 7 1).bind fun r9 =>
    (gR m8 a0 7 0).bind fun r10 =>
    (cV m8 r9 2 (fX2_become r9 r10 m8)).bind fun m11 =>
    (gR m11 a0 7 1).bind fun r12 =>
    (gR m11 r12 2 0).bind fun r13 =>
    (ldR m11 r13 1 p0).bind fun r14 =>
    (pI m11 r14 0 0 y7).bind fun m15 =>
    (gR m15 a0 7 1).bind fun r16 =>
    (cV m15 r16 2 (fX2_takeTurns r16 p1 m15)).bind fun (x17, m18) =>
    (gR m18 a0 7 1).bind fun r19 =>
    (gR m18 r19 2 0).bind fun r20 =>
    (ldR m18 r20 1 p0).bind fun r21 =>
    (gI m18 r21 0 1).bind fun x22 =>
    (
      if x22 ≤ y6 then
        some (y5, y6)
      else
        (gR m18 a0 7 1).bind fun r23 =>
        (gR m18 r23 2 0).bind fun r24 =>
        (ldR m18 r24 1 p0).bind fun r25 =>
        (gI m18 r25 0 1).bind fun x26 =>
        some (y7, x26)).bind fun (y27, y28) =>
    some (.inl (y27, y28, y7 + (1 : Int32), m18))
noncomputable def fX7_pays (a0 : Nat) (p0 : Int32) (p1 : Int32) (p2 : Int32) (m : Mem) : Option (Int32 × Mem) :=
  (gR m a0 7 0).bind fun r1 =>
  (cV m r1 2 (fX2_isChild r1 p0 m)).bind fun b2 =>
  if b2 = true then
    (fX7_within p1 (1 : Int32) (60 : Int32) m).bind fun b3 =>
    if b3 = true then
      (fX7_within p2 (0 : Int32) (1 : Int32) m).bind fun b4 =>
      if b4 = true then
        (loopF (fX7_pays_b0 a0 p0 p1) bigN ((0 : Int32), (-1 : Int32), (1 : Int32), m)).bind fun (y29, y30, m31) =>
        if p2 = 0 then
          some (y29, m31)
        else
          some (y30, m31)
      else
        some ((-1000000001 : Int32), m)
    else
      some ((-1000000001 : Int32), m)
  else
    some ((-1000000001 : Int32), m)
set_option maxRecDepth 20000 in
theorem tX7_pays {D : Dat} {a0 : Nat} {p0 : Int32} {p1 : Int32} {p2 : Int32} {m : Mem} {rR : Int32} {mR : Mem} (h : fX7_pays a0 p0 p1 p2 m = some (rR, mR)) : T D 6 IX7_pays [.ref a0, .int p0, .int p1, .int p2] m 0 0 (Qi rR mR) := by
  refine T_of_V (by decide) (Nat.le_of_ble_eq_true rfl) ?_
  show V D 6 IX7_pays 0 [(0, .ref a0), (1, .int p0), (2, .int p1), (3, .int p2)] [] m 0 0 (Qi rR mR)
  unfold fX7_pays at h
  refine V_aload_n (pc2 := 1) dX7_pays_0 0 rfl rfl ?_
  obtain ⟨r1, e_r1, h⟩ := bS h
  refine V_gR (pc2 := 4) e_r1 dX7_pays_1 wF_7_10 ?_
  refine V_iload_n (pc2 := 5) dX7_pays_4 1 rfl rfl ?_
  obtain ⟨b2, e_b2, h⟩ := bS h
  obtain ⟨⟨fs_b2, o_b2⟩, e_b2⟩ := cV_of e_b2
  refine V_cVi (pc2 := 8) [.int p0] (st := []) o_b2 (tX2_isChild e_b2) dX7_pays_5 wV_7_72 (by decide) rfl (Nat.le_of_ble_eq_true rfl) ?_
  refine V_ifb_eq (pc2 := 11) (tgt := 30) dX7_pays_8 (fun c8 => ?_) (fun c8 => ?_)
  · replace h := iF c8 h
    refine V_ldc (v := -1000000001) (pc2 := 32) dX7_pays_30 wconstant_7_51 ?_
    obtain ⟨e1, e2⟩ := inj2 h
    subst e1
    subst e2
    exact V_iret dX7_pays_32 rfl ⟨rfl, rfl⟩
  · replace h := iT c8 h
    refine V_iload_n (pc2 := 12) dX7_pays_11 2 rfl rfl ?_
    refine V_iconst (v := 1) (pc2 := 13) dX7_pays_12 (by decide) ?_
    refine V_bipush (v := 60) (pc2 := 15) dX7_pays_13 (by decide) ?_
    obtain ⟨b3, e_b3, h⟩ := bS h
    refine V_cSi (pc2 := 18) [.int p1, .int (1 : Int32), .int (60 : Int32)] (st := []) (tX7_within e_b3) dX7_pays_15 wS_7_47 (by decide) rfl (Nat.le_of_ble_eq_true rfl) ?_
    refine V_ifb_eq (pc2 := 21) (tgt := 30) dX7_pays_18 (fun c18 => ?_) (fun c18 => ?_)
    · replace h := iF c18 h
      refine V_ldc (v := -1000000001) (pc2 := 32) dX7_pays_30 wconstant_7_51 ?_
      obtain ⟨e1, e2⟩ := inj2 h
      subst e1
      subst e2
      exact V_iret dX7_pays_32 rfl ⟨rfl, rfl⟩
    · replace h := iT c18 h
      refine V_iload_n (pc2 := 22) dX7_pays_21 3 rfl rfl ?_
      refine V_iconst (v := 0) (pc2 := 23) dX7_pays_22 (by decide) ?_
      refine V_iconst (v := 1) (pc2 := 24) dX7_pays_23 (by decide) ?_
      obtain ⟨b4, e_b4, h⟩ := bS h
      refine V_cSi (pc2 := 27) [.int p2, .int (0 : Int32), .int (1 : Int32)] (st := []) (tX7_within e_b4) dX7_pays_24 wS_7_47 (by decide) rfl (Nat.le_of_ble_eq_true rfl) ?_
      refine V_ifb_ne (pc2 := 30) (tgt := 33) dX7_pays_27 (fun c27 => ?_) (fun c27 => ?_)
      · replace h := iT c27 h
        refine V_iconst (v := 0) (pc2 := 34) dX7_pays_33 (by decide) ?_
        refine V_istore (pc2 := 36) (L2 := [(4, .int (0 : Int32)), (0, .ref a0), (1, .int p0), (2, .int p1), (3, .int p2)]) dX7_pays_34 ?_ rfl rfl
        refine V_iconst (v := -1) (pc2 := 37) dX7_pays_36 (by decide) ?_
        refine V_istore (pc2 := 39) (L2 := [(5, .int (-1 : Int32)), (4, .int (0 : Int32)), (0, .ref a0), (1, .int p0), (2, .int p1), (3, .int p2)]) dX7_pays_37 ?_ rfl rfl
        refine V_iconst (v := 1) (pc2 := 40) dX7_pays_39 (by decide) ?_
        refine V_istore (pc2 := 42) (L2 := [(6, .int (1 : Int32)), (5, .int (-1 : Int32)), (4, .int (0 : Int32)), (0, .ref a0), (1, .int p0), (2, .int p1), (3, .int p2)]) dX7_pays_40 ?_ rfl rfl
        obtain ⟨⟨y29, y30, m31⟩, hl, h⟩ := bS h
        try dsimp only at h
        have hJ124 : V D 6 IX7_pays 124 [(3, .int p2), (4, .int y29), (5, .int y30)] [] m31 0 0 (Qi rR mR) := by
          refine V_iload_n (pc2 := 125) dX7_pays_124 0 rfl rfl ?_
          refine V_if_ne (pc2 := 128) (tgt := 133) dX7_pays_125 (fun c125 => ?_) (fun c125 => ?_)
          · replace h := iF c125 h
            refine V_iload (pc2 := 135) dX7_pays_133 2 rfl ?_
            obtain ⟨e1, e2⟩ := inj2 h
            subst e1
            subst e2
            exact V_iret dX7_pays_135 rfl ⟨rfl, rfl⟩
          · replace h := iT c125 h
            refine V_iload (pc2 := 130) dX7_pays_128 1 rfl ?_
            refine V_goto (tgt := 135) dX7_pays_130 ?_
            obtain ⟨e1, e2⟩ := inj2 h
            subst e1
            subst e2
            exact V_iret dX7_pays_135 rfl ⟨rfl, rfl⟩
        clear h
        have key42 : ∀ (n : Nat) (y5 : Int32) (y6 : Int32) (y7 : Int32) (m8 : Mem), loopF (fX7_pays_b0 a0 p0 p1) n (y5, y6, y7, m8) = some (y29, y30, m31) → V D 6 IX7_pays 42 [(0, .ref a0), (1, .int p0), (2, .int p1), (3, .int p2), (4, .int y5), (5, .int y6), (6, .int y7)] [] m8 0 0 (Qi rR mR) := by
          intro n
          induction n with
          | zero => intro y5 y6 y7 m8 h; cases h
          | succ n ih =>
            intro y5 y6 y7 m8 h
            obtain ⟨o, h, ho⟩ := loopF_inv h
            dsimp only [fX7_pays_b0] at h
            refine V_iload (pc2 := 44) dX7_pays_42 6 rfl ?_
            refine V_bipush (v := 9) (pc2 := 46) dX7_pays_44 (by decide) ?_
            refine V_icmp_gt (pc2 := 49) (tgt := 124) dX7_pays_46 (fun c46 => ?_) (fun c46 => ?_)
            · replace h := iT c46 h
              have ee := inj1 h
              subst ee
              obtain ⟨e1, e2, e3⟩ := pinj3 (loopF_e ho)
              subst e1
              subst e2
              subst e3
              exact V_lv hJ124 [3, 4, 5] rfl
            · replace h := iF c46 h
              refine V_aload_n (pc2 := 50) dX7_pays_49 0 rfl rfl ?_
              obtain ⟨r9, e_r9, h⟩ := bS h
              refine V_gR (pc2 := 53) e_r9 dX7_pays_50 wF_7_16 ?_
              refine V_aload_n (pc2 := 54) dX7_pays_53 0 rfl rfl ?_
              obtain ⟨r10, e_r10, h⟩ := bS h
              refine V_gR (pc2 := 57) e_r10 dX7_pays_54 wF_7_10 ?_
              obtain ⟨m11, e_m11, h⟩ := bS h
              obtain ⟨⟨fs_m11, o_m11⟩, e_m11⟩ := cV_of e_m11
              refine V_cVv (pc2 := 60) [.ref r10] (st := []) o_m11 (tX2_become e_m11) dX7_pays_57 wV_7_180 (by decide) rfl (Nat.le_of_ble_eq_true rfl) ?_
              refine V_aload_n (pc2 := 61) dX7_pays_60 0 rfl rfl ?_
              obtain ⟨r12, e_r12, h⟩ := bS h
              refine V_gR (pc2 := 64) e_r12 dX7_pays_61 wF_7_16 ?_
              obtain ⟨r13, e_r13, h⟩ := bS h
              refine V_gR (pc2 := 67) e_r13 dX7_pays_64 wF_7_57 ?_
              refine V_iload_n (pc2 := 68) dX7_pays_67 1 rfl rfl ?_
              obtain ⟨r14, e_r14, h⟩ := bS h
              refine V_ldR (pc2 := 69) e_r14 dX7_pays_68 rfl ?_
              refine V_iload (pc2 := 71) dX7_pays_69 6 rfl ?_
              obtain ⟨m15, e_m15, h⟩ := bS h
              refine V_pI (pc2 := 74) e_m15 dX7_pays_71 wP_7_61 rfl rfl ?_
              refine V_aload_n (pc2 := 75) dX7_pays_74 0 rfl rfl ?_
              obtain ⟨r16, e_r16, h⟩ := bS h
              refine V_gR (pc2 := 78) e_r16 dX7_pays_75 wF_7_16 ?_
              refine V_iload_n (pc2 := 79) dX7_pays_78 2 rfl rfl ?_
              obtain ⟨⟨x17, m18⟩, e_x17, h⟩ := bS h
              try dsimp only at h
              obtain ⟨⟨fs_x17, o_x17⟩, e_x17⟩ := cV_of e_x17
              refine V_cVi (pc2 := 82) [.int p1] (st := []) o_x17 (tX2_takeTurns e_x17) dX7_pays_79 wV_7_184 (by decide) rfl (Nat.le_of_ble_eq_true rfl) ?_
              refine V_pop (pc2 := 83) dX7_pays_82 rfl ?_
              refine V_aload_n (pc2 := 84) dX7_pays_83 0 rfl rfl ?_
              obtain ⟨r19, e_r19, h⟩ := bS h
              refine V_gR (pc2 := 87) e_r19 dX7_pays_84 wF_7_16 ?_
              obtain ⟨r20, e_r20, h⟩ := bS h
              refine V_gR (pc2 := 90) e_r20 dX7_pays_87 wF_7_57 ?_
              refine V_iload_n (pc2 := 91) dX7_pays_90 1 rfl rfl ?_
              obtain ⟨r21, e_r21, h⟩ := bS h
              refine V_ldR (pc2 := 92) e_r21 dX7_pays_91 rfl ?_
              obtain ⟨x22, e_x22, h⟩ := bS h
              refine V_gI (pc2 := 95) e_x22 dX7_pays_92 wF_7_66 ?_
              refine V_iload (pc2 := 97) dX7_pays_95 5 rfl ?_
              obtain ⟨⟨y27, y28⟩, hb, h⟩ := bS h
              try dsimp only at h
              have hJ118 : V D 6 IX7_pays 118 [(0, .ref a0), (1, .int p0), (2, .int p1), (3, .int p2), (4, .int y27), (5, .int y28), (6, .int y7)] [] m18 0 0 (Qi rR mR) := by
                refine V_iinc (pc2 := 121) (v := y7 + (1 : Int32)) (L2 := [(6, .int (y7 + (1 : Int32))), (0, .ref a0), (1, .int p0), (2, .int p1), (3, .int p2), (4, .int y27), (5, .int y28)]) dX7_pays_118 6 rfl (by rfl) ?_ rfl rfl
                refine V_goto (tgt := 42) dX7_pays_121 ?_
                have ee := inj1 h
                subst ee
                exact V_lv (ih _ _ _ _ (loopF_c ho)) [1, 2, 3, 4, 5, 6, 0] rfl
              clear h
              have h := hb
              clear hb
              refine V_icmp_le (pc2 := 100) (tgt := 118) dX7_pays_97 (fun c97 => ?_) (fun c97 => ?_)
              · replace h := iT c97 h
                obtain ⟨e1, e2⟩ := inj2 h
                subst e1
                subst e2
                exact hJ118
              · replace h := iF c97 h
                refine V_iload (pc2 := 102) dX7_pays_100 6 rfl ?_
                refine V_istore (pc2 := 104) (L2 := [(4, .int y7), (0, .ref a0), (1, .int p0), (2, .int p1), (3, .int p2), (5, .int y6), (6, .int y7)]) dX7_pays_102 ?_ rfl rfl
                refine V_aload_n (pc2 := 105) dX7_pays_104 1 rfl rfl ?_
                obtain ⟨r23, e_r23, h⟩ := bS h
                refine V_gR (pc2 := 108) e_r23 dX7_pays_105 wF_7_16 ?_
                obtain ⟨r24, e_r24, h⟩ := bS h
                refine V_gR (pc2 := 111) e_r24 dX7_pays_108 wF_7_57 ?_
                refine V_iload_n (pc2 := 112) dX7_pays_111 2 rfl rfl ?_
                obtain ⟨r25, e_r25, h⟩ := bS h
                refine V_ldR (pc2 := 113) e_r25 dX7_pays_112 rfl ?_
                obtain ⟨x26, e_x26, h⟩ := bS h
                refine V_gI (pc2 := 116) e_x26 dX7_pays_113 wF_7_66 ?_
                refine V_istore (pc2 := 118) (L2 := [(5, .int x26), (4, .int y7), (0, .ref a0), (1, .int p0), (2, .int p1), (3, .int p2), (6, .int y7)]) dX7_pays_116 ?_ rfl rfl
                obtain ⟨e1, e2⟩ := inj2 h
                subst e1
                subst e2
                exact V_lv hJ118 [2, 3, 4, 5, 1, 0, 6] rfl
        exact V_lv (key42 _ _ _ _ _ hl) [3, 4, 5, 6, 2, 1, 0] rfl
      · replace h := iF c27 h
        refine V_ldc (v := -1000000001) (pc2 := 32) dX7_pays_30 wconstant_7_51 ?_
        obtain ⟨e1, e2⟩ := inj2 h
        subst e1
        subst e2
        exact V_iret dX7_pays_32 rfl ⟨rfl, rfl⟩
noncomputable def fX7_worst_b0 (a0 : Nat) (p0 : Int32) : Int32 × Int32 × Int32 × Mem → Option ((Int32 × Int32 × Int32 × Mem) ⊕ (Int32 × Int32 × Mem)) := fun (y3, y4, y5, m6) =>
  (gR m6 a0 7 0).bind fun r7 =>
  (gI m6 r7 2 3).bind fun x8 =>
  if x8 ≤ y5 then
    some (.inr (y3, y4, m6))
  else
    (gR m6 a0 7 1).bind fun r9 =>
    (gR m6 a0 7 0).bind fun r10 =>
    (cV m6 r9 2 (fX2_become r9 r10 m6)).bind fun m11 =>
    (gR m11 a0 7 1).bind fun r12 =>
    (gR m11 r12 2 2).bind fun r13 =>
    (stI m11 r13 y5 (2 : Int32)).bind fun m14 =>
    (gR m14 a0 7 1).bind fun r15 =>
    (cV m14 r15 2 (fX2_takeTurns r15 p0 m14)).bind fun (x16, m17) =>
    (gR m17 a0 7 1).bind fun r18 =>
    (cV m17 r18 2 (fX2_spread r18 m17)).bind fun x19 =>
    (
      if y3 = (-1000000005 : Int32) then
        some (y5, x19)
      else
        if y4 ≤ x19 then
          some (y3, y4)
        else
          some (y5, x19)).bind fun (y20, y21) =>
    some (.inl (y20, y21, y5 + (1 : Int32), m17))
noncomputable def fX7_worst (a0 : Nat) (p0 : Int32) (p1 : Int32) (m : Mem) : Option (Int32 × Mem) :=
  (fX7_within p0 (1 : Int32) (60 : Int32) m).bind fun b1 =>
  if b1 = true then
    (fX7_within p1 (0 : Int32) (1 : Int32) m).bind fun b2 =>
    if b2 = true then
      (loopF (fX7_worst_b0 a0 p0) bigN ((-1000000005 : Int32), (-1000000005 : Int32), (0 : Int32), m)).bind fun (y22, y23, m24) =>
      if p1 = 0 then
        some (y22, m24)
      else
        some (y23, m24)
    else
      some ((-1000000001 : Int32), m)
  else
    some ((-1000000001 : Int32), m)
set_option maxRecDepth 20000 in
theorem tX7_worst {D : Dat} {a0 : Nat} {p0 : Int32} {p1 : Int32} {m : Mem} {rR : Int32} {mR : Mem} (h : fX7_worst a0 p0 p1 m = some (rR, mR)) : T D 6 IX7_worst [.ref a0, .int p0, .int p1] m 0 0 (Qi rR mR) := by
  refine T_of_V (by decide) (Nat.le_of_ble_eq_true rfl) ?_
  show V D 6 IX7_worst 0 [(0, .ref a0), (1, .int p0), (2, .int p1)] [] m 0 0 (Qi rR mR)
  unfold fX7_worst at h
  refine V_iload_n (pc2 := 1) dX7_worst_0 1 rfl rfl ?_
  refine V_iconst (v := 1) (pc2 := 2) dX7_worst_1 (by decide) ?_
  refine V_bipush (v := 60) (pc2 := 4) dX7_worst_2 (by decide) ?_
  obtain ⟨b1, e_b1, h⟩ := bS h
  refine V_cSi (pc2 := 7) [.int p0, .int (1 : Int32), .int (60 : Int32)] (st := []) (tX7_within e_b1) dX7_worst_4 wS_7_47 (by decide) rfl (Nat.le_of_ble_eq_true rfl) ?_
  refine V_ifb_eq (pc2 := 10) (tgt := 19) dX7_worst_7 (fun c7 => ?_) (fun c7 => ?_)
  · replace h := iF c7 h
    refine V_ldc (v := -1000000001) (pc2 := 21) dX7_worst_19 wconstant_7_51 ?_
    obtain ⟨e1, e2⟩ := inj2 h
    subst e1
    subst e2
    exact V_iret dX7_worst_21 rfl ⟨rfl, rfl⟩
  · replace h := iT c7 h
    refine V_iload_n (pc2 := 11) dX7_worst_10 2 rfl rfl ?_
    refine V_iconst (v := 0) (pc2 := 12) dX7_worst_11 (by decide) ?_
    refine V_iconst (v := 1) (pc2 := 13) dX7_worst_12 (by decide) ?_
    obtain ⟨b2, e_b2, h⟩ := bS h
    refine V_cSi (pc2 := 16) [.int p1, .int (0 : Int32), .int (1 : Int32)] (st := []) (tX7_within e_b2) dX7_worst_13 wS_7_47 (by decide) rfl (Nat.le_of_ble_eq_true rfl) ?_
    refine V_ifb_ne (pc2 := 19) (tgt := 22) dX7_worst_16 (fun c16 => ?_) (fun c16 => ?_)
    · replace h := iT c16 h
      refine V_ldc (v := -1000000005) (pc2 := 24) dX7_worst_22 wconstant_7_202 ?_
      refine V_istore_n (pc2 := 25) (L2 := [(3, .int (-1000000005 : Int32)), (0, .ref a0), (1, .int p0), (2, .int p1)]) dX7_worst_24 ?_ rfl rfl rfl
      refine V_ldc (v := -1000000005) (pc2 := 27) dX7_worst_25 wconstant_7_202 ?_
      refine V_istore (pc2 := 29) (L2 := [(4, .int (-1000000005 : Int32)), (3, .int (-1000000005 : Int32)), (0, .ref a0), (1, .int p0), (2, .int p1)]) dX7_worst_27 ?_ rfl rfl
      refine V_iconst (v := 0) (pc2 := 30) dX7_worst_29 (by decide) ?_
      refine V_istore (pc2 := 32) (L2 := [(5, .int (0 : Int32)), (4, .int (-1000000005 : Int32)), (3, .int (-1000000005 : Int32)), (0, .ref a0), (1, .int p0), (2, .int p1)]) dX7_worst_30 ?_ rfl rfl
      obtain ⟨⟨y22, y23, m24⟩, hl, h⟩ := bS h
      try dsimp only at h
      have hJ110 : V D 6 IX7_worst 110 [(2, .int p1), (3, .int y22), (4, .int y23)] [] m24 0 0 (Qi rR mR) := by
        refine V_iload_n (pc2 := 111) dX7_worst_110 0 rfl rfl ?_
        refine V_if_ne (pc2 := 114) (tgt := 118) dX7_worst_111 (fun c111 => ?_) (fun c111 => ?_)
        · replace h := iF c111 h
          refine V_iload (pc2 := 120) dX7_worst_118 2 rfl ?_
          obtain ⟨e1, e2⟩ := inj2 h
          subst e1
          subst e2
          exact V_iret dX7_worst_120 rfl ⟨rfl, rfl⟩
        · replace h := iT c111 h
          refine V_iload_n (pc2 := 115) dX7_worst_114 1 rfl rfl ?_
          refine V_goto (tgt := 120) dX7_worst_115 ?_
          obtain ⟨e1, e2⟩ := inj2 h
          subst e1
          subst e2
          exact V_iret dX7_worst_120 rfl ⟨rfl, rfl⟩
      clear h
      have key32 : ∀ (n : Nat) (y3 : Int32) (y4 : Int32) (y5 : Int32) (m6 : Mem), loopF (fX7_worst_b0 a0 p0) n (y3, y4, y5, m6) = some (y22, y23, m24) → V D 6 IX7_worst 32 [(0, .ref a0), (1, .int p0), (2, .int p1), (3, .int y3), (4, .int y4), (5, .int y5)] [] m6 0 0 (Qi rR mR) := by
        intro n
        induction n with
        | zero => intro y3 y4 y5 m6 h; cases h
        | succ n ih =>
          intro y3 y4 y5 m6 h
          obtain ⟨o, h, ho⟩ := loopF_inv h
          dsimp only [fX7_worst_b0] at h
          refine V_iload (pc2 := 34) dX7_worst_32 5 rfl ?_
          refine V_aload_n (pc2 := 35) dX7_worst_34 0 rfl rfl ?_
          obtain ⟨r7, e_r7, h⟩ := bS h
          refine V_gR (pc2 := 38) e_r7 dX7_worst_35 wF_7_10 ?_
          obtain ⟨x8, e_x8, h⟩ := bS h
          refine V_gI (pc2 := 41) e_x8 dX7_worst_38 wF_7_87 ?_
          refine V_icmp_ge (pc2 := 44) (tgt := 110) dX7_worst_41 (fun c41 => ?_) (fun c41 => ?_)
          · replace h := iT c41 h
            have ee := inj1 h
            subst ee
            obtain ⟨e1, e2, e3⟩ := pinj3 (loopF_e ho)
            subst e1
            subst e2
            subst e3
            exact V_lv hJ110 [2, 3, 4] rfl
          · replace h := iF c41 h
            refine V_aload_n (pc2 := 45) dX7_worst_44 0 rfl rfl ?_
            obtain ⟨r9, e_r9, h⟩ := bS h
            refine V_gR (pc2 := 48) e_r9 dX7_worst_45 wF_7_16 ?_
            refine V_aload_n (pc2 := 49) dX7_worst_48 0 rfl rfl ?_
            obtain ⟨r10, e_r10, h⟩ := bS h
            refine V_gR (pc2 := 52) e_r10 dX7_worst_49 wF_7_10 ?_
            obtain ⟨m11, e_m11, h⟩ := bS h
            obtain ⟨⟨fs_m11, o_m11⟩, e_m11⟩ := cV_of e_m11
            refine V_cVv (pc2 := 55) [.ref r10] (st := []) o_m11 (tX2_become e_m11) dX7_worst_52 wV_7_180 (by decide) rfl (Nat.le_of_ble_eq_true rfl) ?_
            refine V_aload_n (pc2 := 56) dX7_worst_55 0 rfl rfl ?_
            obtain ⟨r12, e_r12, h⟩ := bS h
            refine V_gR (pc2 := 59) e_r12 dX7_worst_56 wF_7_16 ?_
            obtain ⟨r13, e_r13, h⟩ := bS h
            refine V_gR (pc2 := 62) e_r13 dX7_worst_59 wF_7_90 ?_
            refine V_iload (pc2 := 64) dX7_worst_62 5 rfl ?_
            refine V_iconst (v := 2) (pc2 := 65) dX7_worst_64 (by decide) ?_
            obtain ⟨m14, e_m14, h⟩ := bS h
            refine V_stI (pc2 := 66) e_m14 dX7_worst_65 ?_
            refine V_aload_n (pc2 := 67) dX7_worst_66 0 rfl rfl ?_
            obtain ⟨r15, e_r15, h⟩ := bS h
            refine V_gR (pc2 := 70) e_r15 dX7_worst_67 wF_7_16 ?_
            refine V_iload_n (pc2 := 71) dX7_worst_70 1 rfl rfl ?_
            obtain ⟨⟨x16, m17⟩, e_x16, h⟩ := bS h
            try dsimp only at h
            obtain ⟨⟨fs_x16, o_x16⟩, e_x16⟩ := cV_of e_x16
            refine V_cVi (pc2 := 74) [.int p0] (st := []) o_x16 (tX2_takeTurns e_x16) dX7_worst_71 wV_7_184 (by decide) rfl (Nat.le_of_ble_eq_true rfl) ?_
            refine V_pop (pc2 := 75) dX7_worst_74 rfl ?_
            refine V_aload_n (pc2 := 76) dX7_worst_75 0 rfl rfl ?_
            obtain ⟨r18, e_r18, h⟩ := bS h
            refine V_gR (pc2 := 79) e_r18 dX7_worst_76 wF_7_16 ?_
            obtain ⟨x19, e_x19, h⟩ := bS h
            obtain ⟨⟨fs_x19, o_x19⟩, e_x19⟩ := cV_of e_x19
            refine V_cVi (pc2 := 82) [] (st := []) o_x19 (tX2_spread e_x19) dX7_worst_79 wV_7_187 (by decide) rfl (Nat.le_of_ble_eq_true rfl) ?_
            refine V_istore (pc2 := 84) (L2 := [(6, .int x19), (0, .ref a0), (1, .int p0), (2, .int p1), (3, .int y3), (4, .int y4), (5, .int y5)]) dX7_worst_82 ?_ rfl rfl
            refine V_iload_n (pc2 := 85) dX7_worst_84 4 rfl rfl ?_
            refine V_ldc (v := -1000000005) (pc2 := 87) dX7_worst_85 wconstant_7_202 ?_
            obtain ⟨⟨y20, y21⟩, hb, h⟩ := bS h
            try dsimp only at h
            have hJ104 : V D 6 IX7_worst 104 [(0, .ref a0), (1, .int p0), (2, .int p1), (3, .int y20), (4, .int y21), (5, .int y5)] [] m17 0 0 (Qi rR mR) := by
              refine V_iinc (pc2 := 107) (v := y5 + (1 : Int32)) (L2 := [(5, .int (y5 + (1 : Int32))), (0, .ref a0), (1, .int p0), (2, .int p1), (3, .int y20), (4, .int y21)]) dX7_worst_104 5 rfl (by rfl) ?_ rfl rfl
              refine V_goto (tgt := 32) dX7_worst_107 ?_
              have ee := inj1 h
              subst ee
              exact V_lv (ih _ _ _ _ (loopF_c ho)) [1, 2, 3, 4, 5, 0] rfl
            clear h
            have h := hb
            clear hb
            refine V_icmp_eq (pc2 := 90) (tgt := 97) dX7_worst_87 (fun c87 => ?_) (fun c87 => ?_)
            · replace h := iT c87 h
              refine V_iload (pc2 := 99) dX7_worst_97 6 rfl ?_
              refine V_istore_n (pc2 := 100) (L2 := [(3, .int y5), (6, .int x19), (0, .ref a0), (1, .int p0), (2, .int p1), (4, .int y4), (5, .int y5)]) dX7_worst_99 ?_ rfl rfl rfl
              refine V_iload (pc2 := 102) dX7_worst_100 1 rfl ?_
              refine V_istore (pc2 := 104) (L2 := [(4, .int x19), (3, .int y5), (6, .int x19), (0, .ref a0), (1, .int p0), (2, .int p1), (5, .int y5)]) dX7_worst_102 ?_ rfl rfl
              obtain ⟨e1, e2⟩ := inj2 h
              subst e1
              subst e2
              exact V_lv hJ104 [3, 4, 5, 1, 0, 6] rfl
            · replace h := iF c87 h
              refine V_iload (pc2 := 92) dX7_worst_90 0 rfl ?_
              refine V_iload (pc2 := 94) dX7_worst_92 5 rfl ?_
              refine V_icmp_ge (pc2 := 97) (tgt := 104) dX7_worst_94 (fun c94 => ?_) (fun c94 => ?_)
              · replace h := iT c94 h
                obtain ⟨e1, e2⟩ := inj2 h
                subst e1
                subst e2
                exact V_lv hJ104 [1, 2, 3, 4, 5, 6] rfl
              · replace h := iF c94 h
                refine V_iload (pc2 := 99) dX7_worst_97 6 rfl ?_
                refine V_istore_n (pc2 := 100) (L2 := [(3, .int y5), (6, .int x19), (0, .ref a0), (1, .int p0), (2, .int p1), (4, .int y4), (5, .int y5)]) dX7_worst_99 ?_ rfl rfl rfl
                refine V_iload (pc2 := 102) dX7_worst_100 1 rfl ?_
                refine V_istore (pc2 := 104) (L2 := [(4, .int x19), (3, .int y5), (6, .int x19), (0, .ref a0), (1, .int p0), (2, .int p1), (5, .int y5)]) dX7_worst_102 ?_ rfl rfl
                obtain ⟨e1, e2⟩ := inj2 h
                subst e1
                subst e2
                exact V_lv hJ104 [3, 4, 5, 1, 0, 6] rfl
      exact V_lv (key32 _ _ _ _ _ hl) [3, 4, 5, 2, 1, 0] rfl
    · replace h := iF c16 h
      refine V_ldc (v := -1000000001) (pc2 := 21) dX7_worst_19 wconstant_7_51 ?_
      obtain ⟨e1, e2⟩ := inj2 h
      subst e1
      subst e2
      exact V_iret dX7_worst_21 rfl ⟨rfl, rfl⟩
noncomputable def fX7_isSheet (p0 : Int32) (m : Mem) : Option (Bool) :=
  (fX7_within p0 (0 : Int32) (3 : Int32) m).bind fun b1 =>
  some b1
set_option maxRecDepth 20000 in
theorem tX7_isSheet {D : Dat} {p0 : Int32} {m : Mem} {rR : Bool} (h : fX7_isSheet p0 m = some rR) : T D 1 IX7_isSheet [.int p0] m 0 0 (Qi (zb rR) m) := by
  refine T_of_V (by decide) (Nat.le_of_ble_eq_true rfl) ?_
  show V D 1 IX7_isSheet 0 [(0, .int p0)] [] m 0 0 (Qi (zb rR) m)
  unfold fX7_isSheet at h
  refine V_iload_n (pc2 := 1) dX7_isSheet_0 0 rfl rfl ?_
  refine V_iconst (v := 0) (pc2 := 2) dX7_isSheet_1 (by decide) ?_
  refine V_iconst (v := 3) (pc2 := 3) dX7_isSheet_2 (by decide) ?_
  obtain ⟨b1, e_b1, h⟩ := bS h
  refine V_cSi (pc2 := 6) [.int p0, .int (0 : Int32), .int (3 : Int32)] (st := []) (tX7_within e_b1) dX7_isSheet_3 wS_7_47 (by decide) rfl (Nat.le_of_ble_eq_true rfl) ?_
  have e1 := inj1 h
  subst e1
  exact V_bret (b := b1) dX7_isSheet_6 rfl ⟨rfl, rfl⟩
noncomputable def fX2_makeSeconds_b0 (a0 : Nat) (p0 : Int32) : Int32 × Mem → Option ((Int32 × Mem) ⊕ Mem) := fun (y1, m2) =>
  (gI m2 a0 2 5).bind fun x3 =>
  if x3 ≤ y1 then
    some (.inr m2)
  else
    (gR m2 a0 2 4).bind fun r4 =>
    (ldR m2 r4 2 y1).bind fun r5 =>
    (pI m2 r5 5 1 p0).bind fun m6 =>
    some (.inl (y1 + (1 : Int32), m6))
noncomputable def fX2_makeSeconds (a0 : Nat) (p0 : Int32) (m : Mem) : Option (Mem) :=
  (loopF (fX2_makeSeconds_b0 a0 p0) bigN ((0 : Int32), m)).bind fun m7 =>
  some m7
set_option maxRecDepth 20000 in
theorem tX2_makeSeconds {D : Dat} {a0 : Nat} {p0 : Int32} {m : Mem} {mR : Mem} (h : fX2_makeSeconds a0 p0 m = some mR) : T D 0 IX2_makeSeconds [.ref a0, .int p0] m 0 0 (Qv mR) := by
  refine T_of_V (by decide) (Nat.le_of_ble_eq_true rfl) ?_
  show V D 0 IX2_makeSeconds 0 [(0, .ref a0), (1, .int p0)] [] m 0 0 (Qv mR)
  unfold fX2_makeSeconds at h
  refine V_iconst (v := 0) (pc2 := 1) dX2_makeSeconds_0 (by decide) ?_
  refine V_istore_n (pc2 := 2) (L2 := [(2, .int (0 : Int32)), (0, .ref a0), (1, .int p0)]) dX2_makeSeconds_1 ?_ rfl rfl rfl
  obtain ⟨m7, hl, h⟩ := bS h
  have hJ26 : V D 0 IX2_makeSeconds 26 [] [] m7 0 0 (Qv mR) := by
    have e1 := inj1 h
    subst e1
    exact V_vret dX2_makeSeconds_26 rfl ⟨rfl, rfl⟩
  clear h
  have key2 : ∀ (n : Nat) (y1 : Int32) (m2 : Mem), loopF (fX2_makeSeconds_b0 a0 p0) n (y1, m2) = some m7 → V D 0 IX2_makeSeconds 2 [(0, .ref a0), (1, .int p0), (2, .int y1)] [] m2 0 0 (Qv mR) := by
    intro n
    induction n with
    | zero => intro y1 m2 h; cases h
    | succ n ih =>
      intro y1 m2 h
      obtain ⟨o, h, ho⟩ := loopF_inv h
      dsimp only [fX2_makeSeconds_b0] at h
      refine V_iload_n (pc2 := 3) dX2_makeSeconds_2 2 rfl rfl ?_
      refine V_aload_n (pc2 := 4) dX2_makeSeconds_3 0 rfl rfl ?_
      obtain ⟨x3, e_x3, h⟩ := bS h
      refine V_gI (pc2 := 7) e_x3 dX2_makeSeconds_4 wF_2_64 ?_
      refine V_icmp_ge (pc2 := 10) (tgt := 26) dX2_makeSeconds_7 (fun c7 => ?_) (fun c7 => ?_)
      · replace h := iT c7 h
        have ee := inj1 h
        subst ee
        have e1 := pinj1 (loopF_e ho)
        subst e1
        exact V_lv hJ26 [] rfl
      · replace h := iF c7 h
        refine V_aload_n (pc2 := 11) dX2_makeSeconds_10 0 rfl rfl ?_
        obtain ⟨r4, e_r4, h⟩ := bS h
        refine V_gR (pc2 := 14) e_r4 dX2_makeSeconds_11 wF_2_23 ?_
        refine V_iload_n (pc2 := 15) dX2_makeSeconds_14 2 rfl rfl ?_
        obtain ⟨r5, e_r5, h⟩ := bS h
        refine V_ldR (pc2 := 16) e_r5 dX2_makeSeconds_15 rfl ?_
        refine V_iload_n (pc2 := 17) dX2_makeSeconds_16 1 rfl rfl ?_
        obtain ⟨m6, e_m6, h⟩ := bS h
        refine V_pI (pc2 := 20) e_m6 dX2_makeSeconds_17 wP_2_117 rfl rfl ?_
        refine V_iinc (pc2 := 23) (v := y1 + (1 : Int32)) (L2 := [(2, .int (y1 + (1 : Int32))), (0, .ref a0), (1, .int p0)]) dX2_makeSeconds_20 2 rfl (by rfl) ?_ rfl rfl
        refine V_goto (tgt := 2) dX2_makeSeconds_23 ?_
        have ee := inj1 h
        subst ee
        exact V_lv (ih _ _ (loopF_c ho)) [1, 2, 0] rfl
  exact V_lv (key2 _ _ _ hl) [1, 2, 0] rfl
noncomputable def fX3_isNumber (a0 : Nat) (p0 : Int32) (m : Mem) : Option (Bool) :=
  (gI m a0 3 1).bind fun x1 =>
  (fX7_within p0 (0 : Int32) (x1 - (1 : Int32)) m).bind fun b2 =>
  if b2 = true then
    (gR m a0 3 2).bind fun r3 =>
    (ldI m r3 p0).bind fun x4 =>
    if x4 = (-1000000005 : Int32) then
      some false
    else
      some true
  else
    some false
set_option maxRecDepth 20000 in
theorem tX3_isNumber {D : Dat} {a0 : Nat} {p0 : Int32} {m : Mem} {rR : Bool} (h : fX3_isNumber a0 p0 m = some rR) : T D 1 IX3_isNumber [.ref a0, .int p0] m 0 0 (Qi (zb rR) m) := by
  refine T_of_V (by decide) (Nat.le_of_ble_eq_true rfl) ?_
  show V D 1 IX3_isNumber 0 [(0, .ref a0), (1, .int p0)] [] m 0 0 (Qi (zb rR) m)
  unfold fX3_isNumber at h
  refine V_iload_n (pc2 := 1) dX3_isNumber_0 1 rfl rfl ?_
  refine V_iconst (v := 0) (pc2 := 2) dX3_isNumber_1 (by decide) ?_
  refine V_aload_n (pc2 := 3) dX3_isNumber_2 0 rfl rfl ?_
  obtain ⟨x1, e_x1, h⟩ := bS h
  refine V_gI (pc2 := 6) e_x1 dX3_isNumber_3 wF_3_19 ?_
  refine V_iconst (v := 1) (pc2 := 7) dX3_isNumber_6 (by decide) ?_
  refine V_isub (pc2 := 8) dX3_isNumber_7 ?_
  obtain ⟨b2, e_b2, h⟩ := bS h
  refine V_cNi (pc2 := 11) [.int p0, .int (0 : Int32), .int (x1 - (1 : Int32))] (st := []) (tX7_within e_b2) dX3_isNumber_8 wN_3_34 (by decide) rfl (Nat.le_of_ble_eq_true rfl) ?_
  refine V_ifb_eq (pc2 := 14) (tgt := 29) dX3_isNumber_11 (fun c11 => ?_) (fun c11 => ?_)
  · replace h := iF c11 h
    refine V_iconst (v := 0) (pc2 := 30) dX3_isNumber_29 (by decide) ?_
    have e1 := inj1 h
    subst e1
    exact V_bret (b := false) dX3_isNumber_30 rfl ⟨rfl, rfl⟩
  · replace h := iT c11 h
    refine V_aload_n (pc2 := 15) dX3_isNumber_14 0 rfl rfl ?_
    obtain ⟨r3, e_r3, h⟩ := bS h
    refine V_gR (pc2 := 18) e_r3 dX3_isNumber_15 wF_3_15 ?_
    refine V_iload_n (pc2 := 19) dX3_isNumber_18 1 rfl rfl ?_
    obtain ⟨x4, e_x4, h⟩ := bS h
    refine V_ldI (pc2 := 20) e_x4 dX3_isNumber_19 ?_
    refine V_ldc (v := -1000000005) (pc2 := 22) dX3_isNumber_20 wconstant_3_38 ?_
    refine V_icmp_eq (pc2 := 25) (tgt := 29) dX3_isNumber_22 (fun c22 => ?_) (fun c22 => ?_)
    · replace h := iT c22 h
      refine V_iconst (v := 0) (pc2 := 30) dX3_isNumber_29 (by decide) ?_
      have e1 := inj1 h
      subst e1
      exact V_bret (b := false) dX3_isNumber_30 rfl ⟨rfl, rfl⟩
    · replace h := iF c22 h
      refine V_iconst (v := 1) (pc2 := 26) dX3_isNumber_25 (by decide) ?_
      refine V_goto (tgt := 30) dX3_isNumber_26 ?_
      have e1 := inj1 h
      subst e1
      exact V_bret (b := true) dX3_isNumber_30 rfl ⟨rfl, rfl⟩
noncomputable def fX7_wrongPlaces_b0 (a0 : Nat) (p0 : Nat) : Int32 × Int32 × Mem → Option ((Int32 × Int32 × Mem) ⊕ (Int32 × Mem)) := fun (y6, y7, m8) =>
  (gI m8 p0 3 1).bind fun x9 =>
  if x9 ≤ y7 then
    some (.inr (y6, m8))
  else
    (gR m8 a0 7 1).bind fun r10 =>
    (cV m8 r10 2 (fX2_takeTurn r10 m8)).bind fun (x11, m12) =>
    (cV m12 p0 3 (fX3_isNumber p0 y7 m12)).bind fun b13 =>
    (
      if b13 = true then
        (gR m12 p0 3 2).bind fun r14 =>
        (ldI m12 r14 y7).bind fun x15 =>
        if x15 = x11 then
          some y6
        else
          some (y6 + (1 : Int32))
      else
        some y6).bind fun y16 =>
    some (.inl (y16, y7 + (1 : Int32), m12))
noncomputable def fX7_wrongPlaces (a0 : Nat) (p0 : Nat) (p1 : Int32) (m : Mem) : Option (Int32 × Mem) :=
  (gR m a0 7 1).bind fun r1 =>
  (gR m a0 7 0).bind fun r2 =>
  (cV m r1 2 (fX2_become r1 r2 m)).bind fun m3 =>
  (gR m3 a0 7 1).bind fun r4 =>
  (cV m3 r4 2 (fX2_makeSeconds r4 p1 m3)).bind fun m5 =>
  (loopF (fX7_wrongPlaces_b0 a0 p0) bigN ((0 : Int32), (0 : Int32), m5)).bind fun (y17, m18) =>
  some (y17, m18)
set_option maxRecDepth 20000 in
theorem tX7_wrongPlaces {D : Dat} {a0 : Nat} {p0 : Nat} {p1 : Int32} {m : Mem} {rR : Int32} {mR : Mem} (h : fX7_wrongPlaces a0 p0 p1 m = some (rR, mR)) : T D 5 IX7_wrongPlaces [.ref a0, .ref p0, .int p1] m 0 0 (Qi rR mR) := by
  refine T_of_V (by decide) (Nat.le_of_ble_eq_true rfl) ?_
  show V D 5 IX7_wrongPlaces 0 [(0, .ref a0), (1, .ref p0), (2, .int p1)] [] m 0 0 (Qi rR mR)
  unfold fX7_wrongPlaces at h
  refine V_aload_n (pc2 := 1) dX7_wrongPlaces_0 0 rfl rfl ?_
  obtain ⟨r1, e_r1, h⟩ := bS h
  refine V_gR (pc2 := 4) e_r1 dX7_wrongPlaces_1 wF_7_16 ?_
  refine V_aload_n (pc2 := 5) dX7_wrongPlaces_4 0 rfl rfl ?_
  obtain ⟨r2, e_r2, h⟩ := bS h
  refine V_gR (pc2 := 8) e_r2 dX7_wrongPlaces_5 wF_7_10 ?_
  obtain ⟨m3, e_m3, h⟩ := bS h
  obtain ⟨⟨fs_m3, o_m3⟩, e_m3⟩ := cV_of e_m3
  refine V_cVv (pc2 := 11) [.ref r2] (st := []) o_m3 (tX2_become e_m3) dX7_wrongPlaces_8 wV_7_180 (by decide) rfl (Nat.le_of_ble_eq_true rfl) ?_
  refine V_aload_n (pc2 := 12) dX7_wrongPlaces_11 0 rfl rfl ?_
  obtain ⟨r4, e_r4, h⟩ := bS h
  refine V_gR (pc2 := 15) e_r4 dX7_wrongPlaces_12 wF_7_16 ?_
  refine V_iload_n (pc2 := 16) dX7_wrongPlaces_15 2 rfl rfl ?_
  obtain ⟨m5, e_m5, h⟩ := bS h
  obtain ⟨⟨fs_m5, o_m5⟩, e_m5⟩ := cV_of e_m5
  refine V_cVv (pc2 := 19) [.int p1] (st := []) o_m5 (tX2_makeSeconds e_m5) dX7_wrongPlaces_16 wV_7_217 (by decide) rfl (Nat.le_of_ble_eq_true rfl) ?_
  refine V_iconst (v := 0) (pc2 := 20) dX7_wrongPlaces_19 (by decide) ?_
  refine V_istore_n (pc2 := 21) (L2 := [(3, .int (0 : Int32)), (0, .ref a0), (1, .ref p0), (2, .int p1)]) dX7_wrongPlaces_20 ?_ rfl rfl rfl
  refine V_iconst (v := 0) (pc2 := 22) dX7_wrongPlaces_21 (by decide) ?_
  refine V_istore (pc2 := 24) (L2 := [(4, .int (0 : Int32)), (3, .int (0 : Int32)), (0, .ref a0), (1, .ref p0), (2, .int p1)]) dX7_wrongPlaces_22 ?_ rfl rfl
  obtain ⟨⟨y17, m18⟩, hl, h⟩ := bS h
  try dsimp only at h
  have hJ72 : V D 5 IX7_wrongPlaces 72 [(3, .int y17)] [] m18 0 0 (Qi rR mR) := by
    refine V_iload_n (pc2 := 73) dX7_wrongPlaces_72 0 rfl rfl ?_
    obtain ⟨e1, e2⟩ := inj2 h
    subst e1
    subst e2
    exact V_iret dX7_wrongPlaces_73 rfl ⟨rfl, rfl⟩
  clear h
  have key24 : ∀ (n : Nat) (y6 : Int32) (y7 : Int32) (m8 : Mem), loopF (fX7_wrongPlaces_b0 a0 p0) n (y6, y7, m8) = some (y17, m18) → V D 5 IX7_wrongPlaces 24 [(0, .ref a0), (1, .ref p0), (3, .int y6), (4, .int y7)] [] m8 0 0 (Qi rR mR) := by
    intro n
    induction n with
    | zero => intro y6 y7 m8 h; cases h
    | succ n ih =>
      intro y6 y7 m8 h
      obtain ⟨o, h, ho⟩ := loopF_inv h
      dsimp only [fX7_wrongPlaces_b0] at h
      refine V_iload (pc2 := 26) dX7_wrongPlaces_24 3 rfl ?_
      refine V_aload_n (pc2 := 27) dX7_wrongPlaces_26 1 rfl rfl ?_
      obtain ⟨x9, e_x9, h⟩ := bS h
      refine V_gI (pc2 := 30) e_x9 dX7_wrongPlaces_27 wF_7_221 ?_
      refine V_icmp_ge (pc2 := 33) (tgt := 72) dX7_wrongPlaces_30 (fun c30 => ?_) (fun c30 => ?_)
      · replace h := iT c30 h
        have ee := inj1 h
        subst ee
        obtain ⟨e1, e2⟩ := pinj2 (loopF_e ho)
        subst e1
        subst e2
        exact V_lv hJ72 [2] rfl
      · replace h := iF c30 h
        refine V_aload_n (pc2 := 34) dX7_wrongPlaces_33 0 rfl rfl ?_
        obtain ⟨r10, e_r10, h⟩ := bS h
        refine V_gR (pc2 := 37) e_r10 dX7_wrongPlaces_34 wF_7_16 ?_
        obtain ⟨⟨x11, m12⟩, e_x11, h⟩ := bS h
        try dsimp only at h
        obtain ⟨⟨fs_x11, o_x11⟩, e_x11⟩ := cV_of e_x11
        refine V_cVi (pc2 := 40) [] (st := []) o_x11 (tX2_takeTurn e_x11) dX7_wrongPlaces_37 wV_7_166 (by decide) rfl (Nat.le_of_ble_eq_true rfl) ?_
        refine V_istore (pc2 := 42) (L2 := [(5, .int x11), (0, .ref a0), (1, .ref p0), (3, .int y6), (4, .int y7)]) dX7_wrongPlaces_40 ?_ rfl rfl
        refine V_aload_n (pc2 := 43) dX7_wrongPlaces_42 2 rfl rfl ?_
        refine V_iload (pc2 := 45) dX7_wrongPlaces_43 4 rfl ?_
        obtain ⟨b13, e_b13, h⟩ := bS h
        obtain ⟨⟨fs_b13, o_b13⟩, e_b13⟩ := cV_of e_b13
        refine V_cVi (pc2 := 48) [.int y7] (st := []) o_b13 (tX3_isNumber e_b13) dX7_wrongPlaces_45 wV_7_224 (by decide) rfl (Nat.le_of_ble_eq_true rfl) ?_
        obtain ⟨y16, hb, h⟩ := bS h
        have hJ66 : V D 5 IX7_wrongPlaces 66 [(0, .ref a0), (1, .ref p0), (3, .int y16), (4, .int y7)] [] m12 0 0 (Qi rR mR) := by
          refine V_iinc (pc2 := 69) (v := y7 + (1 : Int32)) (L2 := [(4, .int (y7 + (1 : Int32))), (0, .ref a0), (1, .ref p0), (3, .int y16)]) dX7_wrongPlaces_66 3 rfl (by rfl) ?_ rfl rfl
          refine V_goto (tgt := 24) dX7_wrongPlaces_69 ?_
          have ee := inj1 h
          subst ee
          exact V_lv (ih _ _ _ (loopF_c ho)) [1, 2, 3, 0] rfl
        clear h
        have h := hb
        clear hb
        refine V_ifb_eq (pc2 := 51) (tgt := 66) dX7_wrongPlaces_48 (fun c48 => ?_) (fun c48 => ?_)
        · replace h := iF c48 h
          have e1 := inj1 h
          subst e1
          exact V_lv hJ66 [1, 2, 3, 4] rfl
        · replace h := iT c48 h
          refine V_aload_n (pc2 := 52) dX7_wrongPlaces_51 2 rfl rfl ?_
          obtain ⟨r14, e_r14, h⟩ := bS h
          refine V_gR (pc2 := 55) e_r14 dX7_wrongPlaces_52 wF_7_227 ?_
          refine V_iload (pc2 := 57) dX7_wrongPlaces_55 4 rfl ?_
          obtain ⟨x15, e_x15, h⟩ := bS h
          refine V_ldI (pc2 := 58) e_x15 dX7_wrongPlaces_57 ?_
          refine V_iload (pc2 := 60) dX7_wrongPlaces_58 0 rfl ?_
          refine V_icmp_eq (pc2 := 63) (tgt := 66) dX7_wrongPlaces_60 (fun c60 => ?_) (fun c60 => ?_)
          · replace h := iT c60 h
            have e1 := inj1 h
            subst e1
            exact V_lv hJ66 [1, 2, 3, 4] rfl
          · replace h := iF c60 h
            refine V_iinc (pc2 := 66) (v := y6 + (1 : Int32)) (L2 := [(3, .int (y6 + (1 : Int32))), (5, .int x11), (0, .ref a0), (1, .ref p0), (4, .int y7)]) dX7_wrongPlaces_63 3 rfl (by rfl) ?_ rfl rfl
            have e1 := inj1 h
            subst e1
            exact V_lv hJ66 [2, 3, 0, 4] rfl
  exact V_lv (key24 _ _ _ _ hl) [2, 3, 1, 0] rfl
