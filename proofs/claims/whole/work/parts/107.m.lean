noncomputable def fX8_go_b0 (a0 : Nat) (p0 : Int32) : Int32 × Mem → Option ((Int32 × Mem) ⊕ Mem) := fun (y2, m3) =>
  if p0 ≤ y2 then
    some (.inr m3)
  else
    (gR m3 a0 8 0).bind fun r4 =>
    (ldI m3 r4 (4 : Int32)).bind fun x5 =>
    if (9999 : Int32) ≤ x5 then
      some (.inr m3)
    else
      (cV m3 a0 8 (fX8_turn a0 m3)).bind fun (x6, m7) =>
      some (.inl (y2 + (1 : Int32), m7))
noncomputable def fX8_go (a0 : Nat) (p0 : Int32) (m : Mem) : Option (Int32 × Mem) :=
  (fX8_isIn p0.toInt64 (1 : Int64) (100 : Int64) m).bind fun b1 =>
  if b1 = true then
    (loopF (fX8_go_b0 a0 p0) bigN ((0 : Int32), m)).bind fun m8 =>
    (gR m8 a0 8 0).bind fun r9 =>
    (ldI m8 r9 (6 : Int32)).bind fun x10 =>
    some (x10, m8)
  else
    some ((-1000000001 : Int32), m)
set_option maxRecDepth 20000 in
theorem tX8_go {D : Dat} {a0 : Nat} {p0 : Int32} {m : Mem} {rR : Int32} {mR : Mem} (h : fX8_go a0 p0 m = some (rR, mR)) : T D 7 IX8_go [.ref a0, .int p0] m 0 0 (Qi rR mR) := by
  refine T_of_V (by decide) (Nat.le_of_ble_eq_true rfl) ?_
  show V D 7 IX8_go 0 [(0, .ref a0), (1, .int p0)] [] m 0 0 (Qi rR mR)
  unfold fX8_go at h
  refine V_iload_n (pc2 := 1) dX8_go_0 1 rfl rfl ?_
  refine V_i2l (pc2 := 2) dX8_go_1 rfl ?_
  refine V_lconst (v := 1) (pc2 := 3) dX8_go_2 (by decide) ?_
  refine V_ldc2 (v := 100) (pc2 := 6) dX8_go_3 wconstantLong_8_170 ?_
  obtain ⟨b1, e_b1, h⟩ := bS h
  refine V_cSi (pc2 := 9) [.long p0.toInt64, .long (1 : Int64), .long (100 : Int64)] (st := []) (tX8_isIn e_b1) dX8_go_6 wS_8_65 (by decide) rfl (Nat.le_of_ble_eq_true rfl) ?_
  refine V_ifb_ne (pc2 := 12) (tgt := 15) dX8_go_9 (fun c9 => ?_) (fun c9 => ?_)
  · replace h := iT c9 h
    refine V_iconst (v := 0) (pc2 := 16) dX8_go_15 (by decide) ?_
    refine V_istore_n (pc2 := 17) (L2 := [(2, .int (0 : Int32)), (0, .ref a0), (1, .int p0)]) dX8_go_16 ?_ rfl rfl rfl
    obtain ⟨m8, hl, h⟩ := bS h
    have hJ45 : V D 7 IX8_go 45 [(0, .ref a0)] [] m8 0 0 (Qi rR mR) := by
      refine V_aload_n (pc2 := 46) dX8_go_45 0 rfl rfl ?_
      obtain ⟨r9, e_r9, h⟩ := bS h
      refine V_gR (pc2 := 49) e_r9 dX8_go_46 wF_8_7 ?_
      refine V_bipush (v := 6) (pc2 := 51) dX8_go_49 (by decide) ?_
      obtain ⟨x10, e_x10, h⟩ := bS h
      refine V_ldI (pc2 := 52) e_x10 dX8_go_51 ?_
      obtain ⟨e1, e2⟩ := inj2 h
      subst e1
      subst e2
      exact V_iret dX8_go_52 rfl ⟨rfl, rfl⟩
    clear h
    have key17 : ∀ (n : Nat) (y2 : Int32) (m3 : Mem), loopF (fX8_go_b0 a0 p0) n (y2, m3) = some m8 → V D 7 IX8_go 17 [(0, .ref a0), (1, .int p0), (2, .int y2)] [] m3 0 0 (Qi rR mR) := by
      intro n
      induction n with
      | zero => intro y2 m3 h; cases h
      | succ n ih =>
        intro y2 m3 h
        obtain ⟨o, h, ho⟩ := loopF_inv h
        dsimp only [fX8_go_b0] at h
        refine V_iload_n (pc2 := 18) dX8_go_17 2 rfl rfl ?_
        refine V_iload_n (pc2 := 19) dX8_go_18 1 rfl rfl ?_
        refine V_icmp_ge (pc2 := 22) (tgt := 45) dX8_go_19 (fun c19 => ?_) (fun c19 => ?_)
        · replace h := iT c19 h
          have ee := inj1 h
          subst ee
          have e1 := pinj1 (loopF_e ho)
          subst e1
          exact V_lv hJ45 [0] rfl
        · replace h := iF c19 h
          refine V_aload_n (pc2 := 23) dX8_go_22 0 rfl rfl ?_
          obtain ⟨r4, e_r4, h⟩ := bS h
          refine V_gR (pc2 := 26) e_r4 dX8_go_23 wF_8_7 ?_
          refine V_iconst (v := 4) (pc2 := 27) dX8_go_26 (by decide) ?_
          obtain ⟨x5, e_x5, h⟩ := bS h
          refine V_ldI (pc2 := 28) e_x5 dX8_go_27 ?_
          refine V_sipush (v := 9999) (pc2 := 31) dX8_go_28 (by decide) ?_
          refine V_icmp_ge (pc2 := 34) (tgt := 45) dX8_go_31 (fun c31 => ?_) (fun c31 => ?_)
          · replace h := iT c31 h
            have ee := inj1 h
            subst ee
            have e1 := pinj1 (loopF_e ho)
            subst e1
            exact V_lv hJ45 [0] rfl
          · replace h := iF c31 h
            refine V_aload_n (pc2 := 35) dX8_go_34 0 rfl rfl ?_
            obtain ⟨⟨x6, m7⟩, e_x6, h⟩ := bS h
            try dsimp only at h
            obtain ⟨⟨fs_x6, o_x6⟩, e_x6⟩ := cV_of e_x6
            refine V_cVi (pc2 := 38) [] (st := []) o_x6 (tX8_turn e_x6) dX8_go_35 wV_8_172 (by decide) rfl (Nat.le_of_ble_eq_true rfl) ?_
            refine V_istore_n (pc2 := 39) (L2 := [(3, .int x6), (0, .ref a0), (1, .int p0), (2, .int y2)]) dX8_go_38 ?_ rfl rfl rfl
            refine V_iinc (pc2 := 42) (v := y2 + (1 : Int32)) (L2 := [(2, .int (y2 + (1 : Int32))), (3, .int x6), (0, .ref a0), (1, .int p0)]) dX8_go_39 3 rfl (by rfl) ?_ rfl rfl
            refine V_goto (tgt := 17) dX8_go_42 ?_
            have ee := inj1 h
            subst ee
            exact V_lv (ih _ _ (loopF_c ho)) [2, 3, 0] rfl
    exact V_lv (key17 _ _ _ hl) [1, 2, 0] rfl
  · replace h := iF c9 h
    refine V_ldc (v := -1000000001) (pc2 := 14) dX8_go_12 wconstant_8_72 ?_
    obtain ⟨e1, e2⟩ := inj2 h
    subst e1
    subst e2
    exact V_iret dX8_go_14 rfl ⟨rfl, rfl⟩
noncomputable def fX8_odds_b0 (a0 : Nat) (p0 : Int32) (x3 : Int32) : Int32 × Int32 × Mem → Option ((Int32 × Int32 × Mem) ⊕ (Int32 × Mem)) := fun (y4, y5, m6) =>
  if (10 : Int32) ≤ y5 then
    some (.inr (y4, m6))
  else
    (cV m6 a0 8 (fX8_isLot a0 x3 m6)).bind fun b7 =>
    (
      if b7 = true then
        some y5
      else
        some (0 : Int32)).bind fun y8 =>
    (cV m6 a0 8 (fX8_goesTo a0 x3 y8 m6)).bind fun (x9, m10) =>
    (
      if x9 = p0 then
        some (1 : Int32)
      else
        some (0 : Int32)).bind fun y11 =>
    some (.inl (y4 + y11, y5 + (1 : Int32), m10))
noncomputable def fX8_odds (a0 : Nat) (p0 : Int32) (m : Mem) : Option (Int32 × Mem) :=
  (cV m a0 8 (fX8_isChild a0 p0 m)).bind fun b1 =>
  if b1 = true then
    (cV m a0 8 (fX8_goes a0 m)).bind fun b2 =>
    if b2 = true then
      (cV m a0 8 (fX8_stopNow a0 m)).bind fun x3 =>
      (loopF (fX8_odds_b0 a0 p0 x3) bigN ((0 : Int32), (0 : Int32), m)).bind fun (y12, m13) =>
      some (y12, m13)
    else
      some ((-1000000002 : Int32), m)
  else
    some ((-1000000001 : Int32), m)
set_option maxRecDepth 20000 in
theorem tX8_odds {D : Dat} {a0 : Nat} {p0 : Int32} {m : Mem} {rR : Int32} {mR : Mem} (h : fX8_odds a0 p0 m = some (rR, mR)) : T D 6 IX8_odds [.ref a0, .int p0] m 0 0 (Qi rR mR) := by
  refine T_of_V (by decide) (Nat.le_of_ble_eq_true rfl) ?_
  show V D 6 IX8_odds 0 [(0, .ref a0), (1, .int p0)] [] m 0 0 (Qi rR mR)
  unfold fX8_odds at h
  refine V_aload_n (pc2 := 1) dX8_odds_0 0 rfl rfl ?_
  refine V_iload_n (pc2 := 2) dX8_odds_1 1 rfl rfl ?_
  obtain ⟨b1, e_b1, h⟩ := bS h
  obtain ⟨⟨fs_b1, o_b1⟩, e_b1⟩ := cV_of e_b1
  refine V_cVi (pc2 := 5) [.int p0] (st := []) o_b1 (tX8_isChild e_b1) dX8_odds_2 wV_8_95 (by decide) rfl (Nat.le_of_ble_eq_true rfl) ?_
  refine V_ifb_ne (pc2 := 8) (tgt := 11) dX8_odds_5 (fun c5 => ?_) (fun c5 => ?_)
  · replace h := iT c5 h
    refine V_aload_n (pc2 := 12) dX8_odds_11 0 rfl rfl ?_
    obtain ⟨b2, e_b2, h⟩ := bS h
    obtain ⟨⟨fs_b2, o_b2⟩, e_b2⟩ := cV_of e_b2
    refine V_cVi (pc2 := 15) [] (st := []) o_b2 (tX8_goes e_b2) dX8_odds_12 wV_8_160 (by decide) rfl (Nat.le_of_ble_eq_true rfl) ?_
    refine V_ifb_ne (pc2 := 18) (tgt := 21) dX8_odds_15 (fun c15 => ?_) (fun c15 => ?_)
    · replace h := iT c15 h
      refine V_aload_n (pc2 := 22) dX8_odds_21 0 rfl rfl ?_
      obtain ⟨x3, e_x3, h⟩ := bS h
      obtain ⟨⟨fs_x3, o_x3⟩, e_x3⟩ := cV_of e_x3
      refine V_cVi (pc2 := 25) [] (st := []) o_x3 (tX8_stopNow e_x3) dX8_odds_22 wV_8_164 (by decide) rfl (Nat.le_of_ble_eq_true rfl) ?_
      refine V_istore_n (pc2 := 26) (L2 := [(2, .int x3), (0, .ref a0), (1, .int p0)]) dX8_odds_25 ?_ rfl rfl rfl
      refine V_iconst (v := 0) (pc2 := 27) dX8_odds_26 (by decide) ?_
      refine V_istore_n (pc2 := 28) (L2 := [(3, .int (0 : Int32)), (2, .int x3), (0, .ref a0), (1, .int p0)]) dX8_odds_27 ?_ rfl rfl rfl
      refine V_iconst (v := 0) (pc2 := 29) dX8_odds_28 (by decide) ?_
      refine V_istore (pc2 := 31) (L2 := [(4, .int (0 : Int32)), (3, .int (0 : Int32)), (2, .int x3), (0, .ref a0), (1, .int p0)]) dX8_odds_29 ?_ rfl rfl
      obtain ⟨⟨y12, m13⟩, hl, h⟩ := bS h
      try dsimp only at h
      have hJ75 : V D 6 IX8_odds 75 [(3, .int y12)] [] m13 0 0 (Qi rR mR) := by
        refine V_iload_n (pc2 := 76) dX8_odds_75 0 rfl rfl ?_
        obtain ⟨e1, e2⟩ := inj2 h
        subst e1
        subst e2
        exact V_iret dX8_odds_76 rfl ⟨rfl, rfl⟩
      clear h
      have key31 : ∀ (n : Nat) (y4 : Int32) (y5 : Int32) (m6 : Mem), loopF (fX8_odds_b0 a0 p0 x3) n (y4, y5, m6) = some (y12, m13) → V D 6 IX8_odds 31 [(0, .ref a0), (1, .int p0), (2, .int x3), (3, .int y4), (4, .int y5)] [] m6 0 0 (Qi rR mR) := by
        intro n
        induction n with
        | zero => intro y4 y5 m6 h; cases h
        | succ n ih =>
          intro y4 y5 m6 h
          obtain ⟨o, h, ho⟩ := loopF_inv h
          dsimp only [fX8_odds_b0] at h
          refine V_iload (pc2 := 33) dX8_odds_31 4 rfl ?_
          refine V_bipush (v := 10) (pc2 := 35) dX8_odds_33 (by decide) ?_
          refine V_icmp_ge (pc2 := 38) (tgt := 75) dX8_odds_35 (fun c35 => ?_) (fun c35 => ?_)
          · replace h := iT c35 h
            have ee := inj1 h
            subst ee
            obtain ⟨e1, e2⟩ := pinj2 (loopF_e ho)
            subst e1
            subst e2
            exact V_lv hJ75 [3] rfl
          · replace h := iF c35 h
            refine V_iload_n (pc2 := 39) dX8_odds_38 3 rfl rfl ?_
            refine V_aload_n (pc2 := 40) dX8_odds_39 0 rfl rfl ?_
            refine V_iload_n (pc2 := 41) dX8_odds_40 2 rfl rfl ?_
            refine V_aload_n (pc2 := 42) dX8_odds_41 0 rfl rfl ?_
            refine V_iload_n (pc2 := 43) dX8_odds_42 2 rfl rfl ?_
            obtain ⟨b7, e_b7, h⟩ := bS h
            obtain ⟨⟨fs_b7, o_b7⟩, e_b7⟩ := cV_of e_b7
            refine V_cVi (pc2 := 46) [.int x3] (st := [.int x3, .ref a0, .int y4]) o_b7 (tX8_isLot e_b7) dX8_odds_43 wV_8_124 (by decide) rfl (Nat.le_of_ble_eq_true rfl) ?_
            obtain ⟨y8, hb, h⟩ := bS h
            have hJ55 : V D 6 IX8_odds 55 [(0, .ref a0), (1, .int p0), (2, .int x3), (4, .int y5)] [.int y8, .int x3, .ref a0, .int y4] m6 0 0 (Qi rR mR) := by
              obtain ⟨⟨x9, m10⟩, e_x9, h⟩ := bS h
              try dsimp only at h
              obtain ⟨⟨fs_x9, o_x9⟩, e_x9⟩ := cV_of e_x9
              refine V_cVi (pc2 := 58) [.int x3, .int y8] (st := [.int y4]) o_x9 (tX8_goesTo e_x9) dX8_odds_55 wV_8_167 (by decide) rfl (Nat.le_of_ble_eq_true rfl) ?_
              refine V_iload_n (pc2 := 59) dX8_odds_58 1 rfl rfl ?_
              obtain ⟨y11, hb, h⟩ := bS h
              have hJ67 : V D 6 IX8_odds 67 [(0, .ref a0), (1, .int p0), (2, .int x3), (4, .int y5)] [.int y11, .int y4] m10 0 0 (Qi rR mR) := by
                refine V_iadd (pc2 := 68) dX8_odds_67 ?_
                refine V_istore_n (pc2 := 69) (L2 := [(3, .int (y4 + y11)), (0, .ref a0), (1, .int p0), (2, .int x3), (4, .int y5)]) dX8_odds_68 ?_ rfl rfl rfl
                refine V_iinc (pc2 := 72) (v := y5 + (1 : Int32)) (L2 := [(4, .int (y5 + (1 : Int32))), (3, .int (y4 + y11)), (0, .ref a0), (1, .int p0), (2, .int x3)]) dX8_odds_69 4 rfl (by rfl) ?_ rfl rfl
                refine V_goto (tgt := 31) dX8_odds_72 ?_
                have ee := inj1 h
                subst ee
                exact V_lv (ih _ _ _ (loopF_c ho)) [2, 3, 4, 1, 0] rfl
              clear h
              have h := hb
              clear hb
              refine V_icmp_ne (pc2 := 62) (tgt := 66) dX8_odds_59 (fun c59 => ?_) (fun c59 => ?_)
              · replace h := iF c59 h
                refine V_iconst (v := 0) (pc2 := 67) dX8_odds_66 (by decide) ?_
                have e1 := inj1 h
                subst e1
                exact hJ67
              · replace h := iT c59 h
                refine V_iconst (v := 1) (pc2 := 63) dX8_odds_62 (by decide) ?_
                refine V_goto (tgt := 67) dX8_odds_63 ?_
                have e1 := inj1 h
                subst e1
                exact hJ67
            clear h
            have h := hb
            clear hb
            refine V_ifb_eq (pc2 := 49) (tgt := 54) dX8_odds_46 (fun c46 => ?_) (fun c46 => ?_)
            · replace h := iF c46 h
              refine V_iconst (v := 0) (pc2 := 55) dX8_odds_54 (by decide) ?_
              have e1 := inj1 h
              subst e1
              exact V_lv hJ55 [0, 1, 2, 4] rfl
            · replace h := iT c46 h
              refine V_iload (pc2 := 51) dX8_odds_49 4 rfl ?_
              refine V_goto (tgt := 55) dX8_odds_51 ?_
              have e1 := inj1 h
              subst e1
              exact V_lv hJ55 [0, 1, 2, 4] rfl
      exact V_lv (key31 _ _ _ _ hl) [3, 4, 2, 1, 0] rfl
    · replace h := iF c15 h
      refine V_ldc (v := -1000000002) (pc2 := 20) dX8_odds_18 wconstant_8_175 ?_
      obtain ⟨e1, e2⟩ := inj2 h
      subst e1
      subst e2
      exact V_iret dX8_odds_20 rfl ⟨rfl, rfl⟩
  · replace h := iF c5 h
    refine V_ldc (v := -1000000001) (pc2 := 10) dX8_odds_8 wconstant_8_72 ?_
    obtain ⟨e1, e2⟩ := inj2 h
    subst e1
    subst e2
    exact V_iret dX8_odds_10 rfl ⟨rfl, rfl⟩
noncomputable def fX8_goesMany_b0 (a0 : Nat) (p0 : Int32) : Int32 × Int32 × Mem → Option ((Int32 × Int32 × Mem) ⊕ (Int32 × Mem)) := fun (y1, y2, m3) =>
  if p0 ≤ y2 then
    some (.inr (y1, m3))
  else
    (cV m3 a0 8 (fX8_turn a0 m3)).bind fun (x4, m5) =>
    some (.inl (x4, y2 + (1 : Int32), m5))
noncomputable def fX8_goesMany (a0 : Nat) (p0 : Int32) (m : Mem) : Option (Int32 × Mem) :=
  (loopF (fX8_goesMany_b0 a0 p0) bigN ((-1 : Int32), (0 : Int32), m)).bind fun (y6, m7) =>
  some (y6, m7)
set_option maxRecDepth 20000 in
theorem tX8_goesMany {D : Dat} {a0 : Nat} {p0 : Int32} {m : Mem} {rR : Int32} {mR : Mem} (h : fX8_goesMany a0 p0 m = some (rR, mR)) : T D 7 IX8_goesMany [.ref a0, .int p0] m 0 0 (Qi rR mR) := by
  refine T_of_V (by decide) (Nat.le_of_ble_eq_true rfl) ?_
  show V D 7 IX8_goesMany 0 [(0, .ref a0), (1, .int p0)] [] m 0 0 (Qi rR mR)
  unfold fX8_goesMany at h
  refine V_iconst (v := -1) (pc2 := 1) dX8_goesMany_0 (by decide) ?_
  refine V_istore_n (pc2 := 2) (L2 := [(2, .int (-1 : Int32)), (0, .ref a0), (1, .int p0)]) dX8_goesMany_1 ?_ rfl rfl rfl
  refine V_iconst (v := 0) (pc2 := 3) dX8_goesMany_2 (by decide) ?_
  refine V_istore_n (pc2 := 4) (L2 := [(3, .int (0 : Int32)), (2, .int (-1 : Int32)), (0, .ref a0), (1, .int p0)]) dX8_goesMany_3 ?_ rfl rfl rfl
  obtain ⟨⟨y6, m7⟩, hl, h⟩ := bS h
  try dsimp only at h
  have hJ20 : V D 7 IX8_goesMany 20 [(2, .int y6)] [] m7 0 0 (Qi rR mR) := by
    refine V_iload_n (pc2 := 21) dX8_goesMany_20 0 rfl rfl ?_
    obtain ⟨e1, e2⟩ := inj2 h
    subst e1
    subst e2
    exact V_iret dX8_goesMany_21 rfl ⟨rfl, rfl⟩
  clear h
  have key4 : ∀ (n : Nat) (y1 : Int32) (y2 : Int32) (m3 : Mem), loopF (fX8_goesMany_b0 a0 p0) n (y1, y2, m3) = some (y6, m7) → V D 7 IX8_goesMany 4 [(0, .ref a0), (1, .int p0), (2, .int y1), (3, .int y2)] [] m3 0 0 (Qi rR mR) := by
    intro n
    induction n with
    | zero => intro y1 y2 m3 h; cases h
    | succ n ih =>
      intro y1 y2 m3 h
      obtain ⟨o, h, ho⟩ := loopF_inv h
      dsimp only [fX8_goesMany_b0] at h
      refine V_iload_n (pc2 := 5) dX8_goesMany_4 3 rfl rfl ?_
      refine V_iload_n (pc2 := 6) dX8_goesMany_5 1 rfl rfl ?_
      refine V_icmp_ge (pc2 := 9) (tgt := 20) dX8_goesMany_6 (fun c6 => ?_) (fun c6 => ?_)
      · replace h := iT c6 h
        have ee := inj1 h
        subst ee
        obtain ⟨e1, e2⟩ := pinj2 (loopF_e ho)
        subst e1
        subst e2
        exact V_lv hJ20 [2] rfl
      · replace h := iF c6 h
        refine V_aload_n (pc2 := 10) dX8_goesMany_9 0 rfl rfl ?_
        obtain ⟨⟨x4, m5⟩, e_x4, h⟩ := bS h
        try dsimp only at h
        obtain ⟨⟨fs_x4, o_x4⟩, e_x4⟩ := cV_of e_x4
        refine V_cVi (pc2 := 13) [] (st := []) o_x4 (tX8_turn e_x4) dX8_goesMany_10 wV_8_172 (by decide) rfl (Nat.le_of_ble_eq_true rfl) ?_
        refine V_istore_n (pc2 := 14) (L2 := [(2, .int x4), (0, .ref a0), (1, .int p0), (3, .int y2)]) dX8_goesMany_13 ?_ rfl rfl rfl
        refine V_iinc (pc2 := 17) (v := y2 + (1 : Int32)) (L2 := [(3, .int (y2 + (1 : Int32))), (2, .int x4), (0, .ref a0), (1, .int p0)]) dX8_goesMany_14 3 rfl (by rfl) ?_ rfl rfl
        refine V_goto (tgt := 4) dX8_goesMany_17 ?_
        have ee := inj1 h
        subst ee
        exact V_lv (ih _ _ _ (loopF_c ho)) [2, 3, 1, 0] rfl
  exact V_lv (key4 _ _ _ _ hl) [2, 3, 1, 0] rfl
noncomputable def fX8_laysBack_b0 (a0 : Nat) : Int32 × Mem → Option ((Int32 × Mem) ⊕ Mem) := fun (y1, m2) =>
  if (92 : Int32) ≤ y1 then
    some (.inr m2)
  else
    (gR m2 a0 8 0).bind fun r3 =>
    (gR m2 a0 8 12).bind fun r4 =>
    (ldI m2 r4 y1).bind fun x5 =>
    (stI m2 r3 y1 x5).bind fun m6 =>
    some (.inl (y1 + (1 : Int32), m6))
noncomputable def fX8_laysBack (a0 : Nat) (m : Mem) : Option (Mem) :=
  (loopF (fX8_laysBack_b0 a0) bigN ((0 : Int32), m)).bind fun m7 =>
  some m7
set_option maxRecDepth 20000 in
theorem tX8_laysBack {D : Dat} {a0 : Nat} {m : Mem} {mR : Mem} (h : fX8_laysBack a0 m = some mR) : T D 0 IX8_laysBack [.ref a0] m 0 0 (Qv mR) := by
  refine T_of_V (by decide) (Nat.le_of_ble_eq_true rfl) ?_
  show V D 0 IX8_laysBack 0 [(0, .ref a0)] [] m 0 0 (Qv mR)
  unfold fX8_laysBack at h
  refine V_iconst (v := 0) (pc2 := 1) dX8_laysBack_0 (by decide) ?_
  refine V_istore_n (pc2 := 2) (L2 := [(1, .int (0 : Int32)), (0, .ref a0)]) dX8_laysBack_1 ?_ rfl rfl rfl
  obtain ⟨m7, hl, h⟩ := bS h
  have hJ26 : V D 0 IX8_laysBack 26 [] [] m7 0 0 (Qv mR) := by
    have e1 := inj1 h
    subst e1
    exact V_vret dX8_laysBack_26 rfl ⟨rfl, rfl⟩
  clear h
  have key2 : ∀ (n : Nat) (y1 : Int32) (m2 : Mem), loopF (fX8_laysBack_b0 a0) n (y1, m2) = some m7 → V D 0 IX8_laysBack 2 [(0, .ref a0), (1, .int y1)] [] m2 0 0 (Qv mR) := by
    intro n
    induction n with
    | zero => intro y1 m2 h; cases h
    | succ n ih =>
      intro y1 m2 h
      obtain ⟨o, h, ho⟩ := loopF_inv h
      dsimp only [fX8_laysBack_b0] at h
      refine V_iload_n (pc2 := 3) dX8_laysBack_2 1 rfl rfl ?_
      refine V_bipush (v := 92) (pc2 := 5) dX8_laysBack_3 (by decide) ?_
      refine V_icmp_ge (pc2 := 8) (tgt := 26) dX8_laysBack_5 (fun c5 => ?_) (fun c5 => ?_)
      · replace h := iT c5 h
        have ee := inj1 h
        subst ee
        have e1 := pinj1 (loopF_e ho)
        subst e1
        exact V_lv hJ26 [] rfl
      · replace h := iF c5 h
        refine V_aload_n (pc2 := 9) dX8_laysBack_8 0 rfl rfl ?_
        obtain ⟨r3, e_r3, h⟩ := bS h
        refine V_gR (pc2 := 12) e_r3 dX8_laysBack_9 wF_8_7 ?_
        refine V_iload_n (pc2 := 13) dX8_laysBack_12 1 rfl rfl ?_
        refine V_aload_n (pc2 := 14) dX8_laysBack_13 0 rfl rfl ?_
        obtain ⟨r4, e_r4, h⟩ := bS h
        refine V_gR (pc2 := 17) e_r4 dX8_laysBack_14 wF_8_43 ?_
        refine V_iload_n (pc2 := 18) dX8_laysBack_17 1 rfl rfl ?_
        obtain ⟨x5, e_x5, h⟩ := bS h
        refine V_ldI (pc2 := 19) e_x5 dX8_laysBack_18 ?_
        obtain ⟨m6, e_m6, h⟩ := bS h
        refine V_stI (pc2 := 20) e_m6 dX8_laysBack_19 ?_
        refine V_iinc (pc2 := 23) (v := y1 + (1 : Int32)) (L2 := [(1, .int (y1 + (1 : Int32))), (0, .ref a0)]) dX8_laysBack_20 1 rfl (by rfl) ?_ rfl rfl
        refine V_goto (tgt := 2) dX8_laysBack_23 ?_
        have ee := inj1 h
        subst ee
        exact V_lv (ih _ _ (loopF_c ho)) [1, 0] rfl
  exact V_lv (key2 _ _ _ hl) [1, 0] rfl
noncomputable def fX8_laysBy_b0 (a0 : Nat) : Int32 × Mem → Option ((Int32 × Mem) ⊕ Mem) := fun (y1, m2) =>
  if (92 : Int32) ≤ y1 then
    some (.inr m2)
  else
    (gR m2 a0 8 12).bind fun r3 =>
    (gR m2 a0 8 0).bind fun r4 =>
    (ldI m2 r4 y1).bind fun x5 =>
    (stI m2 r3 y1 x5).bind fun m6 =>
    some (.inl (y1 + (1 : Int32), m6))
noncomputable def fX8_laysBy (a0 : Nat) (m : Mem) : Option (Mem) :=
  (loopF (fX8_laysBy_b0 a0) bigN ((0 : Int32), m)).bind fun m7 =>
  some m7
set_option maxRecDepth 20000 in
theorem tX8_laysBy {D : Dat} {a0 : Nat} {m : Mem} {mR : Mem} (h : fX8_laysBy a0 m = some mR) : T D 0 IX8_laysBy [.ref a0] m 0 0 (Qv mR) := by
  refine T_of_V (by decide) (Nat.le_of_ble_eq_true rfl) ?_
  show V D 0 IX8_laysBy 0 [(0, .ref a0)] [] m 0 0 (Qv mR)
  unfold fX8_laysBy at h
  refine V_iconst (v := 0) (pc2 := 1) dX8_laysBy_0 (by decide) ?_
  refine V_istore_n (pc2 := 2) (L2 := [(1, .int (0 : Int32)), (0, .ref a0)]) dX8_laysBy_1 ?_ rfl rfl rfl
  obtain ⟨m7, hl, h⟩ := bS h
  have hJ26 : V D 0 IX8_laysBy 26 [] [] m7 0 0 (Qv mR) := by
    have e1 := inj1 h
    subst e1
    exact V_vret dX8_laysBy_26 rfl ⟨rfl, rfl⟩
  clear h
  have key2 : ∀ (n : Nat) (y1 : Int32) (m2 : Mem), loopF (fX8_laysBy_b0 a0) n (y1, m2) = some m7 → V D 0 IX8_laysBy 2 [(0, .ref a0), (1, .int y1)] [] m2 0 0 (Qv mR) := by
    intro n
    induction n with
    | zero => intro y1 m2 h; cases h
    | succ n ih =>
      intro y1 m2 h
      obtain ⟨o, h, ho⟩ := loopF_inv h
      dsimp only [fX8_laysBy_b0] at h
      refine V_iload_n (pc2 := 3) dX8_laysBy_2 1 rfl rfl ?_
      refine V_bipush (v := 92) (pc2 := 5) dX8_laysBy_3 (by decide) ?_
      refine V_icmp_ge (pc2 := 8) (tgt := 26) dX8_laysBy_5 (fun c5 => ?_) (fun c5 => ?_)
      · replace h := iT c5 h
        have ee := inj1 h
        subst ee
        have e1 := pinj1 (loopF_e ho)
        subst e1
        exact V_lv hJ26 [] rfl
      · replace h := iF c5 h
        refine V_aload_n (pc2 := 9) dX8_laysBy_8 0 rfl rfl ?_
        obtain ⟨r3, e_r3, h⟩ := bS h
        refine V_gR (pc2 := 12) e_r3 dX8_laysBy_9 wF_8_43 ?_
        refine V_iload_n (pc2 := 13) dX8_laysBy_12 1 rfl rfl ?_
        refine V_aload_n (pc2 := 14) dX8_laysBy_13 0 rfl rfl ?_
        obtain ⟨r4, e_r4, h⟩ := bS h
        refine V_gR (pc2 := 17) e_r4 dX8_laysBy_14 wF_8_7 ?_
        refine V_iload_n (pc2 := 18) dX8_laysBy_17 1 rfl rfl ?_
        obtain ⟨x5, e_x5, h⟩ := bS h
        refine V_ldI (pc2 := 19) e_x5 dX8_laysBy_18 ?_
        obtain ⟨m6, e_m6, h⟩ := bS h
        refine V_stI (pc2 := 20) e_m6 dX8_laysBy_19 ?_
        refine V_iinc (pc2 := 23) (v := y1 + (1 : Int32)) (L2 := [(1, .int (y1 + (1 : Int32))), (0, .ref a0)]) dX8_laysBy_20 1 rfl (by rfl) ?_ rfl rfl
        refine V_goto (tgt := 2) dX8_laysBy_23 ?_
        have ee := inj1 h
        subst ee
        exact V_lv (ih _ _ (loopF_c ho)) [1, 0] rfl
  exact V_lv (key2 _ _ _ hl) [1, 0] rfl
noncomputable def fX8_spread_b0 (a0 : Nat) (m : Mem) : Int32 × Int32 × Int32 → Option ((Int32 × Int32 × Int32) ⊕ (Int32 × Int32)) := fun (y1, y2, y3) =>
  (gR m a0 8 0).bind fun r4 =>
  (ldI m r4 (0 : Int32)).bind fun x5 =>
  if x5 ≤ y3 then
    some (.inr (y1, y2))
  else
    (cV m a0 8 (fX8_own a0 y3 (1 : Int32) m)).bind fun x6 =>
    (
      if y1 ≤ x6 then
        some y1
      else
        (cV m a0 8 (fX8_own a0 y3 (1 : Int32) m)).bind fun x7 =>
        some x7).bind fun y8 =>
    (cV m a0 8 (fX8_own a0 y3 (1 : Int32) m)).bind fun x9 =>
    (
      if x9 ≤ y2 then
        some y2
      else
        (cV m a0 8 (fX8_own a0 y3 (1 : Int32) m)).bind fun x10 =>
        some x10).bind fun y11 =>
    some (.inl (y8, y11, y3 + (1 : Int32)))
noncomputable def fX8_spread (a0 : Nat) (m : Mem) : Option (Int32) :=
  (loopF (fX8_spread_b0 a0 m) bigN ((100 : Int32), (0 : Int32), (0 : Int32))).bind fun (y12, y13) =>
  (gR m a0 8 0).bind fun r14 =>
  (ldI m r14 (0 : Int32)).bind fun x15 =>
  if x15 = 0 then
    some (0 : Int32)
  else
    some (y13 - y12)
set_option maxRecDepth 20000 in
theorem tX8_spread {D : Dat} {a0 : Nat} {m : Mem} {rR : Int32} (h : fX8_spread a0 m = some rR) : T D 1 IX8_spread [.ref a0] m 0 0 (Qi rR m) := by
  refine T_of_V (by decide) (Nat.le_of_ble_eq_true rfl) ?_
  show V D 1 IX8_spread 0 [(0, .ref a0)] [] m 0 0 (Qi rR m)
  unfold fX8_spread at h
  refine V_bipush (v := 100) (pc2 := 2) dX8_spread_0 (by decide) ?_
  refine V_istore_n (pc2 := 3) (L2 := [(1, .int (100 : Int32)), (0, .ref a0)]) dX8_spread_2 ?_ rfl rfl rfl
  refine V_iconst (v := 0) (pc2 := 4) dX8_spread_3 (by decide) ?_
  refine V_istore_n (pc2 := 5) (L2 := [(2, .int (0 : Int32)), (1, .int (100 : Int32)), (0, .ref a0)]) dX8_spread_4 ?_ rfl rfl rfl
  refine V_iconst (v := 0) (pc2 := 6) dX8_spread_5 (by decide) ?_
  refine V_istore_n (pc2 := 7) (L2 := [(3, .int (0 : Int32)), (2, .int (0 : Int32)), (1, .int (100 : Int32)), (0, .ref a0)]) dX8_spread_6 ?_ rfl rfl rfl
  obtain ⟨⟨y12, y13⟩, hl, h⟩ := bS h
  try dsimp only at h
  have hJ65 : V D 1 IX8_spread 65 [(0, .ref a0), (1, .int y12), (2, .int y13)] [] m 0 0 (Qi rR m) := by
    refine V_aload_n (pc2 := 66) dX8_spread_65 0 rfl rfl ?_
    obtain ⟨r14, e_r14, h⟩ := bS h
    refine V_gR (pc2 := 69) e_r14 dX8_spread_66 wF_8_7 ?_
    refine V_iconst (v := 0) (pc2 := 70) dX8_spread_69 (by decide) ?_
    obtain ⟨x15, e_x15, h⟩ := bS h
    refine V_ldI (pc2 := 71) e_x15 dX8_spread_70 ?_
    refine V_if_ne (pc2 := 74) (tgt := 78) dX8_spread_71 (fun c71 => ?_) (fun c71 => ?_)
    · replace h := iF c71 h
      refine V_iload_n (pc2 := 79) dX8_spread_78 2 rfl rfl ?_
      refine V_iload_n (pc2 := 80) dX8_spread_79 1 rfl rfl ?_
      refine V_isub (pc2 := 81) dX8_spread_80 ?_
      have e1 := inj1 h
      subst e1
      exact V_iret dX8_spread_81 rfl ⟨rfl, rfl⟩
    · replace h := iT c71 h
      refine V_iconst (v := 0) (pc2 := 75) dX8_spread_74 (by decide) ?_
      refine V_goto (tgt := 81) dX8_spread_75 ?_
      have e1 := inj1 h
      subst e1
      exact V_iret dX8_spread_81 rfl ⟨rfl, rfl⟩
  clear h
  have key7 : ∀ (n : Nat) (y1 : Int32) (y2 : Int32) (y3 : Int32), loopF (fX8_spread_b0 a0 m) n (y1, y2, y3) = some (y12, y13) → V D 1 IX8_spread 7 [(0, .ref a0), (1, .int y1), (2, .int y2), (3, .int y3)] [] m 0 0 (Qi rR m) := by
    intro n
    induction n with
    | zero => intro y1 y2 y3 h; cases h
    | succ n ih =>
      intro y1 y2 y3 h
      obtain ⟨o, h, ho⟩ := loopF_inv h
      dsimp only [fX8_spread_b0] at h
      refine V_iload_n (pc2 := 8) dX8_spread_7 3 rfl rfl ?_
      refine V_aload_n (pc2 := 9) dX8_spread_8 0 rfl rfl ?_
      obtain ⟨r4, e_r4, h⟩ := bS h
      refine V_gR (pc2 := 12) e_r4 dX8_spread_9 wF_8_7 ?_
      refine V_iconst (v := 0) (pc2 := 13) dX8_spread_12 (by decide) ?_
      obtain ⟨x5, e_x5, h⟩ := bS h
      refine V_ldI (pc2 := 14) e_x5 dX8_spread_13 ?_
      refine V_icmp_ge (pc2 := 17) (tgt := 65) dX8_spread_14 (fun c14 => ?_) (fun c14 => ?_)
      · replace h := iT c14 h
        have ee := inj1 h
        subst ee
        obtain ⟨e1, e2⟩ := pinj2 (loopF_e ho)
        subst e1
        subst e2
        exact V_lv hJ65 [0, 1, 2] rfl
      · replace h := iF c14 h
        refine V_aload_n (pc2 := 18) dX8_spread_17 0 rfl rfl ?_
        refine V_iload_n (pc2 := 19) dX8_spread_18 3 rfl rfl ?_
        refine V_iconst (v := 1) (pc2 := 20) dX8_spread_19 (by decide) ?_
        obtain ⟨x6, e_x6, h⟩ := bS h
        obtain ⟨⟨fs_x6, o_x6⟩, e_x6⟩ := cV_of e_x6
        refine V_cVi (pc2 := 23) [.int y3, .int (1 : Int32)] (st := []) o_x6 (tX8_own e_x6) dX8_spread_20 wV_8_74 (by decide) rfl (Nat.le_of_ble_eq_true rfl) ?_
        refine V_iload_n (pc2 := 24) dX8_spread_23 1 rfl rfl ?_
        obtain ⟨y8, hb, h⟩ := bS h
        have hJ37 : V D 1 IX8_spread 37 [(0, .ref a0), (2, .int y2), (3, .int y3)] [.int y8] m 0 0 (Qi rR m) := by
          refine V_istore_n (pc2 := 38) (L2 := [(1, .int y8), (0, .ref a0), (2, .int y2), (3, .int y3)]) dX8_spread_37 ?_ rfl rfl rfl
          refine V_aload_n (pc2 := 39) dX8_spread_38 1 rfl rfl ?_
          refine V_iload_n (pc2 := 40) dX8_spread_39 3 rfl rfl ?_
          refine V_iconst (v := 1) (pc2 := 41) dX8_spread_40 (by decide) ?_
          obtain ⟨x9, e_x9, h⟩ := bS h
          obtain ⟨⟨fs_x9, o_x9⟩, e_x9⟩ := cV_of e_x9
          refine V_cVi (pc2 := 44) [.int y3, .int (1 : Int32)] (st := []) o_x9 (tX8_own e_x9) dX8_spread_41 wV_8_74 (by decide) rfl (Nat.le_of_ble_eq_true rfl) ?_
          refine V_iload_n (pc2 := 45) dX8_spread_44 2 rfl rfl ?_
          obtain ⟨y11, hb, h⟩ := bS h
          have hJ58 : V D 1 IX8_spread 58 [(0, .ref a0), (1, .int y8), (3, .int y3)] [.int y11] m 0 0 (Qi rR m) := by
            refine V_istore_n (pc2 := 59) (L2 := [(2, .int y11), (0, .ref a0), (1, .int y8), (3, .int y3)]) dX8_spread_58 ?_ rfl rfl rfl
            refine V_iinc (pc2 := 62) (v := y3 + (1 : Int32)) (L2 := [(3, .int (y3 + (1 : Int32))), (2, .int y11), (0, .ref a0), (1, .int y8)]) dX8_spread_59 3 rfl (by rfl) ?_ rfl rfl
            refine V_goto (tgt := 7) dX8_spread_62 ?_
            have ee := inj1 h
            subst ee
            exact V_lv (ih _ _ _ (loopF_c ho)) [2, 3, 1, 0] rfl
          clear h
          have h := hb
          clear hb
          refine V_icmp_le (pc2 := 48) (tgt := 57) dX8_spread_45 (fun c45 => ?_) (fun c45 => ?_)
          · replace h := iT c45 h
            refine V_iload_n (pc2 := 58) dX8_spread_57 2 rfl rfl ?_
            have e1 := inj1 h
            subst e1
            exact V_lv hJ58 [1, 0, 3] rfl
          · replace h := iF c45 h
            refine V_aload_n (pc2 := 49) dX8_spread_48 1 rfl rfl ?_
            refine V_iload_n (pc2 := 50) dX8_spread_49 3 rfl rfl ?_
            refine V_iconst (v := 1) (pc2 := 51) dX8_spread_50 (by decide) ?_
            obtain ⟨x10, e_x10, h⟩ := bS h
            obtain ⟨⟨fs_x10, o_x10⟩, e_x10⟩ := cV_of e_x10
            refine V_cVi (pc2 := 54) [.int y3, .int (1 : Int32)] (st := []) o_x10 (tX8_own e_x10) dX8_spread_51 wV_8_74 (by decide) rfl (Nat.le_of_ble_eq_true rfl) ?_
            refine V_goto (tgt := 58) dX8_spread_54 ?_
            have e1 := inj1 h
            subst e1
            exact V_lv hJ58 [1, 0, 3] rfl
        clear h
        have h := hb
        clear hb
        refine V_icmp_ge (pc2 := 27) (tgt := 36) dX8_spread_24 (fun c24 => ?_) (fun c24 => ?_)
        · replace h := iT c24 h
          refine V_iload_n (pc2 := 37) dX8_spread_36 1 rfl rfl ?_
          have e1 := inj1 h
          subst e1
          exact V_lv hJ37 [0, 2, 3] rfl
        · replace h := iF c24 h
          refine V_aload_n (pc2 := 28) dX8_spread_27 0 rfl rfl ?_
          refine V_iload_n (pc2 := 29) dX8_spread_28 3 rfl rfl ?_
          refine V_iconst (v := 1) (pc2 := 30) dX8_spread_29 (by decide) ?_
          obtain ⟨x7, e_x7, h⟩ := bS h
          obtain ⟨⟨fs_x7, o_x7⟩, e_x7⟩ := cV_of e_x7
          refine V_cVi (pc2 := 33) [.int y3, .int (1 : Int32)] (st := []) o_x7 (tX8_own e_x7) dX8_spread_30 wV_8_74 (by decide) rfl (Nat.le_of_ble_eq_true rfl) ?_
          refine V_goto (tgt := 37) dX8_spread_33 ?_
          have e1 := inj1 h
          subst e1
          exact V_lv hJ37 [0, 2, 3] rfl
  exact V_lv (key7 _ _ _ _ hl) [3, 2, 1, 0] rfl
noncomputable def fX8_without_b0 (a0 : Nat) (m : Mem) : Int32 × Int32 → Option ((Int32 × Int32) ⊕ Int32) := fun (y1, y2) =>
  (gR m a0 8 0).bind fun r3 =>
  (ldI m r3 (0 : Int32)).bind fun x4 =>
  if x4 ≤ y2 then
    some (.inr y1)
  else
    (cV m a0 8 (fX8_own a0 y2 (1 : Int32) m)).bind fun x5 =>
    (
      if x5 = 0 then
        some (1 : Int32)
      else
        some (0 : Int32)).bind fun y6 =>
    some (.inl (y1 + y6, y2 + (1 : Int32)))
noncomputable def fX8_without (a0 : Nat) (m : Mem) : Option (Int32) :=
  (loopF (fX8_without_b0 a0 m) bigN ((0 : Int32), (0 : Int32))).bind fun y7 =>
  some y7
set_option maxRecDepth 20000 in
theorem tX8_without {D : Dat} {a0 : Nat} {m : Mem} {rR : Int32} (h : fX8_without a0 m = some rR) : T D 1 IX8_without [.ref a0] m 0 0 (Qi rR m) := by
  refine T_of_V (by decide) (Nat.le_of_ble_eq_true rfl) ?_
  show V D 1 IX8_without 0 [(0, .ref a0)] [] m 0 0 (Qi rR m)
  unfold fX8_without at h
  refine V_iconst (v := 0) (pc2 := 1) dX8_without_0 (by decide) ?_
  refine V_istore_n (pc2 := 2) (L2 := [(1, .int (0 : Int32)), (0, .ref a0)]) dX8_without_1 ?_ rfl rfl rfl
  refine V_iconst (v := 0) (pc2 := 3) dX8_without_2 (by decide) ?_
  refine V_istore_n (pc2 := 4) (L2 := [(2, .int (0 : Int32)), (1, .int (0 : Int32)), (0, .ref a0)]) dX8_without_3 ?_ rfl rfl rfl
  obtain ⟨y7, hl, h⟩ := bS h
  have hJ37 : V D 1 IX8_without 37 [(1, .int y7)] [] m 0 0 (Qi rR m) := by
    refine V_iload_n (pc2 := 38) dX8_without_37 0 rfl rfl ?_
    have e1 := inj1 h
    subst e1
    exact V_iret dX8_without_38 rfl ⟨rfl, rfl⟩
  clear h
  have key4 : ∀ (n : Nat) (y1 : Int32) (y2 : Int32), loopF (fX8_without_b0 a0 m) n (y1, y2) = some y7 → V D 1 IX8_without 4 [(0, .ref a0), (1, .int y1), (2, .int y2)] [] m 0 0 (Qi rR m) := by
    intro n
    induction n with
    | zero => intro y1 y2 h; cases h
    | succ n ih =>
      intro y1 y2 h
      obtain ⟨o, h, ho⟩ := loopF_inv h
      dsimp only [fX8_without_b0] at h
      refine V_iload_n (pc2 := 5) dX8_without_4 2 rfl rfl ?_
      refine V_aload_n (pc2 := 6) dX8_without_5 0 rfl rfl ?_
      obtain ⟨r3, e_r3, h⟩ := bS h
      refine V_gR (pc2 := 9) e_r3 dX8_without_6 wF_8_7 ?_
      refine V_iconst (v := 0) (pc2 := 10) dX8_without_9 (by decide) ?_
      obtain ⟨x4, e_x4, h⟩ := bS h
      refine V_ldI (pc2 := 11) e_x4 dX8_without_10 ?_
      refine V_icmp_ge (pc2 := 14) (tgt := 37) dX8_without_11 (fun c11 => ?_) (fun c11 => ?_)
      · replace h := iT c11 h
        have ee := inj1 h
        subst ee
        have e1 := pinj1 (loopF_e ho)
        subst e1
        exact V_lv hJ37 [1] rfl
      · replace h := iF c11 h
        refine V_iload_n (pc2 := 15) dX8_without_14 1 rfl rfl ?_
        refine V_aload_n (pc2 := 16) dX8_without_15 0 rfl rfl ?_
        refine V_iload_n (pc2 := 17) dX8_without_16 2 rfl rfl ?_
        refine V_iconst (v := 1) (pc2 := 18) dX8_without_17 (by decide) ?_
        obtain ⟨x5, e_x5, h⟩ := bS h
        obtain ⟨⟨fs_x5, o_x5⟩, e_x5⟩ := cV_of e_x5
        refine V_cVi (pc2 := 21) [.int y2, .int (1 : Int32)] (st := [.int y1]) o_x5 (tX8_own e_x5) dX8_without_18 wV_8_74 (by decide) rfl (Nat.le_of_ble_eq_true rfl) ?_
        obtain ⟨y6, hb, h⟩ := bS h
        have hJ29 : V D 1 IX8_without 29 [(0, .ref a0), (2, .int y2)] [.int y6, .int y1] m 0 0 (Qi rR m) := by
          refine V_iadd (pc2 := 30) dX8_without_29 ?_
          refine V_istore_n (pc2 := 31) (L2 := [(1, .int (y1 + y6)), (0, .ref a0), (2, .int y2)]) dX8_without_30 ?_ rfl rfl rfl
          refine V_iinc (pc2 := 34) (v := y2 + (1 : Int32)) (L2 := [(2, .int (y2 + (1 : Int32))), (1, .int (y1 + y6)), (0, .ref a0)]) dX8_without_31 2 rfl (by rfl) ?_ rfl rfl
          refine V_goto (tgt := 4) dX8_without_34 ?_
          have ee := inj1 h
          subst ee
          exact V_lv (ih _ _ (loopF_c ho)) [2, 1, 0] rfl
        clear h
        have h := hb
        clear hb
        refine V_if_ne (pc2 := 24) (tgt := 28) dX8_without_21 (fun c21 => ?_) (fun c21 => ?_)
        · replace h := iF c21 h
          refine V_iconst (v := 0) (pc2 := 29) dX8_without_28 (by decide) ?_
          have e1 := inj1 h
          subst e1
          exact V_lv hJ29 [0, 2] rfl
        · replace h := iT c21 h
          refine V_iconst (v := 1) (pc2 := 25) dX8_without_24 (by decide) ?_
          refine V_goto (tgt := 29) dX8_without_25 ?_
          have e1 := inj1 h
          subst e1
          exact V_lv hJ29 [0, 2] rfl
  exact V_lv (key4 _ _ _ hl) [2, 1, 0] rfl
noncomputable def fX8_behind (a0 : Nat) (p0 : Int32) (p1 : Int32) (m : Mem) : Option (Int32 × Mem) :=
  (fX8_isIn p0.toInt64 (0 : Int64) (100 : Int64) m).bind fun b1 =>
  if b1 = true then
    (fX8_isIn p1.toInt64 (0 : Int64) (5 : Int64) m).bind fun b2 =>
    if b2 = true then
      (cV m a0 8 (fX8_laysBy a0 m)).bind fun m3 =>
      (cV m3 a0 8 (fX8_goesMany a0 p0 m3)).bind fun (x4, m5) =>
      (
        if p1 = (0 : Int32) then
          (gR m5 a0 8 0).bind fun r6 =>
          (ldI m5 r6 (6 : Int32)).bind fun x7 =>
          some x7
        else if p1 = (1 : Int32) then
          (cV m5 a0 8 (fX8_spread a0 m5)).bind fun x8 =>
          some x8
        else if p1 = (2 : Int32) then
          (cV m5 a0 8 (fX8_without a0 m5)).bind fun x9 =>
          some x9
        else if p1 = (3 : Int32) then
          (gR m5 a0 8 0).bind fun r10 =>
          (ldI m5 r10 (8 : Int32)).bind fun x11 =>
          some x11
        else if p1 = (4 : Int32) then
          (gR m5 a0 8 0).bind fun r12 =>
          (ldI m5 r12 (9 : Int32)).bind fun x13 =>
          some x13
        else 
          (gR m5 a0 8 0).bind fun r14 =>
          (ldI m5 r14 (10 : Int32)).bind fun x15 =>
          some x15).bind fun y16 =>
      (cV m5 a0 8 (fX8_laysBack a0 m5)).bind fun m17 =>
      some (y16, m17)
    else
      some ((-1000000001 : Int32), m)
  else
    some ((-1000000001 : Int32), m)
set_option maxRecDepth 20000 in
theorem tX8_behind {D : Dat} {a0 : Nat} {p0 : Int32} {p1 : Int32} {m : Mem} {rR : Int32} {mR : Mem} (h : fX8_behind a0 p0 p1 m = some (rR, mR)) : T D 8 IX8_behind [.ref a0, .int p0, .int p1] m 0 0 (Qi rR mR) := by
  refine T_of_V (by decide) (Nat.le_of_ble_eq_true rfl) ?_
  show V D 8 IX8_behind 0 [(0, .ref a0), (1, .int p0), (2, .int p1)] [] m 0 0 (Qi rR mR)
  unfold fX8_behind at h
  refine V_iload_n (pc2 := 1) dX8_behind_0 1 rfl rfl ?_
  refine V_i2l (pc2 := 2) dX8_behind_1 rfl ?_
  refine V_lconst (v := 0) (pc2 := 3) dX8_behind_2 (by decide) ?_
  refine V_ldc2 (v := 100) (pc2 := 6) dX8_behind_3 wconstantLong_8_170 ?_
  obtain ⟨b1, e_b1, h⟩ := bS h
  refine V_cSi (pc2 := 9) [.long p0.toInt64, .long (0 : Int64), .long (100 : Int64)] (st := []) (tX8_isIn e_b1) dX8_behind_6 wS_8_65 (by decide) rfl (Nat.le_of_ble_eq_true rfl) ?_
  refine V_ifb_eq (pc2 := 12) (tgt := 24) dX8_behind_9 (fun c9 => ?_) (fun c9 => ?_)
  · replace h := iF c9 h
    refine V_ldc (v := -1000000001) (pc2 := 26) dX8_behind_24 wconstant_8_72 ?_
    obtain ⟨e1, e2⟩ := inj2 h
    subst e1
    subst e2
    exact V_iret dX8_behind_26 rfl ⟨rfl, rfl⟩
  · replace h := iT c9 h
    refine V_iload_n (pc2 := 13) dX8_behind_12 2 rfl rfl ?_
    refine V_i2l (pc2 := 14) dX8_behind_13 rfl ?_
    refine V_lconst (v := 0) (pc2 := 15) dX8_behind_14 (by decide) ?_
    refine V_ldc2 (v := 5) (pc2 := 18) dX8_behind_15 wconstantLong_8_115 ?_
    obtain ⟨b2, e_b2, h⟩ := bS h
    refine V_cSi (pc2 := 21) [.long p1.toInt64, .long (0 : Int64), .long (5 : Int64)] (st := []) (tX8_isIn e_b2) dX8_behind_18 wS_8_65 (by decide) rfl (Nat.le_of_ble_eq_true rfl) ?_
    refine V_ifb_ne (pc2 := 24) (tgt := 27) dX8_behind_21 (fun c21 => ?_) (fun c21 => ?_)
    · replace h := iT c21 h
      refine V_aload_n (pc2 := 28) dX8_behind_27 0 rfl rfl ?_
      obtain ⟨m3, e_m3, h⟩ := bS h
      obtain ⟨⟨fs_m3, o_m3⟩, e_m3⟩ := cV_of e_m3
      refine V_cVv (pc2 := 31) [] (st := []) o_m3 (tX8_laysBy e_m3) dX8_behind_28 wV_8_176 (by decide) rfl (Nat.le_of_ble_eq_true rfl) ?_
      refine V_aload_n (pc2 := 32) dX8_behind_31 0 rfl rfl ?_
      refine V_iload_n (pc2 := 33) dX8_behind_32 1 rfl rfl ?_
      obtain ⟨⟨x4, m5⟩, e_x4, h⟩ := bS h
      try dsimp only at h
      obtain ⟨⟨fs_x4, o_x4⟩, e_x4⟩ := cV_of e_x4
      refine V_cVi (pc2 := 36) [.int p0] (st := []) o_x4 (tX8_goesMany e_x4) dX8_behind_33 wV_8_179 (by decide) rfl (Nat.le_of_ble_eq_true rfl) ?_
      refine V_istore_n (pc2 := 37) (L2 := [(3, .int x4), (0, .ref a0), (1, .int p0), (2, .int p1)]) dX8_behind_36 ?_ rfl rfl rfl
      refine V_iconst (v := 0) (pc2 := 38) dX8_behind_37 (by decide) ?_
      refine V_istore (pc2 := 40) (L2 := [(4, .int (0 : Int32)), (3, .int x4), (0, .ref a0), (1, .int p0), (2, .int p1)]) dX8_behind_38 ?_ rfl rfl
      refine V_iload_n (pc2 := 41) dX8_behind_40 4 rfl rfl ?_
      obtain ⟨y16, hb, h⟩ := bS h
      have hJ139 : V D 8 IX8_behind 139 [(0, .ref a0), (4, .int y16)] [] m5 0 0 (Qi rR mR) := by
        refine V_aload_n (pc2 := 140) dX8_behind_139 0 rfl rfl ?_
        obtain ⟨m17, e_m17, h⟩ := bS h
        obtain ⟨⟨fs_m17, o_m17⟩, e_m17⟩ := cV_of e_m17
        refine V_cVv (pc2 := 143) [] (st := []) o_m17 (tX8_laysBack e_m17) dX8_behind_140 wV_8_188 (by decide) rfl (Nat.le_of_ble_eq_true rfl) ?_
        refine V_iload (pc2 := 145) dX8_behind_143 1 rfl ?_
        obtain ⟨e1, e2⟩ := inj2 h
        subst e1
        subst e2
        exact V_iret dX8_behind_145 rfl ⟨rfl, rfl⟩
      clear h
      have h := hb
      clear hb
      by_cases c41_0 : p1 = (0 : Int32)
      · replace h := iT c41_0 h
        refine V_table (off := 35) (tgt := 76) dX8_behind_41 (by rw [c41_0]; decide) ?_
        refine V_aload_n (pc2 := 77) dX8_behind_76 2 rfl rfl ?_
        obtain ⟨r6, e_r6, h⟩ := bS h
        refine V_gR (pc2 := 80) e_r6 dX8_behind_77 wF_8_7 ?_
        refine V_bipush (v := 6) (pc2 := 82) dX8_behind_80 (by decide) ?_
        obtain ⟨x7, e_x7, h⟩ := bS h
        refine V_ldI (pc2 := 83) e_x7 dX8_behind_82 ?_
        refine V_istore (pc2 := 85) (L2 := [(4, .int x7), (3, .int x4), (0, .ref a0), (1, .int p0), (2, .int p1)]) dX8_behind_83 ?_ rfl rfl
        refine V_goto (tgt := 139) dX8_behind_85 ?_
        have e1 := inj1 h
        subst e1
        exact V_lv hJ139 [2, 0] rfl
      replace h := iF c41_0 h
      by_cases c41_1 : p1 = (1 : Int32)
      · replace h := iT c41_1 h
        refine V_table (off := 47) (tgt := 88) dX8_behind_41 (by rw [c41_1]; decide) ?_
        refine V_aload_n (pc2 := 89) dX8_behind_88 2 rfl rfl ?_
        obtain ⟨x8, e_x8, h⟩ := bS h
        obtain ⟨⟨fs_x8, o_x8⟩, e_x8⟩ := cV_of e_x8
        refine V_cVi (pc2 := 92) [] (st := []) o_x8 (tX8_spread e_x8) dX8_behind_89 wV_8_182 (by decide) rfl (Nat.le_of_ble_eq_true rfl) ?_
        refine V_istore (pc2 := 94) (L2 := [(4, .int x8), (3, .int x4), (0, .ref a0), (1, .int p0), (2, .int p1)]) dX8_behind_92 ?_ rfl rfl
        refine V_goto (tgt := 139) dX8_behind_94 ?_
        have e1 := inj1 h
        subst e1
        exact V_lv hJ139 [2, 0] rfl
      replace h := iF c41_1 h
      by_cases c41_2 : p1 = (2 : Int32)
      · replace h := iT c41_2 h
        refine V_table (off := 56) (tgt := 97) dX8_behind_41 (by rw [c41_2]; decide) ?_
        refine V_aload_n (pc2 := 98) dX8_behind_97 2 rfl rfl ?_
        obtain ⟨x9, e_x9, h⟩ := bS h
        obtain ⟨⟨fs_x9, o_x9⟩, e_x9⟩ := cV_of e_x9
        refine V_cVi (pc2 := 101) [] (st := []) o_x9 (tX8_without e_x9) dX8_behind_98 wV_8_185 (by decide) rfl (Nat.le_of_ble_eq_true rfl) ?_
        refine V_istore (pc2 := 103) (L2 := [(4, .int x9), (3, .int x4), (0, .ref a0), (1, .int p0), (2, .int p1)]) dX8_behind_101 ?_ rfl rfl
        refine V_goto (tgt := 139) dX8_behind_103 ?_
        have e1 := inj1 h
        subst e1
        exact V_lv hJ139 [2, 0] rfl
      replace h := iF c41_2 h
      by_cases c41_3 : p1 = (3 : Int32)
      · replace h := iT c41_3 h
        refine V_table (off := 65) (tgt := 106) dX8_behind_41 (by rw [c41_3]; decide) ?_
        refine V_aload_n (pc2 := 107) dX8_behind_106 2 rfl rfl ?_
        obtain ⟨r10, e_r10, h⟩ := bS h
        refine V_gR (pc2 := 110) e_r10 dX8_behind_107 wF_8_7 ?_
        refine V_bipush (v := 8) (pc2 := 112) dX8_behind_110 (by decide) ?_
        obtain ⟨x11, e_x11, h⟩ := bS h
        refine V_ldI (pc2 := 113) e_x11 dX8_behind_112 ?_
        refine V_istore (pc2 := 115) (L2 := [(4, .int x11), (3, .int x4), (0, .ref a0), (1, .int p0), (2, .int p1)]) dX8_behind_113 ?_ rfl rfl
        refine V_goto (tgt := 139) dX8_behind_115 ?_
        have e1 := inj1 h
        subst e1
        exact V_lv hJ139 [2, 0] rfl
      replace h := iF c41_3 h
      by_cases c41_4 : p1 = (4 : Int32)
      · replace h := iT c41_4 h
        refine V_table (off := 77) (tgt := 118) dX8_behind_41 (by rw [c41_4]; decide) ?_
        refine V_aload_n (pc2 := 119) dX8_behind_118 2 rfl rfl ?_
        obtain ⟨r12, e_r12, h⟩ := bS h
        refine V_gR (pc2 := 122) e_r12 dX8_behind_119 wF_8_7 ?_
        refine V_bipush (v := 9) (pc2 := 124) dX8_behind_122 (by decide) ?_
        obtain ⟨x13, e_x13, h⟩ := bS h
        refine V_ldI (pc2 := 125) e_x13 dX8_behind_124 ?_
        refine V_istore (pc2 := 127) (L2 := [(4, .int x13), (3, .int x4), (0, .ref a0), (1, .int p0), (2, .int p1)]) dX8_behind_125 ?_ rfl rfl
        refine V_goto (tgt := 139) dX8_behind_127 ?_
        have e1 := inj1 h
        subst e1
        exact V_lv hJ139 [2, 0] rfl
      replace h := iF c41_4 h
      refine V_tableD (tgt := 130) dX8_behind_41 (by have g0 := lv_neT c41_0 (show (0 : Int32).toInt = 0 by decide); have g1 := lv_neT c41_1 (show (1 : Int32).toInt = 1 by decide); have g2 := lv_neT c41_2 (show (2 : Int32).toInt = 2 by decide); have g3 := lv_neT c41_3 (show (3 : Int32).toInt = 3 by decide); have g4 := lv_neT c41_4 (show (4 : Int32).toInt = 4 by decide); omega) ?_
      refine V_aload_n (pc2 := 131) dX8_behind_130 2 rfl rfl ?_
      obtain ⟨r14, e_r14, h⟩ := bS h
      refine V_gR (pc2 := 134) e_r14 dX8_behind_131 wF_8_7 ?_
      refine V_bipush (v := 10) (pc2 := 136) dX8_behind_134 (by decide) ?_
      obtain ⟨x15, e_x15, h⟩ := bS h
      refine V_ldI (pc2 := 137) e_x15 dX8_behind_136 ?_
      refine V_istore (pc2 := 139) (L2 := [(4, .int x15), (3, .int x4), (0, .ref a0), (1, .int p0), (2, .int p1)]) dX8_behind_137 ?_ rfl rfl
      have e1 := inj1 h
      subst e1
      exact V_lv hJ139 [2, 0] rfl
    · replace h := iF c21 h
      refine V_ldc (v := -1000000001) (pc2 := 26) dX8_behind_24 wconstant_8_72 ?_
      obtain ⟨e1, e2⟩ := inj2 h
      subst e1
      subst e2
      exact V_iret dX8_behind_26 rfl ⟨rfl, rfl⟩
noncomputable def fX8_had (a0 : Nat) (p0 : Int32) (p1 : Int32) (m : Mem) : Option (Int32 × Mem) :=
  (cV m a0 8 (fX8_isChild a0 p0 m)).bind fun b1 =>
  if b1 = true then
    (fX8_isIn p1.toInt64 (0 : Int64) (100 : Int64) m).bind fun b2 =>
    if b2 = true then
      (cV m a0 8 (fX8_laysBy a0 m)).bind fun m3 =>
      (cV m3 a0 8 (fX8_goesMany a0 p1 m3)).bind fun (x4, m5) =>
      (cV m5 a0 8 (fX8_own a0 p0 (1 : Int32) m5)).bind fun x6 =>
      (cV m5 a0 8 (fX8_laysBack a0 m5)).bind fun m7 =>
      some (x6, m7)
    else
      some ((-1000000001 : Int32), m)
  else
    some ((-1000000001 : Int32), m)
set_option maxRecDepth 20000 in
theorem tX8_had {D : Dat} {a0 : Nat} {p0 : Int32} {p1 : Int32} {m : Mem} {rR : Int32} {mR : Mem} (h : fX8_had a0 p0 p1 m = some (rR, mR)) : T D 8 IX8_had [.ref a0, .int p0, .int p1] m 0 0 (Qi rR mR) := by
  refine T_of_V (by decide) (Nat.le_of_ble_eq_true rfl) ?_
  show V D 8 IX8_had 0 [(0, .ref a0), (1, .int p0), (2, .int p1)] [] m 0 0 (Qi rR mR)
  unfold fX8_had at h
  refine V_aload_n (pc2 := 1) dX8_had_0 0 rfl rfl ?_
  refine V_iload_n (pc2 := 2) dX8_had_1 1 rfl rfl ?_
  obtain ⟨b1, e_b1, h⟩ := bS h
  obtain ⟨⟨fs_b1, o_b1⟩, e_b1⟩ := cV_of e_b1
  refine V_cVi (pc2 := 5) [.int p0] (st := []) o_b1 (tX8_isChild e_b1) dX8_had_2 wV_8_95 (by decide) rfl (Nat.le_of_ble_eq_true rfl) ?_
  refine V_ifb_eq (pc2 := 8) (tgt := 20) dX8_had_5 (fun c5 => ?_) (fun c5 => ?_)
  · replace h := iF c5 h
    refine V_ldc (v := -1000000001) (pc2 := 22) dX8_had_20 wconstant_8_72 ?_
    obtain ⟨e1, e2⟩ := inj2 h
    subst e1
    subst e2
    exact V_iret dX8_had_22 rfl ⟨rfl, rfl⟩
  · replace h := iT c5 h
    refine V_iload_n (pc2 := 9) dX8_had_8 2 rfl rfl ?_
    refine V_i2l (pc2 := 10) dX8_had_9 rfl ?_
    refine V_lconst (v := 0) (pc2 := 11) dX8_had_10 (by decide) ?_
    refine V_ldc2 (v := 100) (pc2 := 14) dX8_had_11 wconstantLong_8_170 ?_
    obtain ⟨b2, e_b2, h⟩ := bS h
    refine V_cSi (pc2 := 17) [.long p1.toInt64, .long (0 : Int64), .long (100 : Int64)] (st := []) (tX8_isIn e_b2) dX8_had_14 wS_8_65 (by decide) rfl (Nat.le_of_ble_eq_true rfl) ?_
    refine V_ifb_ne (pc2 := 20) (tgt := 23) dX8_had_17 (fun c17 => ?_) (fun c17 => ?_)
    · replace h := iT c17 h
      refine V_aload_n (pc2 := 24) dX8_had_23 0 rfl rfl ?_
      obtain ⟨m3, e_m3, h⟩ := bS h
      obtain ⟨⟨fs_m3, o_m3⟩, e_m3⟩ := cV_of e_m3
      refine V_cVv (pc2 := 27) [] (st := []) o_m3 (tX8_laysBy e_m3) dX8_had_24 wV_8_176 (by decide) rfl (Nat.le_of_ble_eq_true rfl) ?_
      refine V_aload_n (pc2 := 28) dX8_had_27 0 rfl rfl ?_
      refine V_iload_n (pc2 := 29) dX8_had_28 2 rfl rfl ?_
      obtain ⟨⟨x4, m5⟩, e_x4, h⟩ := bS h
      try dsimp only at h
      obtain ⟨⟨fs_x4, o_x4⟩, e_x4⟩ := cV_of e_x4
      refine V_cVi (pc2 := 32) [.int p1] (st := []) o_x4 (tX8_goesMany e_x4) dX8_had_29 wV_8_179 (by decide) rfl (Nat.le_of_ble_eq_true rfl) ?_
      refine V_istore_n (pc2 := 33) (L2 := [(3, .int x4), (0, .ref a0), (1, .int p0), (2, .int p1)]) dX8_had_32 ?_ rfl rfl rfl
      refine V_aload_n (pc2 := 34) dX8_had_33 1 rfl rfl ?_
      refine V_iload_n (pc2 := 35) dX8_had_34 2 rfl rfl ?_
      refine V_iconst (v := 1) (pc2 := 36) dX8_had_35 (by decide) ?_
      obtain ⟨x6, e_x6, h⟩ := bS h
      obtain ⟨⟨fs_x6, o_x6⟩, e_x6⟩ := cV_of e_x6
      refine V_cVi (pc2 := 39) [.int p0, .int (1 : Int32)] (st := []) o_x6 (tX8_own e_x6) dX8_had_36 wV_8_74 (by decide) rfl (Nat.le_of_ble_eq_true rfl) ?_
      refine V_istore (pc2 := 41) (L2 := [(4, .int x6), (3, .int x4), (0, .ref a0), (1, .int p0), (2, .int p1)]) dX8_had_39 ?_ rfl rfl
      refine V_aload_n (pc2 := 42) dX8_had_41 2 rfl rfl ?_
      obtain ⟨m7, e_m7, h⟩ := bS h
      obtain ⟨⟨fs_m7, o_m7⟩, e_m7⟩ := cV_of e_m7
      refine V_cVv (pc2 := 45) [] (st := []) o_m7 (tX8_laysBack e_m7) dX8_had_42 wV_8_188 (by decide) rfl (Nat.le_of_ble_eq_true rfl) ?_
      refine V_iload (pc2 := 47) dX8_had_45 0 rfl ?_
      obtain ⟨e1, e2⟩ := inj2 h
      subst e1
      subst e2
      exact V_iret dX8_had_47 rfl ⟨rfl, rfl⟩
    · replace h := iF c17 h
      refine V_ldc (v := -1000000001) (pc2 := 22) dX8_had_20 wconstant_8_72 ?_
      obtain ⟨e1, e2⟩ := inj2 h
      subst e1
      subst e2
      exact V_iret dX8_had_22 rfl ⟨rfl, rfl⟩
noncomputable def fX8_all_b0 (a0 : Nat) : Int32 × Int32 × Mem → Option ((Int32 × Int32 × Mem) ⊕ (Int32 × Mem)) := fun (y2, y3, m4) =>
  if (60 : Int32) < y3 then
    some (.inr (y2, m4))
  else
    if 0 ≤ y2 then
      some (.inr (y2, m4))
    else
      (cV m4 a0 8 (fX8_without a0 m4)).bind fun x5 =>
      (
        if x5 = 0 then
          some y3
        else
          some (-1 : Int32)).bind fun y6 =>
      (cV m4 a0 8 (fX8_turn a0 m4)).bind fun (x7, m8) =>
      some (.inl (y6, y3 + (1 : Int32), m8))
noncomputable def fX8_all (a0 : Nat) (m : Mem) : Option (Int32 × Mem) :=
  (cV m a0 8 (fX8_laysBy a0 m)).bind fun m1 =>
  (loopF (fX8_all_b0 a0) bigN ((-1 : Int32), (0 : Int32), m1)).bind fun (y9, m10) =>
  (cV m10 a0 8 (fX8_laysBack a0 m10)).bind fun m11 =>
  (fX8_orNone y9 m11).bind fun x12 =>
  some (x12, m11)
set_option maxRecDepth 20000 in
theorem tX8_all {D : Dat} {a0 : Nat} {m : Mem} {rR : Int32} {mR : Mem} (h : fX8_all a0 m = some (rR, mR)) : T D 7 IX8_all [.ref a0] m 0 0 (Qi rR mR) := by
  refine T_of_V (by decide) (Nat.le_of_ble_eq_true rfl) ?_
  show V D 7 IX8_all 0 [(0, .ref a0)] [] m 0 0 (Qi rR mR)
  unfold fX8_all at h
  refine V_aload_n (pc2 := 1) dX8_all_0 0 rfl rfl ?_
  obtain ⟨m1, e_m1, h⟩ := bS h
  obtain ⟨⟨fs_m1, o_m1⟩, e_m1⟩ := cV_of e_m1
  refine V_cVv (pc2 := 4) [] (st := []) o_m1 (tX8_laysBy e_m1) dX8_all_1 wV_8_176 (by decide) rfl (Nat.le_of_ble_eq_true rfl) ?_
  refine V_iconst (v := -1) (pc2 := 5) dX8_all_4 (by decide) ?_
  refine V_istore_n (pc2 := 6) (L2 := [(1, .int (-1 : Int32)), (0, .ref a0)]) dX8_all_5 ?_ rfl rfl rfl
  refine V_iconst (v := 0) (pc2 := 7) dX8_all_6 (by decide) ?_
  refine V_istore_n (pc2 := 8) (L2 := [(2, .int (0 : Int32)), (1, .int (-1 : Int32)), (0, .ref a0)]) dX8_all_7 ?_ rfl rfl rfl
  obtain ⟨⟨y9, m10⟩, hl, h⟩ := bS h
  try dsimp only at h
  have hJ42 : V D 7 IX8_all 42 [(0, .ref a0), (1, .int y9)] [] m10 0 0 (Qi rR mR) := by
    refine V_aload_n (pc2 := 43) dX8_all_42 0 rfl rfl ?_
    obtain ⟨m11, e_m11, h⟩ := bS h
    obtain ⟨⟨fs_m11, o_m11⟩, e_m11⟩ := cV_of e_m11
    refine V_cVv (pc2 := 46) [] (st := []) o_m11 (tX8_laysBack e_m11) dX8_all_43 wV_8_188 (by decide) rfl (Nat.le_of_ble_eq_true rfl) ?_
    refine V_iload_n (pc2 := 47) dX8_all_46 1 rfl rfl ?_
    obtain ⟨x12, e_x12, h⟩ := bS h
    refine V_cSi (pc2 := 50) [.int y9] (st := []) (tX8_orNone e_x12) dX8_all_47 wS_8_105 (by decide) rfl (Nat.le_of_ble_eq_true rfl) ?_
    obtain ⟨e1, e2⟩ := inj2 h
    subst e1
    subst e2
    exact V_iret dX8_all_50 rfl ⟨rfl, rfl⟩
  clear h
  have key8 : ∀ (n : Nat) (y2 : Int32) (y3 : Int32) (m4 : Mem), loopF (fX8_all_b0 a0) n (y2, y3, m4) = some (y9, m10) → V D 7 IX8_all 8 [(0, .ref a0), (1, .int y2), (2, .int y3)] [] m4 0 0 (Qi rR mR) := by
    intro n
    induction n with
    | zero => intro y2 y3 m4 h; cases h
    | succ n ih =>
      intro y2 y3 m4 h
      obtain ⟨o, h, ho⟩ := loopF_inv h
      dsimp only [fX8_all_b0] at h
      refine V_iload_n (pc2 := 9) dX8_all_8 2 rfl rfl ?_
      refine V_bipush (v := 60) (pc2 := 11) dX8_all_9 (by decide) ?_
      refine V_icmp_gt (pc2 := 14) (tgt := 42) dX8_all_11 (fun c11 => ?_) (fun c11 => ?_)
      · replace h := iT c11 h
        have ee := inj1 h
        subst ee
        obtain ⟨e1, e2⟩ := pinj2 (loopF_e ho)
        subst e1
        subst e2
        exact V_lv hJ42 [0, 1] rfl
      · replace h := iF c11 h
        refine V_iload_n (pc2 := 15) dX8_all_14 1 rfl rfl ?_
        refine V_if_ge (pc2 := 18) (tgt := 42) dX8_all_15 (fun c15 => ?_) (fun c15 => ?_)
        · replace h := iT c15 h
          have ee := inj1 h
          subst ee
          obtain ⟨e1, e2⟩ := pinj2 (loopF_e ho)
          subst e1
          subst e2
          exact V_lv hJ42 [0, 1] rfl
        · replace h := iF c15 h
          refine V_aload_n (pc2 := 19) dX8_all_18 0 rfl rfl ?_
          obtain ⟨x5, e_x5, h⟩ := bS h
          obtain ⟨⟨fs_x5, o_x5⟩, e_x5⟩ := cV_of e_x5
          refine V_cVi (pc2 := 22) [] (st := []) o_x5 (tX8_without e_x5) dX8_all_19 wV_8_185 (by decide) rfl (Nat.le_of_ble_eq_true rfl) ?_
          obtain ⟨y6, hb, h⟩ := bS h
          have hJ30 : V D 7 IX8_all 30 [(0, .ref a0), (2, .int y3)] [.int y6] m4 0 0 (Qi rR mR) := by
            refine V_istore_n (pc2 := 31) (L2 := [(1, .int y6), (0, .ref a0), (2, .int y3)]) dX8_all_30 ?_ rfl rfl rfl
            refine V_aload_n (pc2 := 32) dX8_all_31 1 rfl rfl ?_
            obtain ⟨⟨x7, m8⟩, e_x7, h⟩ := bS h
            try dsimp only at h
            obtain ⟨⟨fs_x7, o_x7⟩, e_x7⟩ := cV_of e_x7
            refine V_cVi (pc2 := 35) [] (st := []) o_x7 (tX8_turn e_x7) dX8_all_32 wV_8_172 (by decide) rfl (Nat.le_of_ble_eq_true rfl) ?_
            refine V_istore_n (pc2 := 36) (L2 := [(3, .int x7), (1, .int y6), (0, .ref a0), (2, .int y3)]) dX8_all_35 ?_ rfl rfl rfl
            refine V_iinc (pc2 := 39) (v := y3 + (1 : Int32)) (L2 := [(2, .int (y3 + (1 : Int32))), (3, .int x7), (1, .int y6), (0, .ref a0)]) dX8_all_36 3 rfl (by rfl) ?_ rfl rfl
            refine V_goto (tgt := 8) dX8_all_39 ?_
            have ee := inj1 h
            subst ee
            exact V_lv (ih _ _ _ (loopF_c ho)) [3, 2, 0] rfl
          clear h
          have h := hb
          clear hb
          refine V_if_ne (pc2 := 25) (tgt := 29) dX8_all_22 (fun c22 => ?_) (fun c22 => ?_)
          · replace h := iF c22 h
            refine V_iconst (v := -1) (pc2 := 30) dX8_all_29 (by decide) ?_
            have e1 := inj1 h
            subst e1
            exact V_lv hJ30 [0, 2] rfl
          · replace h := iT c22 h
            refine V_iload_n (pc2 := 26) dX8_all_25 2 rfl rfl ?_
            refine V_goto (tgt := 30) dX8_all_26 ?_
            have e1 := inj1 h
            subst e1
            exact V_lv hJ30 [0, 2] rfl
  exact V_lv (key8 _ _ _ _ hl) [2, 1, 0] rfl
noncomputable def fX8_evens_b0 (a0 : Nat) (p0 : Int32) : Int32 × Int32 × Mem → Option ((Int32 × Int32 × Mem) ⊕ (Int32 × Mem)) := fun (y3, y4, m5) =>
  if (60 : Int32) < y4 then
    some (.inr (y3, m5))
  else
    if 0 ≤ y3 then
      some (.inr (y3, m5))
    else
      (cV m5 a0 8 (fX8_spread a0 m5)).bind fun x6 =>
      (
        if p0 < x6 then
          some (-1 : Int32)
        else
          some y4).bind fun y7 =>
      (cV m5 a0 8 (fX8_turn a0 m5)).bind fun (x8, m9) =>
      some (.inl (y7, y4 + (1 : Int32), m9))
noncomputable def fX8_evens (a0 : Nat) (p0 : Int32) (m : Mem) : Option (Int32 × Mem) :=
  (fX8_isIn p0.toInt64 (0 : Int64) (99 : Int64) m).bind fun b1 =>
  if b1 = true then
    (cV m a0 8 (fX8_laysBy a0 m)).bind fun m2 =>
    (loopF (fX8_evens_b0 a0 p0) bigN ((-1 : Int32), (0 : Int32), m2)).bind fun (y10, m11) =>
    (cV m11 a0 8 (fX8_laysBack a0 m11)).bind fun m12 =>
    (fX8_orNone y10 m12).bind fun x13 =>
    some (x13, m12)
  else
    some ((-1000000001 : Int32), m)
set_option maxRecDepth 20000 in
theorem tX8_evens {D : Dat} {a0 : Nat} {p0 : Int32} {m : Mem} {rR : Int32} {mR : Mem} (h : fX8_evens a0 p0 m = some (rR, mR)) : T D 7 IX8_evens [.ref a0, .int p0] m 0 0 (Qi rR mR) := by
  refine T_of_V (by decide) (Nat.le_of_ble_eq_true rfl) ?_
  show V D 7 IX8_evens 0 [(0, .ref a0), (1, .int p0)] [] m 0 0 (Qi rR mR)
  unfold fX8_evens at h
  refine V_iload_n (pc2 := 1) dX8_evens_0 1 rfl rfl ?_
  refine V_i2l (pc2 := 2) dX8_evens_1 rfl ?_
  refine V_lconst (v := 0) (pc2 := 3) dX8_evens_2 (by decide) ?_
  refine V_ldc2 (v := 99) (pc2 := 6) dX8_evens_3 wconstantLong_8_110 ?_
  obtain ⟨b1, e_b1, h⟩ := bS h
  refine V_cSi (pc2 := 9) [.long p0.toInt64, .long (0 : Int64), .long (99 : Int64)] (st := []) (tX8_isIn e_b1) dX8_evens_6 wS_8_65 (by decide) rfl (Nat.le_of_ble_eq_true rfl) ?_
  refine V_ifb_ne (pc2 := 12) (tgt := 15) dX8_evens_9 (fun c9 => ?_) (fun c9 => ?_)
  · replace h := iT c9 h
    refine V_aload_n (pc2 := 16) dX8_evens_15 0 rfl rfl ?_
    obtain ⟨m2, e_m2, h⟩ := bS h
    obtain ⟨⟨fs_m2, o_m2⟩, e_m2⟩ := cV_of e_m2
    refine V_cVv (pc2 := 19) [] (st := []) o_m2 (tX8_laysBy e_m2) dX8_evens_16 wV_8_176 (by decide) rfl (Nat.le_of_ble_eq_true rfl) ?_
    refine V_iconst (v := -1) (pc2 := 20) dX8_evens_19 (by decide) ?_
    refine V_istore_n (pc2 := 21) (L2 := [(2, .int (-1 : Int32)), (0, .ref a0), (1, .int p0)]) dX8_evens_20 ?_ rfl rfl rfl
    refine V_iconst (v := 0) (pc2 := 22) dX8_evens_21 (by decide) ?_
    refine V_istore_n (pc2 := 23) (L2 := [(3, .int (0 : Int32)), (2, .int (-1 : Int32)), (0, .ref a0), (1, .int p0)]) dX8_evens_22 ?_ rfl rfl rfl
    obtain ⟨⟨y10, m11⟩, hl, h⟩ := bS h
    try dsimp only at h
    have hJ59 : V D 7 IX8_evens 59 [(0, .ref a0), (2, .int y10)] [] m11 0 0 (Qi rR mR) := by
      refine V_aload_n (pc2 := 60) dX8_evens_59 0 rfl rfl ?_
      obtain ⟨m12, e_m12, h⟩ := bS h
      obtain ⟨⟨fs_m12, o_m12⟩, e_m12⟩ := cV_of e_m12
      refine V_cVv (pc2 := 63) [] (st := []) o_m12 (tX8_laysBack e_m12) dX8_evens_60 wV_8_188 (by decide) rfl (Nat.le_of_ble_eq_true rfl) ?_
      refine V_iload_n (pc2 := 64) dX8_evens_63 1 rfl rfl ?_
      obtain ⟨x13, e_x13, h⟩ := bS h
      refine V_cSi (pc2 := 67) [.int y10] (st := []) (tX8_orNone e_x13) dX8_evens_64 wS_8_105 (by decide) rfl (Nat.le_of_ble_eq_true rfl) ?_
      obtain ⟨e1, e2⟩ := inj2 h
      subst e1
      subst e2
      exact V_iret dX8_evens_67 rfl ⟨rfl, rfl⟩
    clear h
    have key23 : ∀ (n : Nat) (y3 : Int32) (y4 : Int32) (m5 : Mem), loopF (fX8_evens_b0 a0 p0) n (y3, y4, m5) = some (y10, m11) → V D 7 IX8_evens 23 [(0, .ref a0), (1, .int p0), (2, .int y3), (3, .int y4)] [] m5 0 0 (Qi rR mR) := by
      intro n
      induction n with
      | zero => intro y3 y4 m5 h; cases h
      | succ n ih =>
        intro y3 y4 m5 h
        obtain ⟨o, h, ho⟩ := loopF_inv h
        dsimp only [fX8_evens_b0] at h
        refine V_iload_n (pc2 := 24) dX8_evens_23 3 rfl rfl ?_
        refine V_bipush (v := 60) (pc2 := 26) dX8_evens_24 (by decide) ?_
        refine V_icmp_gt (pc2 := 29) (tgt := 59) dX8_evens_26 (fun c26 => ?_) (fun c26 => ?_)
        · replace h := iT c26 h
          have ee := inj1 h
          subst ee
          obtain ⟨e1, e2⟩ := pinj2 (loopF_e ho)
          subst e1
          subst e2
          exact V_lv hJ59 [0, 2] rfl
        · replace h := iF c26 h
          refine V_iload_n (pc2 := 30) dX8_evens_29 2 rfl rfl ?_
          refine V_if_ge (pc2 := 33) (tgt := 59) dX8_evens_30 (fun c30 => ?_) (fun c30 => ?_)
          · replace h := iT c30 h
            have ee := inj1 h
            subst ee
            obtain ⟨e1, e2⟩ := pinj2 (loopF_e ho)
            subst e1
            subst e2
            exact V_lv hJ59 [0, 2] rfl
          · replace h := iF c30 h
            refine V_aload_n (pc2 := 34) dX8_evens_33 0 rfl rfl ?_
            obtain ⟨x6, e_x6, h⟩ := bS h
            obtain ⟨⟨fs_x6, o_x6⟩, e_x6⟩ := cV_of e_x6
            refine V_cVi (pc2 := 37) [] (st := []) o_x6 (tX8_spread e_x6) dX8_evens_34 wV_8_182 (by decide) rfl (Nat.le_of_ble_eq_true rfl) ?_
            refine V_iload_n (pc2 := 38) dX8_evens_37 1 rfl rfl ?_
            obtain ⟨y7, hb, h⟩ := bS h
            have hJ46 : V D 7 IX8_evens 46 [(0, .ref a0), (1, .int p0), (3, .int y4)] [.int y7] m5 0 0 (Qi rR mR) := by
              refine V_istore_n (pc2 := 47) (L2 := [(2, .int y7), (0, .ref a0), (1, .int p0), (3, .int y4)]) dX8_evens_46 ?_ rfl rfl rfl
              refine V_aload_n (pc2 := 48) dX8_evens_47 1 rfl rfl ?_
              obtain ⟨⟨x8, m9⟩, e_x8, h⟩ := bS h
              try dsimp only at h
              obtain ⟨⟨fs_x8, o_x8⟩, e_x8⟩ := cV_of e_x8
              refine V_cVi (pc2 := 51) [] (st := []) o_x8 (tX8_turn e_x8) dX8_evens_48 wV_8_172 (by decide) rfl (Nat.le_of_ble_eq_true rfl) ?_
              refine V_istore (pc2 := 53) (L2 := [(4, .int x8), (2, .int y7), (0, .ref a0), (1, .int p0), (3, .int y4)]) dX8_evens_51 ?_ rfl rfl
              refine V_iinc (pc2 := 56) (v := y4 + (1 : Int32)) (L2 := [(3, .int (y4 + (1 : Int32))), (4, .int x8), (2, .int y7), (0, .ref a0), (1, .int p0)]) dX8_evens_53 4 rfl (by rfl) ?_ rfl rfl
              refine V_goto (tgt := 23) dX8_evens_56 ?_
              have ee := inj1 h
              subst ee
              exact V_lv (ih _ _ _ (loopF_c ho)) [3, 4, 2, 0] rfl
            clear h
            have h := hb
            clear hb
            refine V_icmp_gt (pc2 := 41) (tgt := 45) dX8_evens_38 (fun c38 => ?_) (fun c38 => ?_)
            · replace h := iT c38 h
              refine V_iconst (v := -1) (pc2 := 46) dX8_evens_45 (by decide) ?_
              have e1 := inj1 h
              subst e1
              exact V_lv hJ46 [0, 1, 3] rfl
            · replace h := iF c38 h
              refine V_iload_n (pc2 := 42) dX8_evens_41 3 rfl rfl ?_
              refine V_goto (tgt := 46) dX8_evens_42 ?_
              have e1 := inj1 h
              subst e1
              exact V_lv hJ46 [0, 1, 3] rfl
    exact V_lv (key23 _ _ _ _ hl) [2, 3, 1, 0] rfl
  · replace h := iF c9 h
    refine V_ldc (v := -1000000001) (pc2 := 14) dX8_evens_12 wconstant_8_72 ?_
    obtain ⟨e1, e2⟩ := inj2 h
    subst e1
    subst e2
    exact V_iret dX8_evens_14 rfl ⟨rfl, rfl⟩
noncomputable def fX8_steer_b1 (a0 : Nat) : Int32 × Mem → Option ((Int32 × Mem) ⊕ Mem) := fun (y9, m10) =>
  (gR m10 a0 8 0).bind fun r11 =>
  (ldI m10 r11 (1 : Int32)).bind fun x12 =>
  if x12 ≤ y9 then
    some (.inr m10)
  else
    (gR m10 a0 8 0).bind fun r13 =>
    (stI m10 r13 ((42 : Int32) + ((3 : Int32) * y9)) (2 : Int32)).bind fun m14 =>
    some (.inl (y9 + (1 : Int32), m14))
noncomputable def fX8_steer_b0 (a0 : Nat) (p0 : Int32) (p1 : Int32) : Int32 × Int32 × Mem → Option ((Int32 × Int32 × Mem) ⊕ (Int32 × Mem)) := fun (y4, y5, m6) =>
  if y5 < 0 then
    some (.inr (y4, m6))
  else
    if 0 ≤ y4 then
      some (.inr (y4, m6))
    else
      (cV m6 a0 8 (fX8_goesMany a0 y5 m6)).bind fun (x7, m8) =>
      (loopF (fX8_steer_b1 a0) bigN ((0 : Int32), m8)).bind fun m15 =>
      (cV m15 a0 8 (fX8_goesMany a0 (p1 - y5) m15)).bind fun (x16, m17) =>
      (
        if x16 = p0 then
          some y5
        else
          some (-1 : Int32)).bind fun y18 =>
      (cV m17 a0 8 (fX8_laysBack a0 m17)).bind fun m19 =>
      some (.inl (y18, y5 + (-1 : Int32), m19))
noncomputable def fX8_steer (a0 : Nat) (p0 : Int32) (p1 : Int32) (m : Mem) : Option (Int32 × Mem) :=
  (cV m a0 8 (fX8_isChild a0 p0 m)).bind fun b1 =>
  if b1 = true then
    (fX8_isIn p1.toInt64 (1 : Int64) (30 : Int64) m).bind fun b2 =>
    if b2 = true then
      (cV m a0 8 (fX8_laysBy a0 m)).bind fun m3 =>
      (loopF (fX8_steer_b0 a0 p0 p1) bigN ((-1 : Int32), p1 - (1 : Int32), m3)).bind fun (y20, m21) =>
      (fX8_orNone y20 m21).bind fun x22 =>
      some (x22, m21)
    else
      some ((-1000000001 : Int32), m)
  else
    some ((-1000000001 : Int32), m)
set_option maxRecDepth 20000 in
theorem tX8_steer {D : Dat} {a0 : Nat} {p0 : Int32} {p1 : Int32} {m : Mem} {rR : Int32} {mR : Mem} (h : fX8_steer a0 p0 p1 m = some (rR, mR)) : T D 8 IX8_steer [.ref a0, .int p0, .int p1] m 0 0 (Qi rR mR) := by
  refine T_of_V (by decide) (Nat.le_of_ble_eq_true rfl) ?_
  show V D 8 IX8_steer 0 [(0, .ref a0), (1, .int p0), (2, .int p1)] [] m 0 0 (Qi rR mR)
  unfold fX8_steer at h
  refine V_aload_n (pc2 := 1) dX8_steer_0 0 rfl rfl ?_
  refine V_iload_n (pc2 := 2) dX8_steer_1 1 rfl rfl ?_
  obtain ⟨b1, e_b1, h⟩ := bS h
  obtain ⟨⟨fs_b1, o_b1⟩, e_b1⟩ := cV_of e_b1
  refine V_cVi (pc2 := 5) [.int p0] (st := []) o_b1 (tX8_isChild e_b1) dX8_steer_2 wV_8_95 (by decide) rfl (Nat.le_of_ble_eq_true rfl) ?_
  refine V_ifb_eq (pc2 := 8) (tgt := 20) dX8_steer_5 (fun c5 => ?_) (fun c5 => ?_)
  · replace h := iF c5 h
    refine V_ldc (v := -1000000001) (pc2 := 22) dX8_steer_20 wconstant_8_72 ?_
    obtain ⟨e1, e2⟩ := inj2 h
    subst e1
    subst e2
    exact V_iret dX8_steer_22 rfl ⟨rfl, rfl⟩
  · replace h := iT c5 h
    refine V_iload_n (pc2 := 9) dX8_steer_8 2 rfl rfl ?_
    refine V_i2l (pc2 := 10) dX8_steer_9 rfl ?_
    refine V_lconst (v := 1) (pc2 := 11) dX8_steer_10 (by decide) ?_
    refine V_ldc2 (v := 30) (pc2 := 14) dX8_steer_11 wconstantLong_8_191 ?_
    obtain ⟨b2, e_b2, h⟩ := bS h
    refine V_cSi (pc2 := 17) [.long p1.toInt64, .long (1 : Int64), .long (30 : Int64)] (st := []) (tX8_isIn e_b2) dX8_steer_14 wS_8_65 (by decide) rfl (Nat.le_of_ble_eq_true rfl) ?_
    refine V_ifb_ne (pc2 := 20) (tgt := 23) dX8_steer_17 (fun c17 => ?_) (fun c17 => ?_)
    · replace h := iT c17 h
      refine V_aload_n (pc2 := 24) dX8_steer_23 0 rfl rfl ?_
      obtain ⟨m3, e_m3, h⟩ := bS h
      obtain ⟨⟨fs_m3, o_m3⟩, e_m3⟩ := cV_of e_m3
      refine V_cVv (pc2 := 27) [] (st := []) o_m3 (tX8_laysBy e_m3) dX8_steer_24 wV_8_176 (by decide) rfl (Nat.le_of_ble_eq_true rfl) ?_
      refine V_iconst (v := -1) (pc2 := 28) dX8_steer_27 (by decide) ?_
      refine V_istore_n (pc2 := 29) (L2 := [(3, .int (-1 : Int32)), (0, .ref a0), (1, .int p0), (2, .int p1)]) dX8_steer_28 ?_ rfl rfl rfl
      refine V_iload_n (pc2 := 30) dX8_steer_29 3 rfl rfl ?_
      refine V_iconst (v := 1) (pc2 := 31) dX8_steer_30 (by decide) ?_
      refine V_isub (pc2 := 32) dX8_steer_31 ?_
      refine V_istore (pc2 := 34) (L2 := [(4, .int (p1 - (1 : Int32))), (3, .int (-1 : Int32)), (0, .ref a0), (1, .int p0), (2, .int p1)]) dX8_steer_32 ?_ rfl rfl
      obtain ⟨⟨y20, m21⟩, hl, h⟩ := bS h
      try dsimp only at h
      have hJ113 : V D 8 IX8_steer 113 [(3, .int y20)] [] m21 0 0 (Qi rR mR) := by
        refine V_iload_n (pc2 := 114) dX8_steer_113 0 rfl rfl ?_
        obtain ⟨x22, e_x22, h⟩ := bS h
        refine V_cSi (pc2 := 117) [.int y20] (st := []) (tX8_orNone e_x22) dX8_steer_114 wS_8_105 (by decide) rfl (Nat.le_of_ble_eq_true rfl) ?_
        obtain ⟨e1, e2⟩ := inj2 h
        subst e1
        subst e2
        exact V_iret dX8_steer_117 rfl ⟨rfl, rfl⟩
      clear h
      have key34 : ∀ (n : Nat) (y4 : Int32) (y5 : Int32) (m6 : Mem), loopF (fX8_steer_b0 a0 p0 p1) n (y4, y5, m6) = some (y20, m21) → V D 8 IX8_steer 34 [(0, .ref a0), (1, .int p0), (2, .int p1), (3, .int y4), (4, .int y5)] [] m6 0 0 (Qi rR mR) := by
        intro n
        induction n with
        | zero => intro y4 y5 m6 h; cases h
        | succ n ih =>
          intro y4 y5 m6 h
          obtain ⟨o, h, ho⟩ := loopF_inv h
          dsimp only [fX8_steer_b0] at h
          refine V_iload (pc2 := 36) dX8_steer_34 4 rfl ?_
          refine V_if_lt (pc2 := 39) (tgt := 113) dX8_steer_36 (fun c36 => ?_) (fun c36 => ?_)
          · replace h := iT c36 h
            have ee := inj1 h
            subst ee
            obtain ⟨e1, e2⟩ := pinj2 (loopF_e ho)
            subst e1
            subst e2
            exact V_lv hJ113 [3] rfl
          · replace h := iF c36 h
            refine V_iload_n (pc2 := 40) dX8_steer_39 3 rfl rfl ?_
            refine V_if_ge (pc2 := 43) (tgt := 113) dX8_steer_40 (fun c40 => ?_) (fun c40 => ?_)
            · replace h := iT c40 h
              have ee := inj1 h
              subst ee
              obtain ⟨e1, e2⟩ := pinj2 (loopF_e ho)
              subst e1
              subst e2
              exact V_lv hJ113 [3] rfl
            · replace h := iF c40 h
              refine V_aload_n (pc2 := 44) dX8_steer_43 0 rfl rfl ?_
              refine V_iload (pc2 := 46) dX8_steer_44 4 rfl ?_
              obtain ⟨⟨x7, m8⟩, e_x7, h⟩ := bS h
              try dsimp only at h
              obtain ⟨⟨fs_x7, o_x7⟩, e_x7⟩ := cV_of e_x7
              refine V_cVi (pc2 := 49) [.int y5] (st := []) o_x7 (tX8_goesMany e_x7) dX8_steer_46 wV_8_179 (by decide) rfl (Nat.le_of_ble_eq_true rfl) ?_
              refine V_istore (pc2 := 51) (L2 := [(5, .int x7), (0, .ref a0), (1, .int p0), (2, .int p1), (3, .int y4), (4, .int y5)]) dX8_steer_49 ?_ rfl rfl
              refine V_iconst (v := 0) (pc2 := 52) dX8_steer_51 (by decide) ?_
              refine V_istore (pc2 := 54) (L2 := [(6, .int (0 : Int32)), (5, .int x7), (0, .ref a0), (1, .int p0), (2, .int p1), (3, .int y4), (4, .int y5)]) dX8_steer_52 ?_ rfl rfl
              obtain ⟨m15, hl, h⟩ := bS h
              have hJ84 : V D 8 IX8_steer 84 [(0, .ref a0), (1, .int p0), (2, .int p1), (4, .int y5)] [] m15 0 0 (Qi rR mR) := by
                refine V_aload_n (pc2 := 85) dX8_steer_84 0 rfl rfl ?_
                refine V_iload_n (pc2 := 86) dX8_steer_85 2 rfl rfl ?_
                refine V_iload (pc2 := 88) dX8_steer_86 3 rfl ?_
                refine V_isub (pc2 := 89) dX8_steer_88 ?_
                obtain ⟨⟨x16, m17⟩, e_x16, h⟩ := bS h
                try dsimp only at h
                obtain ⟨⟨fs_x16, o_x16⟩, e_x16⟩ := cV_of e_x16
                refine V_cVi (pc2 := 92) [.int (p1 - y5)] (st := []) o_x16 (tX8_goesMany e_x16) dX8_steer_89 wV_8_179 (by decide) rfl (Nat.le_of_ble_eq_true rfl) ?_
                refine V_iload_n (pc2 := 93) dX8_steer_92 1 rfl rfl ?_
                obtain ⟨y18, hb, h⟩ := bS h
                have hJ102 : V D 8 IX8_steer 102 [(0, .ref a0), (1, .int p0), (2, .int p1), (4, .int y5)] [.int y18] m17 0 0 (Qi rR mR) := by
                  refine V_istore_n (pc2 := 103) (L2 := [(3, .int y18), (0, .ref a0), (1, .int p0), (2, .int p1), (4, .int y5)]) dX8_steer_102 ?_ rfl rfl rfl
                  refine V_aload_n (pc2 := 104) dX8_steer_103 1 rfl rfl ?_
                  obtain ⟨m19, e_m19, h⟩ := bS h
                  obtain ⟨⟨fs_m19, o_m19⟩, e_m19⟩ := cV_of e_m19
                  refine V_cVv (pc2 := 107) [] (st := []) o_m19 (tX8_laysBack e_m19) dX8_steer_104 wV_8_188 (by decide) rfl (Nat.le_of_ble_eq_true rfl) ?_
                  refine V_iinc (pc2 := 110) (v := y5 + (-1 : Int32)) (L2 := [(4, .int (y5 + (-1 : Int32))), (3, .int y18), (0, .ref a0), (1, .int p0), (2, .int p1)]) dX8_steer_107 4 rfl (by rfl) ?_ rfl rfl
                  refine V_goto (tgt := 34) dX8_steer_110 ?_
                  have ee := inj1 h
                  subst ee
                  exact V_lv (ih _ _ _ (loopF_c ho)) [2, 3, 4, 1, 0] rfl
                clear h
                have h := hb
                clear hb
                refine V_icmp_ne (pc2 := 96) (tgt := 101) dX8_steer_93 (fun c93 => ?_) (fun c93 => ?_)
                · replace h := iF c93 h
                  refine V_iconst (v := -1) (pc2 := 102) dX8_steer_101 (by decide) ?_
                  have e1 := inj1 h
                  subst e1
                  exact hJ102
                · replace h := iT c93 h
                  refine V_iload (pc2 := 98) dX8_steer_96 3 rfl ?_
                  refine V_goto (tgt := 102) dX8_steer_98 ?_
                  have e1 := inj1 h
                  subst e1
                  exact hJ102
              clear h
              have key54 : ∀ (n : Nat) (y9 : Int32) (m10 : Mem), loopF (fX8_steer_b1 a0) n (y9, m10) = some m15 → V D 8 IX8_steer 54 [(0, .ref a0), (1, .int p0), (2, .int p1), (4, .int y5), (6, .int y9)] [] m10 0 0 (Qi rR mR) := by
                intro n
                induction n with
                | zero => intro y9 m10 h; cases h
                | succ n ih =>
                  intro y9 m10 h
                  obtain ⟨o, h, ho⟩ := loopF_inv h
                  dsimp only [fX8_steer_b1] at h
                  refine V_iload (pc2 := 56) dX8_steer_54 4 rfl ?_
                  refine V_aload_n (pc2 := 57) dX8_steer_56 0 rfl rfl ?_
                  obtain ⟨r11, e_r11, h⟩ := bS h
                  refine V_gR (pc2 := 60) e_r11 dX8_steer_57 wF_8_7 ?_
                  refine V_iconst (v := 1) (pc2 := 61) dX8_steer_60 (by decide) ?_
                  obtain ⟨x12, e_x12, h⟩ := bS h
                  refine V_ldI (pc2 := 62) e_x12 dX8_steer_61 ?_
                  refine V_icmp_ge (pc2 := 65) (tgt := 84) dX8_steer_62 (fun c62 => ?_) (fun c62 => ?_)
                  · replace h := iT c62 h
                    have ee := inj1 h
                    subst ee
                    have e1 := pinj1 (loopF_e ho)
                    subst e1
                    exact V_lv hJ84 [0, 1, 2, 3] rfl
                  · replace h := iF c62 h
                    refine V_aload_n (pc2 := 66) dX8_steer_65 0 rfl rfl ?_
                    obtain ⟨r13, e_r13, h⟩ := bS h
                    refine V_gR (pc2 := 69) e_r13 dX8_steer_66 wF_8_7 ?_
                    refine V_bipush (v := 42) (pc2 := 71) dX8_steer_69 (by decide) ?_
                    refine V_iconst (v := 3) (pc2 := 72) dX8_steer_71 (by decide) ?_
                    refine V_iload (pc2 := 74) dX8_steer_72 4 rfl ?_
                    refine V_imul (pc2 := 75) dX8_steer_74 ?_
                    refine V_iadd (pc2 := 76) dX8_steer_75 ?_
                    refine V_iconst (v := 2) (pc2 := 77) dX8_steer_76 (by decide) ?_
                    obtain ⟨m14, e_m14, h⟩ := bS h
                    refine V_stI (pc2 := 78) e_m14 dX8_steer_77 ?_
                    refine V_iinc (pc2 := 81) (v := y9 + (1 : Int32)) (L2 := [(6, .int (y9 + (1 : Int32))), (0, .ref a0), (1, .int p0), (2, .int p1), (4, .int y5)]) dX8_steer_78 4 rfl (by rfl) ?_ rfl rfl
                    refine V_goto (tgt := 54) dX8_steer_81 ?_
                    have ee := inj1 h
                    subst ee
                    exact V_lv (ih _ _ (loopF_c ho)) [1, 2, 3, 4, 0] rfl
              exact V_lv (key54 _ _ _ hl) [2, 3, 4, 6, 0] rfl
      exact V_lv (key34 _ _ _ _ hl) [2, 3, 4, 1, 0] rfl
    · replace h := iF c17 h
      refine V_ldc (v := -1000000001) (pc2 := 22) dX8_steer_20 wconstant_8_72 ?_
      obtain ⟨e1, e2⟩ := inj2 h
      subst e1
      subst e2
      exact V_iret dX8_steer_22 rfl ⟨rfl, rfl⟩
noncomputable def fX8_pays_b0 (a0 : Nat) (p0 : Int32) (p1 : Int32) : Int32 × Int32 × Int32 × Mem → Option ((Int32 × Int32 × Int32 × Mem) ⊕ (Int32 × Int32 × Mem)) := fun (y5, y6, y7, m8) =>
  if (9 : Int32) < y7 then
    some (.inr (y5, y6, m8))
  else
    (gR m8 a0 8 0).bind fun r9 =>
    (stI m8 r9 ((12 : Int32) + ((3 : Int32) * p0)) y7).bind fun m10 =>
    (cV m10 a0 8 (fX8_goesMany a0 p1 m10)).bind fun (x11, m12) =>
    (cV m12 a0 8 (fX8_own a0 p0 (1 : Int32) m12)).bind fun x13 =>
    (cV m12 a0 8 (fX8_laysBack a0 m12)).bind fun m14 =>
    (
      if x13 ≤ y6 then
        some (y5, y6)
      else
        some (y7, x13)).bind fun (y15, y16) =>
    some (.inl (y15, y16, y7 + (1 : Int32), m14))
noncomputable def fX8_pays (a0 : Nat) (p0 : Int32) (p1 : Int32) (p2 : Int32) (m : Mem) : Option (Int32 × Mem) :=
  (cV m a0 8 (fX8_isChild a0 p0 m)).bind fun b1 =>
  if b1 = true then
    (fX8_isIn p1.toInt64 (1 : Int64) (60 : Int64) m).bind fun b2 =>
    if b2 = true then
      (fX8_isIn p2.toInt64 (0 : Int64) (1 : Int64) m).bind fun b3 =>
      if b3 = true then
        (cV m a0 8 (fX8_laysBy a0 m)).bind fun m4 =>
        (loopF (fX8_pays_b0 a0 p0 p1) bigN ((0 : Int32), (-1 : Int32), (1 : Int32), m4)).bind fun (y17, y18, m19) =>
        if p2 = 0 then
          some (y17, m19)
        else
          some (y18, m19)
      else
        some ((-1000000001 : Int32), m)
    else
      some ((-1000000001 : Int32), m)
  else
    some ((-1000000001 : Int32), m)
set_option maxRecDepth 20000 in
theorem tX8_pays {D : Dat} {a0 : Nat} {p0 : Int32} {p1 : Int32} {p2 : Int32} {m : Mem} {rR : Int32} {mR : Mem} (h : fX8_pays a0 p0 p1 p2 m = some (rR, mR)) : T D 8 IX8_pays [.ref a0, .int p0, .int p1, .int p2] m 0 0 (Qi rR mR) := by
  refine T_of_V (by decide) (Nat.le_of_ble_eq_true rfl) ?_
  show V D 8 IX8_pays 0 [(0, .ref a0), (1, .int p0), (2, .int p1), (3, .int p2)] [] m 0 0 (Qi rR mR)
  unfold fX8_pays at h
  refine V_aload_n (pc2 := 1) dX8_pays_0 0 rfl rfl ?_
  refine V_iload_n (pc2 := 2) dX8_pays_1 1 rfl rfl ?_
  obtain ⟨b1, e_b1, h⟩ := bS h
  obtain ⟨⟨fs_b1, o_b1⟩, e_b1⟩ := cV_of e_b1
  refine V_cVi (pc2 := 5) [.int p0] (st := []) o_b1 (tX8_isChild e_b1) dX8_pays_2 wV_8_95 (by decide) rfl (Nat.le_of_ble_eq_true rfl) ?_
  refine V_ifb_eq (pc2 := 8) (tgt := 30) dX8_pays_5 (fun c5 => ?_) (fun c5 => ?_)
  · replace h := iF c5 h
    refine V_ldc (v := -1000000001) (pc2 := 32) dX8_pays_30 wconstant_8_72 ?_
    obtain ⟨e1, e2⟩ := inj2 h
    subst e1
    subst e2
    exact V_iret dX8_pays_32 rfl ⟨rfl, rfl⟩
  · replace h := iT c5 h
    refine V_iload_n (pc2 := 9) dX8_pays_8 2 rfl rfl ?_
    refine V_i2l (pc2 := 10) dX8_pays_9 rfl ?_
    refine V_lconst (v := 1) (pc2 := 11) dX8_pays_10 (by decide) ?_
    refine V_ldc2 (v := 60) (pc2 := 14) dX8_pays_11 wconstantLong_8_193 ?_
    obtain ⟨b2, e_b2, h⟩ := bS h
    refine V_cSi (pc2 := 17) [.long p1.toInt64, .long (1 : Int64), .long (60 : Int64)] (st := []) (tX8_isIn e_b2) dX8_pays_14 wS_8_65 (by decide) rfl (Nat.le_of_ble_eq_true rfl) ?_
    refine V_ifb_eq (pc2 := 20) (tgt := 30) dX8_pays_17 (fun c17 => ?_) (fun c17 => ?_)
    · replace h := iF c17 h
      refine V_ldc (v := -1000000001) (pc2 := 32) dX8_pays_30 wconstant_8_72 ?_
      obtain ⟨e1, e2⟩ := inj2 h
      subst e1
      subst e2
      exact V_iret dX8_pays_32 rfl ⟨rfl, rfl⟩
    · replace h := iT c17 h
      refine V_iload_n (pc2 := 21) dX8_pays_20 3 rfl rfl ?_
      refine V_i2l (pc2 := 22) dX8_pays_21 rfl ?_
      refine V_lconst (v := 0) (pc2 := 23) dX8_pays_22 (by decide) ?_
      refine V_lconst (v := 1) (pc2 := 24) dX8_pays_23 (by decide) ?_
      obtain ⟨b3, e_b3, h⟩ := bS h
      refine V_cSi (pc2 := 27) [.long p2.toInt64, .long (0 : Int64), .long (1 : Int64)] (st := []) (tX8_isIn e_b3) dX8_pays_24 wS_8_65 (by decide) rfl (Nat.le_of_ble_eq_true rfl) ?_
      refine V_ifb_ne (pc2 := 30) (tgt := 33) dX8_pays_27 (fun c27 => ?_) (fun c27 => ?_)
      · replace h := iT c27 h
        refine V_aload_n (pc2 := 34) dX8_pays_33 0 rfl rfl ?_
        obtain ⟨m4, e_m4, h⟩ := bS h
        obtain ⟨⟨fs_m4, o_m4⟩, e_m4⟩ := cV_of e_m4
        refine V_cVv (pc2 := 37) [] (st := []) o_m4 (tX8_laysBy e_m4) dX8_pays_34 wV_8_176 (by decide) rfl (Nat.le_of_ble_eq_true rfl) ?_
        refine V_iconst (v := 0) (pc2 := 38) dX8_pays_37 (by decide) ?_
        refine V_istore (pc2 := 40) (L2 := [(4, .int (0 : Int32)), (0, .ref a0), (1, .int p0), (2, .int p1), (3, .int p2)]) dX8_pays_38 ?_ rfl rfl
        refine V_iconst (v := -1) (pc2 := 41) dX8_pays_40 (by decide) ?_
        refine V_istore (pc2 := 43) (L2 := [(5, .int (-1 : Int32)), (4, .int (0 : Int32)), (0, .ref a0), (1, .int p0), (2, .int p1), (3, .int p2)]) dX8_pays_41 ?_ rfl rfl
        refine V_iconst (v := 1) (pc2 := 44) dX8_pays_43 (by decide) ?_
        refine V_istore (pc2 := 46) (L2 := [(6, .int (1 : Int32)), (5, .int (-1 : Int32)), (4, .int (0 : Int32)), (0, .ref a0), (1, .int p0), (2, .int p1), (3, .int p2)]) dX8_pays_44 ?_ rfl rfl
        obtain ⟨⟨y17, y18, m19⟩, hl, h⟩ := bS h
        try dsimp only at h
        have hJ106 : V D 8 IX8_pays 106 [(3, .int p2), (4, .int y17), (5, .int y18)] [] m19 0 0 (Qi rR mR) := by
          refine V_iload_n (pc2 := 107) dX8_pays_106 0 rfl rfl ?_
          refine V_if_ne (pc2 := 110) (tgt := 115) dX8_pays_107 (fun c107 => ?_) (fun c107 => ?_)
          · replace h := iF c107 h
            refine V_iload (pc2 := 117) dX8_pays_115 2 rfl ?_
            obtain ⟨e1, e2⟩ := inj2 h
            subst e1
            subst e2
            exact V_iret dX8_pays_117 rfl ⟨rfl, rfl⟩
          · replace h := iT c107 h
            refine V_iload (pc2 := 112) dX8_pays_110 1 rfl ?_
            refine V_goto (tgt := 117) dX8_pays_112 ?_
            obtain ⟨e1, e2⟩ := inj2 h
            subst e1
            subst e2
            exact V_iret dX8_pays_117 rfl ⟨rfl, rfl⟩
        clear h
        have key46 : ∀ (n : Nat) (y5 : Int32) (y6 : Int32) (y7 : Int32) (m8 : Mem), loopF (fX8_pays_b0 a0 p0 p1) n (y5, y6, y7, m8) = some (y17, y18, m19) → V D 8 IX8_pays 46 [(0, .ref a0), (1, .int p0), (2, .int p1), (3, .int p2), (4, .int y5), (5, .int y6), (6, .int y7)] [] m8 0 0 (Qi rR mR) := by
          intro n
          induction n with
          | zero => intro y5 y6 y7 m8 h; cases h
          | succ n ih =>
            intro y5 y6 y7 m8 h
            obtain ⟨o, h, ho⟩ := loopF_inv h
            dsimp only [fX8_pays_b0] at h
            refine V_iload (pc2 := 48) dX8_pays_46 6 rfl ?_
            refine V_bipush (v := 9) (pc2 := 50) dX8_pays_48 (by decide) ?_
            refine V_icmp_gt (pc2 := 53) (tgt := 106) dX8_pays_50 (fun c50 => ?_) (fun c50 => ?_)
            · replace h := iT c50 h
              have ee := inj1 h
              subst ee
              obtain ⟨e1, e2, e3⟩ := pinj3 (loopF_e ho)
              subst e1
              subst e2
              subst e3
              exact V_lv hJ106 [3, 4, 5] rfl
            · replace h := iF c50 h
              refine V_aload_n (pc2 := 54) dX8_pays_53 0 rfl rfl ?_
              obtain ⟨r9, e_r9, h⟩ := bS h
              refine V_gR (pc2 := 57) e_r9 dX8_pays_54 wF_8_7 ?_
              refine V_bipush (v := 12) (pc2 := 59) dX8_pays_57 (by decide) ?_
              refine V_iconst (v := 3) (pc2 := 60) dX8_pays_59 (by decide) ?_
              refine V_iload_n (pc2 := 61) dX8_pays_60 1 rfl rfl ?_
              refine V_imul (pc2 := 62) dX8_pays_61 ?_
              refine V_iadd (pc2 := 63) dX8_pays_62 ?_
              refine V_iload (pc2 := 65) dX8_pays_63 6 rfl ?_
              obtain ⟨m10, e_m10, h⟩ := bS h
              refine V_stI (pc2 := 66) e_m10 dX8_pays_65 ?_
              refine V_aload_n (pc2 := 67) dX8_pays_66 0 rfl rfl ?_
              refine V_iload_n (pc2 := 68) dX8_pays_67 2 rfl rfl ?_
              obtain ⟨⟨x11, m12⟩, e_x11, h⟩ := bS h
              try dsimp only at h
              obtain ⟨⟨fs_x11, o_x11⟩, e_x11⟩ := cV_of e_x11
              refine V_cVi (pc2 := 71) [.int p1] (st := []) o_x11 (tX8_goesMany e_x11) dX8_pays_68 wV_8_179 (by decide) rfl (Nat.le_of_ble_eq_true rfl) ?_
              refine V_istore (pc2 := 73) (L2 := [(7, .int x11), (0, .ref a0), (1, .int p0), (2, .int p1), (3, .int p2), (4, .int y5), (5, .int y6), (6, .int y7)]) dX8_pays_71 ?_ rfl rfl
              refine V_aload_n (pc2 := 74) dX8_pays_73 1 rfl rfl ?_
              refine V_iload_n (pc2 := 75) dX8_pays_74 2 rfl rfl ?_
              refine V_iconst (v := 1) (pc2 := 76) dX8_pays_75 (by decide) ?_
              obtain ⟨x13, e_x13, h⟩ := bS h
              obtain ⟨⟨fs_x13, o_x13⟩, e_x13⟩ := cV_of e_x13
              refine V_cVi (pc2 := 79) [.int p0, .int (1 : Int32)] (st := []) o_x13 (tX8_own e_x13) dX8_pays_76 wV_8_74 (by decide) rfl (Nat.le_of_ble_eq_true rfl) ?_
              refine V_istore (pc2 := 81) (L2 := [(8, .int x13), (7, .int x11), (0, .ref a0), (1, .int p0), (2, .int p1), (3, .int p2), (4, .int y5), (5, .int y6), (6, .int y7)]) dX8_pays_79 ?_ rfl rfl
              refine V_aload_n (pc2 := 82) dX8_pays_81 2 rfl rfl ?_
              obtain ⟨m14, e_m14, h⟩ := bS h
              obtain ⟨⟨fs_m14, o_m14⟩, e_m14⟩ := cV_of e_m14
              refine V_cVv (pc2 := 85) [] (st := []) o_m14 (tX8_laysBack e_m14) dX8_pays_82 wV_8_188 (by decide) rfl (Nat.le_of_ble_eq_true rfl) ?_
              refine V_iload (pc2 := 87) dX8_pays_85 0 rfl ?_
              refine V_iload (pc2 := 89) dX8_pays_87 7 rfl ?_
              obtain ⟨⟨y15, y16⟩, hb, h⟩ := bS h
              try dsimp only at h
              have hJ100 : V D 8 IX8_pays 100 [(0, .ref a0), (1, .int p0), (2, .int p1), (3, .int p2), (4, .int y15), (5, .int y16), (6, .int y7)] [] m14 0 0 (Qi rR mR) := by
                refine V_iinc (pc2 := 103) (v := y7 + (1 : Int32)) (L2 := [(6, .int (y7 + (1 : Int32))), (0, .ref a0), (1, .int p0), (2, .int p1), (3, .int p2), (4, .int y15), (5, .int y16)]) dX8_pays_100 6 rfl (by rfl) ?_ rfl rfl
                refine V_goto (tgt := 46) dX8_pays_103 ?_
                have ee := inj1 h
                subst ee
                exact V_lv (ih _ _ _ _ (loopF_c ho)) [1, 2, 3, 4, 5, 6, 0] rfl
              clear h
              have h := hb
              clear hb
              refine V_icmp_le (pc2 := 92) (tgt := 100) dX8_pays_89 (fun c89 => ?_) (fun c89 => ?_)
              · replace h := iT c89 h
                obtain ⟨e1, e2⟩ := inj2 h
                subst e1
                subst e2
                exact V_lv hJ100 [2, 3, 4, 5, 6, 7, 8] rfl
              · replace h := iF c89 h
                refine V_iload (pc2 := 94) dX8_pays_92 8 rfl ?_
                refine V_istore (pc2 := 96) (L2 := [(4, .int y7), (8, .int x13), (7, .int x11), (0, .ref a0), (1, .int p0), (2, .int p1), (3, .int p2), (5, .int y6), (6, .int y7)]) dX8_pays_94 ?_ rfl rfl
                refine V_iload (pc2 := 98) dX8_pays_96 1 rfl ?_
                refine V_istore (pc2 := 100) (L2 := [(5, .int x13), (4, .int y7), (8, .int x13), (7, .int x11), (0, .ref a0), (1, .int p0), (2, .int p1), (3, .int p2), (6, .int y7)]) dX8_pays_98 ?_ rfl rfl
                obtain ⟨e1, e2⟩ := inj2 h
                subst e1
                subst e2
                exact V_lv hJ100 [4, 5, 6, 7, 1, 0, 8] rfl
        exact V_lv (key46 _ _ _ _ _ hl) [3, 4, 5, 6, 2, 1, 0] rfl
      · replace h := iF c27 h
        refine V_ldc (v := -1000000001) (pc2 := 32) dX8_pays_30 wconstant_8_72 ?_
        obtain ⟨e1, e2⟩ := inj2 h
        subst e1
        subst e2
        exact V_iret dX8_pays_32 rfl ⟨rfl, rfl⟩
noncomputable def fX8_worst_b0 (a0 : Nat) (p0 : Int32) : Int32 × Int32 × Int32 × Mem → Option ((Int32 × Int32 × Int32 × Mem) ⊕ (Int32 × Int32 × Mem)) := fun (y4, y5, y6, m7) =>
  (gR m7 a0 8 0).bind fun r8 =>
  (ldI m7 r8 (2 : Int32)).bind fun x9 =>
  if x9 ≤ y6 then
    some (.inr (y4, y5, m7))
  else
    (gR m7 a0 8 0).bind fun r10 =>
    (stI m7 r10 ((72 : Int32) + y6) (2 : Int32)).bind fun m11 =>
    (cV m11 a0 8 (fX8_goesMany a0 p0 m11)).bind fun (x12, m13) =>
    (cV m13 a0 8 (fX8_spread a0 m13)).bind fun x14 =>
    (cV m13 a0 8 (fX8_laysBack a0 m13)).bind fun m15 =>
    (
      if y4 < 0 then
        some (y6, x14)
      else
        if y5 ≤ x14 then
          some (y4, y5)
        else
          some (y6, x14)).bind fun (y16, y17) =>
    some (.inl (y16, y17, y6 + (1 : Int32), m15))
noncomputable def fX8_worst (a0 : Nat) (p0 : Int32) (p1 : Int32) (m : Mem) : Option (Int32 × Mem) :=
  (fX8_isIn p0.toInt64 (1 : Int64) (60 : Int64) m).bind fun b1 =>
  if b1 = true then
    (fX8_isIn p1.toInt64 (0 : Int64) (1 : Int64) m).bind fun b2 =>
    if b2 = true then
      (cV m a0 8 (fX8_laysBy a0 m)).bind fun m3 =>
      (loopF (fX8_worst_b0 a0 p0) bigN ((-1 : Int32), (0 : Int32), (0 : Int32), m3)).bind fun (y18, y19, m20) =>
      if 0 ≤ y18 then
        if p1 = 0 then
          some (y18, m20)
        else
          some (y19, m20)
      else
        some ((-1000000005 : Int32), m20)
    else
      some ((-1000000001 : Int32), m)
  else
    some ((-1000000001 : Int32), m)
set_option maxRecDepth 20000 in
theorem tX8_worst {D : Dat} {a0 : Nat} {p0 : Int32} {p1 : Int32} {m : Mem} {rR : Int32} {mR : Mem} (h : fX8_worst a0 p0 p1 m = some (rR, mR)) : T D 8 IX8_worst [.ref a0, .int p0, .int p1] m 0 0 (Qi rR mR) := by
  refine T_of_V (by decide) (Nat.le_of_ble_eq_true rfl) ?_
  show V D 8 IX8_worst 0 [(0, .ref a0), (1, .int p0), (2, .int p1)] [] m 0 0 (Qi rR mR)
  unfold fX8_worst at h
  refine V_iload_n (pc2 := 1) dX8_worst_0 1 rfl rfl ?_
  refine V_i2l (pc2 := 2) dX8_worst_1 rfl ?_
  refine V_lconst (v := 1) (pc2 := 3) dX8_worst_2 (by decide) ?_
  refine V_ldc2 (v := 60) (pc2 := 6) dX8_worst_3 wconstantLong_8_193 ?_
  obtain ⟨b1, e_b1, h⟩ := bS h
  refine V_cSi (pc2 := 9) [.long p0.toInt64, .long (1 : Int64), .long (60 : Int64)] (st := []) (tX8_isIn e_b1) dX8_worst_6 wS_8_65 (by decide) rfl (Nat.le_of_ble_eq_true rfl) ?_
  refine V_ifb_eq (pc2 := 12) (tgt := 22) dX8_worst_9 (fun c9 => ?_) (fun c9 => ?_)
  · replace h := iF c9 h
    refine V_ldc (v := -1000000001) (pc2 := 24) dX8_worst_22 wconstant_8_72 ?_
    obtain ⟨e1, e2⟩ := inj2 h
    subst e1
    subst e2
    exact V_iret dX8_worst_24 rfl ⟨rfl, rfl⟩
  · replace h := iT c9 h
    refine V_iload_n (pc2 := 13) dX8_worst_12 2 rfl rfl ?_
    refine V_i2l (pc2 := 14) dX8_worst_13 rfl ?_
    refine V_lconst (v := 0) (pc2 := 15) dX8_worst_14 (by decide) ?_
    refine V_lconst (v := 1) (pc2 := 16) dX8_worst_15 (by decide) ?_
    obtain ⟨b2, e_b2, h⟩ := bS h
    refine V_cSi (pc2 := 19) [.long p1.toInt64, .long (0 : Int64), .long (1 : Int64)] (st := []) (tX8_isIn e_b2) dX8_worst_16 wS_8_65 (by decide) rfl (Nat.le_of_ble_eq_true rfl) ?_
    refine V_ifb_ne (pc2 := 22) (tgt := 25) dX8_worst_19 (fun c19 => ?_) (fun c19 => ?_)
    · replace h := iT c19 h
      refine V_aload_n (pc2 := 26) dX8_worst_25 0 rfl rfl ?_
      obtain ⟨m3, e_m3, h⟩ := bS h
      obtain ⟨⟨fs_m3, o_m3⟩, e_m3⟩ := cV_of e_m3
      refine V_cVv (pc2 := 29) [] (st := []) o_m3 (tX8_laysBy e_m3) dX8_worst_26 wV_8_176 (by decide) rfl (Nat.le_of_ble_eq_true rfl) ?_
      refine V_iconst (v := -1) (pc2 := 30) dX8_worst_29 (by decide) ?_
      refine V_istore_n (pc2 := 31) (L2 := [(3, .int (-1 : Int32)), (0, .ref a0), (1, .int p0), (2, .int p1)]) dX8_worst_30 ?_ rfl rfl rfl
      refine V_iconst (v := 0) (pc2 := 32) dX8_worst_31 (by decide) ?_
      refine V_istore (pc2 := 34) (L2 := [(4, .int (0 : Int32)), (3, .int (-1 : Int32)), (0, .ref a0), (1, .int p0), (2, .int p1)]) dX8_worst_32 ?_ rfl rfl
      refine V_iconst (v := 0) (pc2 := 35) dX8_worst_34 (by decide) ?_
      refine V_istore (pc2 := 37) (L2 := [(5, .int (0 : Int32)), (4, .int (0 : Int32)), (3, .int (-1 : Int32)), (0, .ref a0), (1, .int p0), (2, .int p1)]) dX8_worst_35 ?_ rfl rfl
      obtain ⟨⟨y18, y19, m20⟩, hl, h⟩ := bS h
      try dsimp only at h
      have hJ100 : V D 8 IX8_worst 100 [(2, .int p1), (3, .int y18), (4, .int y19)] [] m20 0 0 (Qi rR mR) := by
        refine V_iload_n (pc2 := 101) dX8_worst_100 1 rfl rfl ?_
        refine V_if_ge (pc2 := 104) (tgt := 109) dX8_worst_101 (fun c101 => ?_) (fun c101 => ?_)
        · replace h := iT c101 h
          refine V_iload_n (pc2 := 110) dX8_worst_109 0 rfl rfl ?_
          refine V_if_ne (pc2 := 113) (tgt := 117) dX8_worst_110 (fun c110 => ?_) (fun c110 => ?_)
          · replace h := iF c110 h
            refine V_iload (pc2 := 119) dX8_worst_117 2 rfl ?_
            obtain ⟨e1, e2⟩ := inj2 h
            subst e1
            subst e2
            exact V_iret dX8_worst_119 rfl ⟨rfl, rfl⟩
          · replace h := iT c110 h
            refine V_iload_n (pc2 := 114) dX8_worst_113 1 rfl rfl ?_
            refine V_goto (tgt := 119) dX8_worst_114 ?_
            obtain ⟨e1, e2⟩ := inj2 h
            subst e1
            subst e2
            exact V_iret dX8_worst_119 rfl ⟨rfl, rfl⟩
        · replace h := iF c101 h
          refine V_ldc (v := -1000000005) (pc2 := 106) dX8_worst_104 wconstant_8_64 ?_
          refine V_goto (tgt := 119) dX8_worst_106 ?_
          obtain ⟨e1, e2⟩ := inj2 h
          subst e1
          subst e2
          exact V_iret dX8_worst_119 rfl ⟨rfl, rfl⟩
      clear h
      have key37 : ∀ (n : Nat) (y4 : Int32) (y5 : Int32) (y6 : Int32) (m7 : Mem), loopF (fX8_worst_b0 a0 p0) n (y4, y5, y6, m7) = some (y18, y19, m20) → V D 8 IX8_worst 37 [(0, .ref a0), (1, .int p0), (2, .int p1), (3, .int y4), (4, .int y5), (5, .int y6)] [] m7 0 0 (Qi rR mR) := by
        intro n
        induction n with
        | zero => intro y4 y5 y6 m7 h; cases h
        | succ n ih =>
          intro y4 y5 y6 m7 h
          obtain ⟨o, h, ho⟩ := loopF_inv h
          dsimp only [fX8_worst_b0] at h
          refine V_iload (pc2 := 39) dX8_worst_37 5 rfl ?_
          refine V_aload_n (pc2 := 40) dX8_worst_39 0 rfl rfl ?_
          obtain ⟨r8, e_r8, h⟩ := bS h
          refine V_gR (pc2 := 43) e_r8 dX8_worst_40 wF_8_7 ?_
          refine V_iconst (v := 2) (pc2 := 44) dX8_worst_43 (by decide) ?_
          obtain ⟨x9, e_x9, h⟩ := bS h
          refine V_ldI (pc2 := 45) e_x9 dX8_worst_44 ?_
          refine V_icmp_ge (pc2 := 48) (tgt := 100) dX8_worst_45 (fun c45 => ?_) (fun c45 => ?_)
          · replace h := iT c45 h
            have ee := inj1 h
            subst ee
            obtain ⟨e1, e2, e3⟩ := pinj3 (loopF_e ho)
            subst e1
            subst e2
            subst e3
            exact V_lv hJ100 [2, 3, 4] rfl
          · replace h := iF c45 h
            refine V_aload_n (pc2 := 49) dX8_worst_48 0 rfl rfl ?_
            obtain ⟨r10, e_r10, h⟩ := bS h
            refine V_gR (pc2 := 52) e_r10 dX8_worst_49 wF_8_7 ?_
            refine V_bipush (v := 72) (pc2 := 54) dX8_worst_52 (by decide) ?_
            refine V_iload (pc2 := 56) dX8_worst_54 5 rfl ?_
            refine V_iadd (pc2 := 57) dX8_worst_56 ?_
            refine V_iconst (v := 2) (pc2 := 58) dX8_worst_57 (by decide) ?_
            obtain ⟨m11, e_m11, h⟩ := bS h
            refine V_stI (pc2 := 59) e_m11 dX8_worst_58 ?_
            refine V_aload_n (pc2 := 60) dX8_worst_59 0 rfl rfl ?_
            refine V_iload_n (pc2 := 61) dX8_worst_60 1 rfl rfl ?_
            obtain ⟨⟨x12, m13⟩, e_x12, h⟩ := bS h
            try dsimp only at h
            obtain ⟨⟨fs_x12, o_x12⟩, e_x12⟩ := cV_of e_x12
            refine V_cVi (pc2 := 64) [.int p0] (st := []) o_x12 (tX8_goesMany e_x12) dX8_worst_61 wV_8_179 (by decide) rfl (Nat.le_of_ble_eq_true rfl) ?_
            refine V_istore (pc2 := 66) (L2 := [(6, .int x12), (0, .ref a0), (1, .int p0), (2, .int p1), (3, .int y4), (4, .int y5), (5, .int y6)]) dX8_worst_64 ?_ rfl rfl
            refine V_aload_n (pc2 := 67) dX8_worst_66 1 rfl rfl ?_
            obtain ⟨x14, e_x14, h⟩ := bS h
            obtain ⟨⟨fs_x14, o_x14⟩, e_x14⟩ := cV_of e_x14
            refine V_cVi (pc2 := 70) [] (st := []) o_x14 (tX8_spread e_x14) dX8_worst_67 wV_8_182 (by decide) rfl (Nat.le_of_ble_eq_true rfl) ?_
            refine V_istore (pc2 := 72) (L2 := [(7, .int x14), (6, .int x12), (0, .ref a0), (1, .int p0), (2, .int p1), (3, .int y4), (4, .int y5), (5, .int y6)]) dX8_worst_70 ?_ rfl rfl
            refine V_aload_n (pc2 := 73) dX8_worst_72 2 rfl rfl ?_
            obtain ⟨m15, e_m15, h⟩ := bS h
            obtain ⟨⟨fs_m15, o_m15⟩, e_m15⟩ := cV_of e_m15
            refine V_cVv (pc2 := 76) [] (st := []) o_m15 (tX8_laysBack e_m15) dX8_worst_73 wV_8_188 (by decide) rfl (Nat.le_of_ble_eq_true rfl) ?_
            refine V_iload_n (pc2 := 77) dX8_worst_76 5 rfl rfl ?_
            obtain ⟨⟨y16, y17⟩, hb, h⟩ := bS h
            try dsimp only at h
            have hJ94 : V D 8 IX8_worst 94 [(0, .ref a0), (1, .int p0), (2, .int p1), (3, .int y16), (4, .int y17), (5, .int y6)] [] m15 0 0 (Qi rR mR) := by
              refine V_iinc (pc2 := 97) (v := y6 + (1 : Int32)) (L2 := [(5, .int (y6 + (1 : Int32))), (0, .ref a0), (1, .int p0), (2, .int p1), (3, .int y16), (4, .int y17)]) dX8_worst_94 5 rfl (by rfl) ?_ rfl rfl
              refine V_goto (tgt := 37) dX8_worst_97 ?_
              have ee := inj1 h
              subst ee
              exact V_lv (ih _ _ _ _ (loopF_c ho)) [1, 2, 3, 4, 5, 0] rfl
            clear h
            have h := hb
            clear hb
            refine V_if_lt (pc2 := 80) (tgt := 87) dX8_worst_77 (fun c77 => ?_) (fun c77 => ?_)
            · replace h := iT c77 h
              refine V_iload (pc2 := 89) dX8_worst_87 7 rfl ?_
              refine V_istore_n (pc2 := 90) (L2 := [(3, .int y6), (7, .int x14), (6, .int x12), (0, .ref a0), (1, .int p0), (2, .int p1), (4, .int y5), (5, .int y6)]) dX8_worst_89 ?_ rfl rfl rfl
              refine V_iload (pc2 := 92) dX8_worst_90 1 rfl ?_
              refine V_istore (pc2 := 94) (L2 := [(4, .int x14), (3, .int y6), (7, .int x14), (6, .int x12), (0, .ref a0), (1, .int p0), (2, .int p1), (5, .int y6)]) dX8_worst_92 ?_ rfl rfl
              obtain ⟨e1, e2⟩ := inj2 h
              subst e1
              subst e2
              exact V_lv hJ94 [4, 5, 6, 1, 0, 7] rfl
            · replace h := iF c77 h
              refine V_iload (pc2 := 82) dX8_worst_80 0 rfl ?_
              refine V_iload (pc2 := 84) dX8_worst_82 6 rfl ?_
              refine V_icmp_ge (pc2 := 87) (tgt := 94) dX8_worst_84 (fun c84 => ?_) (fun c84 => ?_)
              · replace h := iT c84 h
                obtain ⟨e1, e2⟩ := inj2 h
                subst e1
                subst e2
                exact V_lv hJ94 [2, 3, 4, 5, 6, 7] rfl
              · replace h := iF c84 h
                refine V_iload (pc2 := 89) dX8_worst_87 7 rfl ?_
                refine V_istore_n (pc2 := 90) (L2 := [(3, .int y6), (7, .int x14), (6, .int x12), (0, .ref a0), (1, .int p0), (2, .int p1), (4, .int y5), (5, .int y6)]) dX8_worst_89 ?_ rfl rfl rfl
                refine V_iload (pc2 := 92) dX8_worst_90 1 rfl ?_
                refine V_istore (pc2 := 94) (L2 := [(4, .int x14), (3, .int y6), (7, .int x14), (6, .int x12), (0, .ref a0), (1, .int p0), (2, .int p1), (5, .int y6)]) dX8_worst_92 ?_ rfl rfl
                obtain ⟨e1, e2⟩ := inj2 h
                subst e1
                subst e2
                exact V_lv hJ94 [4, 5, 6, 1, 0, 7] rfl
      exact V_lv (key37 _ _ _ _ _ hl) [3, 4, 5, 2, 1, 0] rfl
    · replace h := iF c19 h
      refine V_ldc (v := -1000000001) (pc2 := 24) dX8_worst_22 wconstant_8_72 ?_
      obtain ⟨e1, e2⟩ := inj2 h
      subst e1
      subst e2
      exact V_iret dX8_worst_24 rfl ⟨rfl, rfl⟩
noncomputable def fX8_fine (a0 : Nat) (p0 : Int32) (m : Mem) : Option (Int32 × Mem) :=
  (cV m a0 8 (fX8_isChild a0 p0 m)).bind fun b1 =>
  if b1 = true then
    (cV m a0 8 (fX8_counts a0 (2 : Int32) m)).bind fun x2 =>
    if 0 ≤ x2 then
      (gR m a0 8 25).bind fun r3 =>
      (cV m a0 8 (fX8_own a0 p0 (1 : Int32) m)).bind fun x4 =>
      (stI m r3 (97 : Int32) x4).bind fun m5 =>
      (gR m5 a0 8 25).bind fun r6 =>
      (gR m5 a0 8 0).bind fun r7 =>
      (ldI m5 r7 (4 : Int32)).bind fun x8 =>
      (stI m5 r6 (112 : Int32) x8).bind fun m9 =>
      (cV m9 a0 8 (fX8_worked a0 x2 m9)).bind fun (x10, m11) =>
      some (x10, m11)
    else
      (cV m a0 8 (fX8_own a0 p0 (1 : Int32) m)).bind fun x12 =>
      some (x12, m)
  else
    some ((-1000000001 : Int32), m)
set_option maxRecDepth 20000 in
theorem tX8_fine {D : Dat} {a0 : Nat} {p0 : Int32} {m : Mem} {rR : Int32} {mR : Mem} (h : fX8_fine a0 p0 m = some (rR, mR)) : T D 2 IX8_fine [.ref a0, .int p0] m 0 0 (Qi rR mR) := by
  refine T_of_V (by decide) (Nat.le_of_ble_eq_true rfl) ?_
  show V D 2 IX8_fine 0 [(0, .ref a0), (1, .int p0)] [] m 0 0 (Qi rR mR)
  unfold fX8_fine at h
  refine V_aload_n (pc2 := 1) dX8_fine_0 0 rfl rfl ?_
  refine V_iload_n (pc2 := 2) dX8_fine_1 1 rfl rfl ?_
  obtain ⟨b1, e_b1, h⟩ := bS h
  obtain ⟨⟨fs_b1, o_b1⟩, e_b1⟩ := cV_of e_b1
  refine V_cVi (pc2 := 5) [.int p0] (st := []) o_b1 (tX8_isChild e_b1) dX8_fine_2 wV_8_95 (by decide) rfl (Nat.le_of_ble_eq_true rfl) ?_
  refine V_ifb_ne (pc2 := 8) (tgt := 11) dX8_fine_5 (fun c5 => ?_) (fun c5 => ?_)
  · replace h := iT c5 h
    refine V_aload_n (pc2 := 12) dX8_fine_11 0 rfl rfl ?_
    refine V_iconst (v := 2) (pc2 := 13) dX8_fine_12 (by decide) ?_
    obtain ⟨x2, e_x2, h⟩ := bS h
    obtain ⟨⟨fs_x2, o_x2⟩, e_x2⟩ := cV_of e_x2
    refine V_cVi (pc2 := 16) [.int (2 : Int32)] (st := []) o_x2 (tX8_counts e_x2) dX8_fine_13 wV_8_81 (by decide) rfl (Nat.le_of_ble_eq_true rfl) ?_
    refine V_istore_n (pc2 := 17) (L2 := [(2, .int x2), (0, .ref a0), (1, .int p0)]) dX8_fine_16 ?_ rfl rfl rfl
    refine V_iload_n (pc2 := 18) dX8_fine_17 0 rfl rfl ?_
    refine V_if_ge (pc2 := 21) (tgt := 28) dX8_fine_18 (fun c18 => ?_) (fun c18 => ?_)
    · replace h := iT c18 h
      refine V_aload_n (pc2 := 29) dX8_fine_28 1 rfl rfl ?_
      obtain ⟨r3, e_r3, h⟩ := bS h
      refine V_gR (pc2 := 32) e_r3 dX8_fine_29 wF_8_49 ?_
      refine V_bipush (v := 97) (pc2 := 34) dX8_fine_32 (by decide) ?_
      refine V_aload_n (pc2 := 35) dX8_fine_34 1 rfl rfl ?_
      refine V_iload_n (pc2 := 36) dX8_fine_35 2 rfl rfl ?_
      refine V_iconst (v := 1) (pc2 := 37) dX8_fine_36 (by decide) ?_
      obtain ⟨x4, e_x4, h⟩ := bS h
      obtain ⟨⟨fs_x4, o_x4⟩, e_x4⟩ := cV_of e_x4
      refine V_cVi (pc2 := 40) [.int p0, .int (1 : Int32)] (st := [.int (97 : Int32), .ref r3]) o_x4 (tX8_own e_x4) dX8_fine_37 wV_8_74 (by decide) rfl (Nat.le_of_ble_eq_true rfl) ?_
      obtain ⟨m5, e_m5, h⟩ := bS h
      refine V_stI (pc2 := 41) e_m5 dX8_fine_40 ?_
      refine V_aload_n (pc2 := 42) dX8_fine_41 1 rfl rfl ?_
      obtain ⟨r6, e_r6, h⟩ := bS h
      refine V_gR (pc2 := 45) e_r6 dX8_fine_42 wF_8_49 ?_
      refine V_bipush (v := 112) (pc2 := 47) dX8_fine_45 (by decide) ?_
      refine V_aload_n (pc2 := 48) dX8_fine_47 1 rfl rfl ?_
      obtain ⟨r7, e_r7, h⟩ := bS h
      refine V_gR (pc2 := 51) e_r7 dX8_fine_48 wF_8_7 ?_
      refine V_iconst (v := 4) (pc2 := 52) dX8_fine_51 (by decide) ?_
      obtain ⟨x8, e_x8, h⟩ := bS h
      refine V_ldI (pc2 := 53) e_x8 dX8_fine_52 ?_
      obtain ⟨m9, e_m9, h⟩ := bS h
      refine V_stI (pc2 := 54) e_m9 dX8_fine_53 ?_
      refine V_aload_n (pc2 := 55) dX8_fine_54 1 rfl rfl ?_
      refine V_iload_n (pc2 := 56) dX8_fine_55 0 rfl rfl ?_
      obtain ⟨⟨x10, m11⟩, e_x10, h⟩ := bS h
      try dsimp only at h
      obtain ⟨⟨fs_x10, o_x10⟩, e_x10⟩ := cV_of e_x10
      refine V_cVi (pc2 := 59) [.int x2] (st := []) o_x10 (tX8_worked e_x10) dX8_fine_56 wV_8_89 (by decide) rfl (Nat.le_of_ble_eq_true rfl) ?_
      obtain ⟨e1, e2⟩ := inj2 h
      subst e1
      subst e2
      exact V_iret dX8_fine_59 rfl ⟨rfl, rfl⟩
    · replace h := iF c18 h
      refine V_aload_n (pc2 := 22) dX8_fine_21 1 rfl rfl ?_
      refine V_iload_n (pc2 := 23) dX8_fine_22 2 rfl rfl ?_
      refine V_iconst (v := 1) (pc2 := 24) dX8_fine_23 (by decide) ?_
      obtain ⟨x12, e_x12, h⟩ := bS h
      obtain ⟨⟨fs_x12, o_x12⟩, e_x12⟩ := cV_of e_x12
      refine V_cVi (pc2 := 27) [.int p0, .int (1 : Int32)] (st := []) o_x12 (tX8_own e_x12) dX8_fine_24 wV_8_74 (by decide) rfl (Nat.le_of_ble_eq_true rfl) ?_
      obtain ⟨e1, e2⟩ := inj2 h
      subst e1
      subst e2
      exact V_iret dX8_fine_27 rfl ⟨rfl, rfl⟩
  · replace h := iF c5 h
    refine V_ldc (v := -1000000001) (pc2 := 10) dX8_fine_8 wconstant_8_72 ?_
    obtain ⟨e1, e2⟩ := inj2 h
    subst e1
    subst e2
    exact V_iret dX8_fine_10 rfl ⟨rfl, rfl⟩
noncomputable def fX8_feed_b0 (a0 : Nat) (p0 : Int32) (p1 : Int32) (p2 : Int32) : Int32 × Mem → Option ((Int32 × Mem) ⊕ Mem) := fun (y2, m3) =>
  if (12 : Int32) ≤ y2 then
    some (.inr m3)
  else
    (
      if (4 : Int32) ≤ y2 then
        if (8 : Int32) ≤ y2 then
          some p2
        else
          some p1
      else
        some p0).bind fun y4 =>
    (gR m3 a0 8 13).bind fun r5 =>
    (gI m3 a0 8 14).bind fun x6 =>
    (rmI y2 (4 : Int32)).bind fun x7 =>
    (stI m3 r5 x6 ((y4 >>> (((24 : Int32) - ((8 : Int32) * x7)) &&& 31)) &&& (255 : Int32))).bind fun m8 =>
    (gI m8 a0 8 14).bind fun x9 =>
    (pI m8 a0 8 14 (x9 + (1 : Int32))).bind fun m10 =>
    some (.inl (y2 + (1 : Int32), m10))
noncomputable def fX8_feed (a0 : Nat) (p0 : Int32) (p1 : Int32) (p2 : Int32) (m : Mem) : Option (Int32 × Mem) :=
  (gI m a0 8 14).bind fun x1 =>
  if (x1 + (12 : Int32)) ≤ (96 : Int32) then
    (loopF (fX8_feed_b0 a0 p0 p1 p2) bigN ((0 : Int32), m)).bind fun m11 =>
    (gI m11 a0 8 14).bind fun x12 =>
    some (x12, m11)
  else
    some ((-1000000003 : Int32), m)
set_option maxRecDepth 20000 in
theorem tX8_feed {D : Dat} {a0 : Nat} {p0 : Int32} {p1 : Int32} {p2 : Int32} {m : Mem} {rR : Int32} {mR : Mem} (h : fX8_feed a0 p0 p1 p2 m = some (rR, mR)) : T D 0 IX8_feed [.ref a0, .int p0, .int p1, .int p2] m 0 0 (Qi rR mR) := by
  refine T_of_V (by decide) (Nat.le_of_ble_eq_true rfl) ?_
  show V D 0 IX8_feed 0 [(0, .ref a0), (1, .int p0), (2, .int p1), (3, .int p2)] [] m 0 0 (Qi rR mR)
  unfold fX8_feed at h
  refine V_aload_n (pc2 := 1) dX8_feed_0 0 rfl rfl ?_
  obtain ⟨x1, e_x1, h⟩ := bS h
  refine V_gI (pc2 := 4) e_x1 dX8_feed_1 wF_8_195 ?_
  refine V_bipush (v := 12) (pc2 := 6) dX8_feed_4 (by decide) ?_
  refine V_iadd (pc2 := 7) dX8_feed_6 ?_
  refine V_bipush (v := 96) (pc2 := 9) dX8_feed_7 (by decide) ?_
  refine V_icmp_le (pc2 := 12) (tgt := 15) dX8_feed_9 (fun c9 => ?_) (fun c9 => ?_)
  · replace h := iT c9 h
    refine V_iconst (v := 0) (pc2 := 16) dX8_feed_15 (by decide) ?_
    refine V_istore (pc2 := 18) (L2 := [(4, .int (0 : Int32)), (0, .ref a0), (1, .int p0), (2, .int p1), (3, .int p2)]) dX8_feed_16 ?_ rfl rfl
    obtain ⟨m11, hl, h⟩ := bS h
    have hJ91 : V D 0 IX8_feed 91 [(0, .ref a0)] [] m11 0 0 (Qi rR mR) := by
      refine V_aload_n (pc2 := 92) dX8_feed_91 0 rfl rfl ?_
      obtain ⟨x12, e_x12, h⟩ := bS h
      refine V_gI (pc2 := 95) e_x12 dX8_feed_92 wF_8_195 ?_
      obtain ⟨e1, e2⟩ := inj2 h
      subst e1
      subst e2
      exact V_iret dX8_feed_95 rfl ⟨rfl, rfl⟩
    clear h
    have key18 : ∀ (n : Nat) (y2 : Int32) (m3 : Mem), loopF (fX8_feed_b0 a0 p0 p1 p2) n (y2, m3) = some m11 → V D 0 IX8_feed 18 [(0, .ref a0), (1, .int p0), (2, .int p1), (3, .int p2), (4, .int y2)] [] m3 0 0 (Qi rR mR) := by
      intro n
      induction n with
      | zero => intro y2 m3 h; cases h
      | succ n ih =>
        intro y2 m3 h
        obtain ⟨o, h, ho⟩ := loopF_inv h
        dsimp only [fX8_feed_b0] at h
        refine V_iload (pc2 := 20) dX8_feed_18 4 rfl ?_
        refine V_bipush (v := 12) (pc2 := 22) dX8_feed_20 (by decide) ?_
        refine V_icmp_ge (pc2 := 25) (tgt := 91) dX8_feed_22 (fun c22 => ?_) (fun c22 => ?_)
        · replace h := iT c22 h
          have ee := inj1 h
          subst ee
          have e1 := pinj1 (loopF_e ho)
          subst e1
          exact V_lv hJ91 [0] rfl
        · replace h := iF c22 h
          refine V_iload (pc2 := 27) dX8_feed_25 4 rfl ?_
          refine V_iconst (v := 4) (pc2 := 28) dX8_feed_27 (by decide) ?_
          obtain ⟨y4, hb, h⟩ := bS h
          have hJ47 : V D 0 IX8_feed 47 [(0, .ref a0), (1, .int p0), (2, .int p1), (3, .int p2), (4, .int y2)] [.int y4] m3 0 0 (Qi rR mR) := by
            refine V_istore (pc2 := 49) (L2 := [(5, .int y4), (0, .ref a0), (1, .int p0), (2, .int p1), (3, .int p2), (4, .int y2)]) dX8_feed_47 ?_ rfl rfl
            refine V_aload_n (pc2 := 50) dX8_feed_49 1 rfl rfl ?_
            obtain ⟨r5, e_r5, h⟩ := bS h
            refine V_gR (pc2 := 53) e_r5 dX8_feed_50 wF_8_46 ?_
            refine V_aload_n (pc2 := 54) dX8_feed_53 1 rfl rfl ?_
            obtain ⟨x6, e_x6, h⟩ := bS h
            refine V_gI (pc2 := 57) e_x6 dX8_feed_54 wF_8_195 ?_
            refine V_iload (pc2 := 59) dX8_feed_57 0 rfl ?_
            refine V_bipush (v := 24) (pc2 := 61) dX8_feed_59 (by decide) ?_
            refine V_bipush (v := 8) (pc2 := 63) dX8_feed_61 (by decide) ?_
            refine V_iload (pc2 := 65) dX8_feed_63 5 rfl ?_
            refine V_iconst (v := 4) (pc2 := 66) dX8_feed_65 (by decide) ?_
            obtain ⟨x7, e_x7, h⟩ := bS h
            refine V_rmI (pc2 := 67) e_x7 dX8_feed_66 ?_
            refine V_imul (pc2 := 68) dX8_feed_67 ?_
            refine V_isub (pc2 := 69) dX8_feed_68 ?_
            refine V_ishr (pc2 := 70) dX8_feed_69 ?_
            refine V_sipush (v := 255) (pc2 := 73) dX8_feed_70 (by decide) ?_
            refine V_iand (pc2 := 74) dX8_feed_73 ?_
            obtain ⟨m8, e_m8, h⟩ := bS h
            refine V_stI (pc2 := 75) e_m8 dX8_feed_74 ?_
            refine V_aload_n (pc2 := 76) dX8_feed_75 1 rfl rfl ?_
            refine V_dup (pc2 := 77) dX8_feed_76 rfl ?_
            obtain ⟨x9, e_x9, h⟩ := bS h
            refine V_gI (pc2 := 80) e_x9 dX8_feed_77 wF_8_195 ?_
            refine V_iconst (v := 1) (pc2 := 81) dX8_feed_80 (by decide) ?_
            refine V_iadd (pc2 := 82) dX8_feed_81 ?_
            obtain ⟨m10, e_m10, h⟩ := bS h
            refine V_pI (pc2 := 85) e_m10 dX8_feed_82 wP_8_195 rfl rfl ?_
            refine V_iinc (pc2 := 88) (v := y2 + (1 : Int32)) (L2 := [(4, .int (y2 + (1 : Int32))), (5, .int y4), (0, .ref a0), (1, .int p0), (2, .int p1), (3, .int p2)]) dX8_feed_85 5 rfl (by rfl) ?_ rfl rfl
            refine V_goto (tgt := 18) dX8_feed_88 ?_
            have ee := inj1 h
            subst ee
            exact V_lv (ih _ _ (loopF_c ho)) [2, 3, 4, 5, 0] rfl
          clear h
          have h := hb
          clear hb
          refine V_icmp_ge (pc2 := 31) (tgt := 35) dX8_feed_28 (fun c28 => ?_) (fun c28 => ?_)
          · replace h := iT c28 h
            refine V_iload (pc2 := 37) dX8_feed_35 4 rfl ?_
            refine V_bipush (v := 8) (pc2 := 39) dX8_feed_37 (by decide) ?_
            refine V_icmp_ge (pc2 := 42) (tgt := 46) dX8_feed_39 (fun c39 => ?_) (fun c39 => ?_)
            · replace h := iT c39 h
              refine V_iload_n (pc2 := 47) dX8_feed_46 3 rfl rfl ?_
              have e1 := inj1 h
              subst e1
              exact hJ47
            · replace h := iF c39 h
              refine V_iload_n (pc2 := 43) dX8_feed_42 2 rfl rfl ?_
              refine V_goto (tgt := 47) dX8_feed_43 ?_
              have e1 := inj1 h
              subst e1
              exact hJ47
          · replace h := iF c28 h
            refine V_iload_n (pc2 := 32) dX8_feed_31 1 rfl rfl ?_
            refine V_goto (tgt := 47) dX8_feed_32 ?_
            have e1 := inj1 h
            subst e1
            exact hJ47
    exact V_lv (key18 _ _ _ hl) [1, 2, 3, 4, 0] rfl
  · replace h := iF c9 h
    refine V_ldc (v := -1000000003) (pc2 := 14) dX8_feed_12 wconstant_8_73 ?_
    obtain ⟨e1, e2⟩ := inj2 h
    subst e1
    subst e2
    exact V_iret dX8_feed_14 rfl ⟨rfl, rfl⟩
noncomputable def fX8_trim (a0 : Nat) (p0 : Int32) (m : Mem) : Option (Int32 × Mem) :=
  (gI m a0 8 14).bind fun x1 =>
  (fX8_isIn p0.toInt64 (0 : Int64) x1.toInt64 m).bind fun b2 =>
  if b2 = true then
    (pI m a0 8 14 p0).bind fun m3 =>
    some (p0, m3)
  else
    some ((-1000000001 : Int32), m)
set_option maxRecDepth 20000 in
theorem tX8_trim {D : Dat} {a0 : Nat} {p0 : Int32} {m : Mem} {rR : Int32} {mR : Mem} (h : fX8_trim a0 p0 m = some (rR, mR)) : T D 1 IX8_trim [.ref a0, .int p0] m 0 0 (Qi rR mR) := by
  refine T_of_V (by decide) (Nat.le_of_ble_eq_true rfl) ?_
  show V D 1 IX8_trim 0 [(0, .ref a0), (1, .int p0)] [] m 0 0 (Qi rR mR)
  unfold fX8_trim at h
  refine V_iload_n (pc2 := 1) dX8_trim_0 1 rfl rfl ?_
  refine V_i2l (pc2 := 2) dX8_trim_1 rfl ?_
  refine V_lconst (v := 0) (pc2 := 3) dX8_trim_2 (by decide) ?_
  refine V_aload_n (pc2 := 4) dX8_trim_3 0 rfl rfl ?_
  obtain ⟨x1, e_x1, h⟩ := bS h
  refine V_gI (pc2 := 7) e_x1 dX8_trim_4 wF_8_195 ?_
  refine V_i2l (pc2 := 8) dX8_trim_7 rfl ?_
  obtain ⟨b2, e_b2, h⟩ := bS h
  refine V_cSi (pc2 := 11) [.long p0.toInt64, .long (0 : Int64), .long x1.toInt64] (st := []) (tX8_isIn e_b2) dX8_trim_8 wS_8_65 (by decide) rfl (Nat.le_of_ble_eq_true rfl) ?_
  refine V_ifb_ne (pc2 := 14) (tgt := 17) dX8_trim_11 (fun c11 => ?_) (fun c11 => ?_)
  · replace h := iT c11 h
    refine V_aload_n (pc2 := 18) dX8_trim_17 0 rfl rfl ?_
    refine V_iload_n (pc2 := 19) dX8_trim_18 1 rfl rfl ?_
    obtain ⟨m3, e_m3, h⟩ := bS h
    refine V_pI (pc2 := 22) e_m3 dX8_trim_19 wP_8_195 rfl rfl ?_
    refine V_iload_n (pc2 := 23) dX8_trim_22 1 rfl rfl ?_
    obtain ⟨e1, e2⟩ := inj2 h
    subst e1
    subst e2
    exact V_iret dX8_trim_23 rfl ⟨rfl, rfl⟩
  · replace h := iF c11 h
    refine V_ldc (v := -1000000001) (pc2 := 16) dX8_trim_14 wconstant_8_72 ?_
    obtain ⟨e1, e2⟩ := inj2 h
    subst e1
    subst e2
    exact V_iret dX8_trim_16 rfl ⟨rfl, rfl⟩
