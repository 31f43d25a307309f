noncomputable def fX8_either_b0 (g_X8_both : Nat → Int32 → Mem → Option (Bool × Mem)) (a0 : Nat) (p0 : Int32) : Mem → Option (Mem ⊕ (Bool × Mem)) := fun m3 =>
  (cV m3 a0 8 (fX8_isSign a0 (124 : Int32) m3)).bind fun b4 =>
  if b4 = true then
    (cV m3 a0 8 (fX8_nextToken a0 m3)).bind fun m5 =>
    (cV m5 a0 8 (g_X8_both a0 p0 m5)).bind fun (b6, m7) =>
    if b6 = true then
      (cV m7 a0 8 (fX8_step a0 (2 : Int32) (124 : Int32) m7)).bind fun m8 =>
      some (.inl m8)
    else
      some (.inr (false, m7))
  else
    some (.inr (true, m3))
noncomputable def fX8_either (g_X8_both : Nat → Int32 → Mem → Option (Bool × Mem)) (a0 : Nat) (p0 : Int32) (m : Mem) : Option (Bool × Mem) :=
  (cV m a0 8 (g_X8_both a0 p0 m)).bind fun (b1, m2) =>
  if b1 = true then
    loopF (fX8_either_b0 g_X8_both a0 p0) bigN m2
  else
    some (false, m2)
set_option maxRecDepth 20000 in
theorem tX8_either {D : Dat} {d d2 : Nat} {g_X8_both : Nat → Int32 → Mem → Option (Bool × Mem)} {a0 : Nat} {p0 : Int32} {m : Mem} {rR : Bool} {mR : Mem} (hdd : d2 < d) (hg_X8_both : ∀ {a9 : Nat} {q0 : Int32} {m9 : Mem} {r9 : Bool} {m8 : Mem}, g_X8_both a9 q0 m9 = some (r9, m8) → T D d2 IX8_both [.ref a9, .int q0] m9 0 0 (Qi (zb r9) m8)) (hd0 : 3 ≤ d) (h : fX8_either g_X8_both a0 p0 m = some (rR, mR)) : T D d IX8_either [.ref a0, .int p0] m 0 0 (Qi (zb rR) mR) := by
  refine T_of_V (by decide) (Nat.le_of_ble_eq_true rfl) ?_
  show V D d IX8_either 0 [(0, .ref a0), (1, .int p0)] [] m 0 0 (Qi (zb rR) mR)
  unfold fX8_either at h
  refine V_aload_n (pc2 := 1) dX8_either_0 0 rfl rfl ?_
  refine V_iload_n (pc2 := 2) dX8_either_1 1 rfl rfl ?_
  obtain ⟨⟨b1, m2⟩, e_b1, h⟩ := bS h
  try dsimp only at h
  obtain ⟨⟨fs_b1, o_b1⟩, e_b1⟩ := cV_of e_b1
  refine V_cVi (pc2 := 5) [.int p0] (st := []) o_b1 (hg_X8_both e_b1) dX8_either_2 wV_8_238 (hdd) rfl (Nat.le_of_ble_eq_true rfl) ?_
  refine V_ifb_ne (pc2 := 8) (tgt := 10) dX8_either_5 (fun c5 => ?_) (fun c5 => ?_)
  · replace h := iT c5 h
    have hl := h
    clear h
    have key10 : ∀ (n : Nat) (m3 : Mem), loopF (fX8_either_b0 g_X8_both a0 p0) n m3 = some (rR, mR) → V D d IX8_either 10 [(0, .ref a0), (1, .int p0)] [] m3 0 0 (Qi (zb rR) mR) := by
      intro n
      induction n with
      | zero => intro m3 h; cases h
      | succ n ih =>
        intro m3 h
        obtain ⟨o, h, ho⟩ := loopF_inv h
        dsimp only [fX8_either_b0] at h
        refine V_aload_n (pc2 := 11) dX8_either_10 0 rfl rfl ?_
        refine V_bipush (v := 124) (pc2 := 13) dX8_either_11 (by decide) ?_
        obtain ⟨b4, e_b4, h⟩ := bS h
        obtain ⟨⟨fs_b4, o_b4⟩, e_b4⟩ := cV_of e_b4
        refine V_cVi (pc2 := 16) [.int (124 : Int32)] (st := []) o_b4 (tX8_isSign e_b4) dX8_either_13 wV_8_241 (by omega) rfl (Nat.le_of_ble_eq_true rfl) ?_
        refine V_ifb_eq (pc2 := 19) (tgt := 43) dX8_either_16 (fun c16 => ?_) (fun c16 => ?_)
        · replace h := iF c16 h
          refine V_iconst (v := 1) (pc2 := 44) dX8_either_43 (by decide) ?_
          have ee := inj1 h
          subst ee
          obtain ⟨e1, e2⟩ := pinj2 (loopF_e ho)
          subst e1
          subst e2
          exact V_bret (b := true) dX8_either_44 rfl ⟨rfl, rfl⟩
        · replace h := iT c16 h
          refine V_aload_n (pc2 := 20) dX8_either_19 0 rfl rfl ?_
          obtain ⟨m5, e_m5, h⟩ := bS h
          obtain ⟨⟨fs_m5, o_m5⟩, e_m5⟩ := cV_of e_m5
          refine V_cVv (pc2 := 23) [] (st := []) o_m5 (tX8_nextToken e_m5) dX8_either_20 wV_8_244 (by omega) rfl (Nat.le_of_ble_eq_true rfl) ?_
          refine V_aload_n (pc2 := 24) dX8_either_23 0 rfl rfl ?_
          refine V_iload_n (pc2 := 25) dX8_either_24 1 rfl rfl ?_
          obtain ⟨⟨b6, m7⟩, e_b6, h⟩ := bS h
          try dsimp only at h
          obtain ⟨⟨fs_b6, o_b6⟩, e_b6⟩ := cV_of e_b6
          refine V_cVi (pc2 := 28) [.int p0] (st := []) o_b6 (hg_X8_both e_b6) dX8_either_25 wV_8_238 (hdd) rfl (Nat.le_of_ble_eq_true rfl) ?_
          refine V_ifb_ne (pc2 := 31) (tgt := 33) dX8_either_28 (fun c28 => ?_) (fun c28 => ?_)
          · replace h := iT c28 h
            refine V_aload_n (pc2 := 34) dX8_either_33 0 rfl rfl ?_
            refine V_iconst (v := 2) (pc2 := 35) dX8_either_34 (by decide) ?_
            refine V_bipush (v := 124) (pc2 := 37) dX8_either_35 (by decide) ?_
            obtain ⟨m8, e_m8, h⟩ := bS h
            obtain ⟨⟨fs_m8, o_m8⟩, e_m8⟩ := cV_of e_m8
            refine V_cVv (pc2 := 40) [.int (2 : Int32), .int (124 : Int32)] (st := []) o_m8 (tX8_step e_m8) dX8_either_37 wV_8_247 (by omega) rfl (Nat.le_of_ble_eq_true rfl) ?_
            refine V_goto (tgt := 10) dX8_either_40 ?_
            have ee := inj1 h
            subst ee
            exact (ih _ (loopF_c ho))
          · replace h := iF c28 h
            refine V_iconst (v := 0) (pc2 := 32) dX8_either_31 (by decide) ?_
            have ee := inj1 h
            subst ee
            obtain ⟨e1, e2⟩ := pinj2 (loopF_e ho)
            subst e1
            subst e2
            exact V_bret (b := false) dX8_either_32 rfl ⟨rfl, rfl⟩
    exact V_lv (key10 _ _ hl) [0, 1] rfl
  · replace h := iF c5 h
    refine V_iconst (v := 0) (pc2 := 9) dX8_either_8 (by decide) ?_
    obtain ⟨e1, e2⟩ := inj2 h
    subst e1
    subst e2
    exact V_bret (b := false) dX8_either_9 rfl ⟨rfl, rfl⟩
noncomputable def fX8_both_b0 (g_X8_test : Nat → Int32 → Mem → Option (Bool × Mem)) (a0 : Nat) (p0 : Int32) : Mem → Option (Mem ⊕ (Bool × Mem)) := fun m3 =>
  (cV m3 a0 8 (fX8_isSign a0 (38 : Int32) m3)).bind fun b4 =>
  if b4 = true then
    (cV m3 a0 8 (fX8_nextToken a0 m3)).bind fun m5 =>
    (cV m5 a0 8 (g_X8_test a0 p0 m5)).bind fun (b6, m7) =>
    if b6 = true then
      (cV m7 a0 8 (fX8_step a0 (2 : Int32) (38 : Int32) m7)).bind fun m8 =>
      some (.inl m8)
    else
      some (.inr (false, m7))
  else
    some (.inr (true, m3))
noncomputable def fX8_both (g_X8_test : Nat → Int32 → Mem → Option (Bool × Mem)) (a0 : Nat) (p0 : Int32) (m : Mem) : Option (Bool × Mem) :=
  (cV m a0 8 (g_X8_test a0 p0 m)).bind fun (b1, m2) =>
  if b1 = true then
    loopF (fX8_both_b0 g_X8_test a0 p0) bigN m2
  else
    some (false, m2)
set_option maxRecDepth 20000 in
theorem tX8_both {D : Dat} {d d2 : Nat} {g_X8_test : Nat → Int32 → Mem → Option (Bool × Mem)} {a0 : Nat} {p0 : Int32} {m : Mem} {rR : Bool} {mR : Mem} (hdd : d2 < d) (hg_X8_test : ∀ {a9 : Nat} {q0 : Int32} {m9 : Mem} {r9 : Bool} {m8 : Mem}, g_X8_test a9 q0 m9 = some (r9, m8) → T D d2 IX8_test [.ref a9, .int q0] m9 0 0 (Qi (zb r9) m8)) (hd0 : 3 ≤ d) (h : fX8_both g_X8_test a0 p0 m = some (rR, mR)) : T D d IX8_both [.ref a0, .int p0] m 0 0 (Qi (zb rR) mR) := by
  refine T_of_V (by decide) (Nat.le_of_ble_eq_true rfl) ?_
  show V D d IX8_both 0 [(0, .ref a0), (1, .int p0)] [] m 0 0 (Qi (zb rR) mR)
  unfold fX8_both at h
  refine V_aload_n (pc2 := 1) dX8_both_0 0 rfl rfl ?_
  refine V_iload_n (pc2 := 2) dX8_both_1 1 rfl rfl ?_
  obtain ⟨⟨b1, m2⟩, e_b1, h⟩ := bS h
  try dsimp only at h
  obtain ⟨⟨fs_b1, o_b1⟩, e_b1⟩ := cV_of e_b1
  refine V_cVi (pc2 := 5) [.int p0] (st := []) o_b1 (hg_X8_test e_b1) dX8_both_2 wV_8_251 (hdd) rfl (Nat.le_of_ble_eq_true rfl) ?_
  refine V_ifb_ne (pc2 := 8) (tgt := 10) dX8_both_5 (fun c5 => ?_) (fun c5 => ?_)
  · replace h := iT c5 h
    have hl := h
    clear h
    have key10 : ∀ (n : Nat) (m3 : Mem), loopF (fX8_both_b0 g_X8_test a0 p0) n m3 = some (rR, mR) → V D d IX8_both 10 [(0, .ref a0), (1, .int p0)] [] m3 0 0 (Qi (zb rR) mR) := by
      intro n
      induction n with
      | zero => intro m3 h; cases h
      | succ n ih =>
        intro m3 h
        obtain ⟨o, h, ho⟩ := loopF_inv h
        dsimp only [fX8_both_b0] at h
        refine V_aload_n (pc2 := 11) dX8_both_10 0 rfl rfl ?_
        refine V_bipush (v := 38) (pc2 := 13) dX8_both_11 (by decide) ?_
        obtain ⟨b4, e_b4, h⟩ := bS h
        obtain ⟨⟨fs_b4, o_b4⟩, e_b4⟩ := cV_of e_b4
        refine V_cVi (pc2 := 16) [.int (38 : Int32)] (st := []) o_b4 (tX8_isSign e_b4) dX8_both_13 wV_8_241 (by omega) rfl (Nat.le_of_ble_eq_true rfl) ?_
        refine V_ifb_eq (pc2 := 19) (tgt := 43) dX8_both_16 (fun c16 => ?_) (fun c16 => ?_)
        · replace h := iF c16 h
          refine V_iconst (v := 1) (pc2 := 44) dX8_both_43 (by decide) ?_
          have ee := inj1 h
          subst ee
          obtain ⟨e1, e2⟩ := pinj2 (loopF_e ho)
          subst e1
          subst e2
          exact V_bret (b := true) dX8_both_44 rfl ⟨rfl, rfl⟩
        · replace h := iT c16 h
          refine V_aload_n (pc2 := 20) dX8_both_19 0 rfl rfl ?_
          obtain ⟨m5, e_m5, h⟩ := bS h
          obtain ⟨⟨fs_m5, o_m5⟩, e_m5⟩ := cV_of e_m5
          refine V_cVv (pc2 := 23) [] (st := []) o_m5 (tX8_nextToken e_m5) dX8_both_20 wV_8_244 (by omega) rfl (Nat.le_of_ble_eq_true rfl) ?_
          refine V_aload_n (pc2 := 24) dX8_both_23 0 rfl rfl ?_
          refine V_iload_n (pc2 := 25) dX8_both_24 1 rfl rfl ?_
          obtain ⟨⟨b6, m7⟩, e_b6, h⟩ := bS h
          try dsimp only at h
          obtain ⟨⟨fs_b6, o_b6⟩, e_b6⟩ := cV_of e_b6
          refine V_cVi (pc2 := 28) [.int p0] (st := []) o_b6 (hg_X8_test e_b6) dX8_both_25 wV_8_251 (hdd) rfl (Nat.le_of_ble_eq_true rfl) ?_
          refine V_ifb_ne (pc2 := 31) (tgt := 33) dX8_both_28 (fun c28 => ?_) (fun c28 => ?_)
          · replace h := iT c28 h
            refine V_aload_n (pc2 := 34) dX8_both_33 0 rfl rfl ?_
            refine V_iconst (v := 2) (pc2 := 35) dX8_both_34 (by decide) ?_
            refine V_bipush (v := 38) (pc2 := 37) dX8_both_35 (by decide) ?_
            obtain ⟨m8, e_m8, h⟩ := bS h
            obtain ⟨⟨fs_m8, o_m8⟩, e_m8⟩ := cV_of e_m8
            refine V_cVv (pc2 := 40) [.int (2 : Int32), .int (38 : Int32)] (st := []) o_m8 (tX8_step e_m8) dX8_both_37 wV_8_247 (by omega) rfl (Nat.le_of_ble_eq_true rfl) ?_
            refine V_goto (tgt := 10) dX8_both_40 ?_
            have ee := inj1 h
            subst ee
            exact (ih _ (loopF_c ho))
          · replace h := iF c28 h
            refine V_iconst (v := 0) (pc2 := 32) dX8_both_31 (by decide) ?_
            have ee := inj1 h
            subst ee
            obtain ⟨e1, e2⟩ := pinj2 (loopF_e ho)
            subst e1
            subst e2
            exact V_bret (b := false) dX8_both_32 rfl ⟨rfl, rfl⟩
    exact V_lv (key10 _ _ hl) [0, 1] rfl
  · replace h := iF c5 h
    refine V_iconst (v := 0) (pc2 := 9) dX8_both_8 (by decide) ?_
    obtain ⟨e1, e2⟩ := inj2 h
    subst e1
    subst e2
    exact V_bret (b := false) dX8_both_9 rfl ⟨rfl, rfl⟩
noncomputable def fX8_test (g_X8_sum : Nat → Int32 → Mem → Option (Bool × Mem)) (a0 : Nat) (p0 : Int32) (m : Mem) : Option (Bool × Mem) :=
  (cV m a0 8 (g_X8_sum a0 p0 m)).bind fun (b1, m2) =>
  if b1 = true then
    (cV m2 a0 8 (fX8_isSign a0 (60 : Int32) m2)).bind fun b3 =>
    if b3 = true then
      (gI m2 a0 8 19).bind fun x4 =>
      (cV m2 a0 8 (fX8_nextToken a0 m2)).bind fun m5 =>
      (cV m5 a0 8 (g_X8_sum a0 p0 m5)).bind fun (b6, m7) =>
      if b6 = true then
        (cV m7 a0 8 (fX8_step a0 (2 : Int32) x4 m7)).bind fun m8 =>
        some (true, m8)
      else
        some (false, m7)
    else
      (cV m2 a0 8 (fX8_isSign a0 (61 : Int32) m2)).bind fun b9 =>
      if b9 = true then
        (gI m2 a0 8 19).bind fun x10 =>
        (cV m2 a0 8 (fX8_nextToken a0 m2)).bind fun m11 =>
        (cV m11 a0 8 (g_X8_sum a0 p0 m11)).bind fun (b12, m13) =>
        if b12 = true then
          (cV m13 a0 8 (fX8_step a0 (2 : Int32) x10 m13)).bind fun m14 =>
          some (true, m14)
        else
          some (false, m13)
      else
        (cV m2 a0 8 (fX8_isSign a0 (62 : Int32) m2)).bind fun b15 =>
        if b15 = true then
          (gI m2 a0 8 19).bind fun x16 =>
          (cV m2 a0 8 (fX8_nextToken a0 m2)).bind fun m17 =>
          (cV m17 a0 8 (g_X8_sum a0 p0 m17)).bind fun (b18, m19) =>
          if b18 = true then
            (cV m19 a0 8 (fX8_step a0 (2 : Int32) x16 m19)).bind fun m20 =>
            some (true, m20)
          else
            some (false, m19)
        else
          some (true, m2)
  else
    some (false, m2)
set_option maxRecDepth 20000 in
theorem tX8_test {D : Dat} {d d2 : Nat} {g_X8_sum : Nat → Int32 → Mem → Option (Bool × Mem)} {a0 : Nat} {p0 : Int32} {m : Mem} {rR : Bool} {mR : Mem} (hdd : d2 < d) (hg_X8_sum : ∀ {a9 : Nat} {q0 : Int32} {m9 : Mem} {r9 : Bool} {m8 : Mem}, g_X8_sum a9 q0 m9 = some (r9, m8) → T D d2 IX8_sum [.ref a9, .int q0] m9 0 0 (Qi (zb r9) m8)) (hd0 : 3 ≤ d) (h : fX8_test g_X8_sum a0 p0 m = some (rR, mR)) : T D d IX8_test [.ref a0, .int p0] m 0 0 (Qi (zb rR) mR) := by
  refine T_of_V (by decide) (Nat.le_of_ble_eq_true rfl) ?_
  show V D d IX8_test 0 [(0, .ref a0), (1, .int p0)] [] m 0 0 (Qi (zb rR) mR)
  unfold fX8_test at h
  refine V_aload_n (pc2 := 1) dX8_test_0 0 rfl rfl ?_
  refine V_iload_n (pc2 := 2) dX8_test_1 1 rfl rfl ?_
  obtain ⟨⟨b1, m2⟩, e_b1, h⟩ := bS h
  try dsimp only at h
  obtain ⟨⟨fs_b1, o_b1⟩, e_b1⟩ := cV_of e_b1
  refine V_cVi (pc2 := 5) [.int p0] (st := []) o_b1 (hg_X8_sum e_b1) dX8_test_2 wV_8_254 (hdd) rfl (Nat.le_of_ble_eq_true rfl) ?_
  refine V_ifb_ne (pc2 := 8) (tgt := 10) dX8_test_5 (fun c5 => ?_) (fun c5 => ?_)
  · replace h := iT c5 h
    refine V_aload_n (pc2 := 11) dX8_test_10 0 rfl rfl ?_
    refine V_bipush (v := 60) (pc2 := 13) dX8_test_11 (by decide) ?_
    obtain ⟨b3, e_b3, h⟩ := bS h
    obtain ⟨⟨fs_b3, o_b3⟩, e_b3⟩ := cV_of e_b3
    refine V_cVi (pc2 := 16) [.int (60 : Int32)] (st := []) o_b3 (tX8_isSign e_b3) dX8_test_13 wV_8_241 (by omega) rfl (Nat.le_of_ble_eq_true rfl) ?_
    refine V_ifb_ne (pc2 := 19) (tgt := 37) dX8_test_16 (fun c16 => ?_) (fun c16 => ?_)
    · replace h := iT c16 h
      refine V_aload_n (pc2 := 38) dX8_test_37 0 rfl rfl ?_
      obtain ⟨x4, e_x4, h⟩ := bS h
      refine V_gI (pc2 := 41) e_x4 dX8_test_38 wF_8_219 ?_
      refine V_istore_n (pc2 := 42) (L2 := [(2, .int x4), (0, .ref a0), (1, .int p0)]) dX8_test_41 ?_ rfl rfl rfl
      refine V_aload_n (pc2 := 43) dX8_test_42 1 rfl rfl ?_
      obtain ⟨m5, e_m5, h⟩ := bS h
      obtain ⟨⟨fs_m5, o_m5⟩, e_m5⟩ := cV_of e_m5
      refine V_cVv (pc2 := 46) [] (st := []) o_m5 (tX8_nextToken e_m5) dX8_test_43 wV_8_244 (by omega) rfl (Nat.le_of_ble_eq_true rfl) ?_
      refine V_aload_n (pc2 := 47) dX8_test_46 1 rfl rfl ?_
      refine V_iload_n (pc2 := 48) dX8_test_47 2 rfl rfl ?_
      obtain ⟨⟨b6, m7⟩, e_b6, h⟩ := bS h
      try dsimp only at h
      obtain ⟨⟨fs_b6, o_b6⟩, e_b6⟩ := cV_of e_b6
      refine V_cVi (pc2 := 51) [.int p0] (st := []) o_b6 (hg_X8_sum e_b6) dX8_test_48 wV_8_254 (hdd) rfl (Nat.le_of_ble_eq_true rfl) ?_
      refine V_ifb_ne (pc2 := 54) (tgt := 56) dX8_test_51 (fun c51 => ?_) (fun c51 => ?_)
      · replace h := iT c51 h
        refine V_aload_n (pc2 := 57) dX8_test_56 1 rfl rfl ?_
        refine V_iconst (v := 2) (pc2 := 58) dX8_test_57 (by decide) ?_
        refine V_iload_n (pc2 := 59) dX8_test_58 0 rfl rfl ?_
        obtain ⟨m8, e_m8, h⟩ := bS h
        obtain ⟨⟨fs_m8, o_m8⟩, e_m8⟩ := cV_of e_m8
        refine V_cVv (pc2 := 62) [.int (2 : Int32), .int x4] (st := []) o_m8 (tX8_step e_m8) dX8_test_59 wV_8_247 (by omega) rfl (Nat.le_of_ble_eq_true rfl) ?_
        refine V_iconst (v := 1) (pc2 := 63) dX8_test_62 (by decide) ?_
        obtain ⟨e1, e2⟩ := inj2 h
        subst e1
        subst e2
        exact V_bret (b := true) dX8_test_63 rfl ⟨rfl, rfl⟩
      · replace h := iF c51 h
        refine V_iconst (v := 0) (pc2 := 55) dX8_test_54 (by decide) ?_
        obtain ⟨e1, e2⟩ := inj2 h
        subst e1
        subst e2
        exact V_bret (b := false) dX8_test_55 rfl ⟨rfl, rfl⟩
    · replace h := iF c16 h
      refine V_aload_n (pc2 := 20) dX8_test_19 0 rfl rfl ?_
      refine V_bipush (v := 61) (pc2 := 22) dX8_test_20 (by decide) ?_
      obtain ⟨b9, e_b9, h⟩ := bS h
      obtain ⟨⟨fs_b9, o_b9⟩, e_b9⟩ := cV_of e_b9
      refine V_cVi (pc2 := 25) [.int (61 : Int32)] (st := []) o_b9 (tX8_isSign e_b9) dX8_test_22 wV_8_241 (by omega) rfl (Nat.le_of_ble_eq_true rfl) ?_
      refine V_ifb_ne (pc2 := 28) (tgt := 37) dX8_test_25 (fun c25 => ?_) (fun c25 => ?_)
      · replace h := iT c25 h
        refine V_aload_n (pc2 := 38) dX8_test_37 0 rfl rfl ?_
        obtain ⟨x10, e_x10, h⟩ := bS h
        refine V_gI (pc2 := 41) e_x10 dX8_test_38 wF_8_219 ?_
        refine V_istore_n (pc2 := 42) (L2 := [(2, .int x10), (0, .ref a0), (1, .int p0)]) dX8_test_41 ?_ rfl rfl rfl
        refine V_aload_n (pc2 := 43) dX8_test_42 1 rfl rfl ?_
        obtain ⟨m11, e_m11, h⟩ := bS h
        obtain ⟨⟨fs_m11, o_m11⟩, e_m11⟩ := cV_of e_m11
        refine V_cVv (pc2 := 46) [] (st := []) o_m11 (tX8_nextToken e_m11) dX8_test_43 wV_8_244 (by omega) rfl (Nat.le_of_ble_eq_true rfl) ?_
        refine V_aload_n (pc2 := 47) dX8_test_46 1 rfl rfl ?_
        refine V_iload_n (pc2 := 48) dX8_test_47 2 rfl rfl ?_
        obtain ⟨⟨b12, m13⟩, e_b12, h⟩ := bS h
        try dsimp only at h
        obtain ⟨⟨fs_b12, o_b12⟩, e_b12⟩ := cV_of e_b12
        refine V_cVi (pc2 := 51) [.int p0] (st := []) o_b12 (hg_X8_sum e_b12) dX8_test_48 wV_8_254 (hdd) rfl (Nat.le_of_ble_eq_true rfl) ?_
        refine V_ifb_ne (pc2 := 54) (tgt := 56) dX8_test_51 (fun c51 => ?_) (fun c51 => ?_)
        · replace h := iT c51 h
          refine V_aload_n (pc2 := 57) dX8_test_56 1 rfl rfl ?_
          refine V_iconst (v := 2) (pc2 := 58) dX8_test_57 (by decide) ?_
          refine V_iload_n (pc2 := 59) dX8_test_58 0 rfl rfl ?_
          obtain ⟨m14, e_m14, h⟩ := bS h
          obtain ⟨⟨fs_m14, o_m14⟩, e_m14⟩ := cV_of e_m14
          refine V_cVv (pc2 := 62) [.int (2 : Int32), .int x10] (st := []) o_m14 (tX8_step e_m14) dX8_test_59 wV_8_247 (by omega) rfl (Nat.le_of_ble_eq_true rfl) ?_
          refine V_iconst (v := 1) (pc2 := 63) dX8_test_62 (by decide) ?_
          obtain ⟨e1, e2⟩ := inj2 h
          subst e1
          subst e2
          exact V_bret (b := true) dX8_test_63 rfl ⟨rfl, rfl⟩
        · replace h := iF c51 h
          refine V_iconst (v := 0) (pc2 := 55) dX8_test_54 (by decide) ?_
          obtain ⟨e1, e2⟩ := inj2 h
          subst e1
          subst e2
          exact V_bret (b := false) dX8_test_55 rfl ⟨rfl, rfl⟩
      · replace h := iF c25 h
        refine V_aload_n (pc2 := 29) dX8_test_28 0 rfl rfl ?_
        refine V_bipush (v := 62) (pc2 := 31) dX8_test_29 (by decide) ?_
        obtain ⟨b15, e_b15, h⟩ := bS h
        obtain ⟨⟨fs_b15, o_b15⟩, e_b15⟩ := cV_of e_b15
        refine V_cVi (pc2 := 34) [.int (62 : Int32)] (st := []) o_b15 (tX8_isSign e_b15) dX8_test_31 wV_8_241 (by omega) rfl (Nat.le_of_ble_eq_true rfl) ?_
        refine V_ifb_eq (pc2 := 37) (tgt := 62) dX8_test_34 (fun c34 => ?_) (fun c34 => ?_)
        · replace h := iF c34 h
          refine V_iconst (v := 1) (pc2 := 63) dX8_test_62 (by decide) ?_
          obtain ⟨e1, e2⟩ := inj2 h
          subst e1
          subst e2
          exact V_bret (b := true) dX8_test_63 rfl ⟨rfl, rfl⟩
        · replace h := iT c34 h
          refine V_aload_n (pc2 := 38) dX8_test_37 0 rfl rfl ?_
          obtain ⟨x16, e_x16, h⟩ := bS h
          refine V_gI (pc2 := 41) e_x16 dX8_test_38 wF_8_219 ?_
          refine V_istore_n (pc2 := 42) (L2 := [(2, .int x16), (0, .ref a0), (1, .int p0)]) dX8_test_41 ?_ rfl rfl rfl
          refine V_aload_n (pc2 := 43) dX8_test_42 1 rfl rfl ?_
          obtain ⟨m17, e_m17, h⟩ := bS h
          obtain ⟨⟨fs_m17, o_m17⟩, e_m17⟩ := cV_of e_m17
          refine V_cVv (pc2 := 46) [] (st := []) o_m17 (tX8_nextToken e_m17) dX8_test_43 wV_8_244 (by omega) rfl (Nat.le_of_ble_eq_true rfl) ?_
          refine V_aload_n (pc2 := 47) dX8_test_46 1 rfl rfl ?_
          refine V_iload_n (pc2 := 48) dX8_test_47 2 rfl rfl ?_
          obtain ⟨⟨b18, m19⟩, e_b18, h⟩ := bS h
          try dsimp only at h
          obtain ⟨⟨fs_b18, o_b18⟩, e_b18⟩ := cV_of e_b18
          refine V_cVi (pc2 := 51) [.int p0] (st := []) o_b18 (hg_X8_sum e_b18) dX8_test_48 wV_8_254 (hdd) rfl (Nat.le_of_ble_eq_true rfl) ?_
          refine V_ifb_ne (pc2 := 54) (tgt := 56) dX8_test_51 (fun c51 => ?_) (fun c51 => ?_)
          · replace h := iT c51 h
            refine V_aload_n (pc2 := 57) dX8_test_56 1 rfl rfl ?_
            refine V_iconst (v := 2) (pc2 := 58) dX8_test_57 (by decide) ?_
            refine V_iload_n (pc2 := 59) dX8_test_58 0 rfl rfl ?_
            obtain ⟨m20, e_m20, h⟩ := bS h
            obtain ⟨⟨fs_m20, o_m20⟩, e_m20⟩ := cV_of e_m20
            refine V_cVv (pc2 := 62) [.int (2 : Int32), .int x16] (st := []) o_m20 (tX8_step e_m20) dX8_test_59 wV_8_247 (by omega) rfl (Nat.le_of_ble_eq_true rfl) ?_
            refine V_iconst (v := 1) (pc2 := 63) dX8_test_62 (by decide) ?_
            obtain ⟨e1, e2⟩ := inj2 h
            subst e1
            subst e2
            exact V_bret (b := true) dX8_test_63 rfl ⟨rfl, rfl⟩
          · replace h := iF c51 h
            refine V_iconst (v := 0) (pc2 := 55) dX8_test_54 (by decide) ?_
            obtain ⟨e1, e2⟩ := inj2 h
            subst e1
            subst e2
            exact V_bret (b := false) dX8_test_55 rfl ⟨rfl, rfl⟩
  · replace h := iF c5 h
    refine V_iconst (v := 0) (pc2 := 9) dX8_test_8 (by decide) ?_
    obtain ⟨e1, e2⟩ := inj2 h
    subst e1
    subst e2
    exact V_bret (b := false) dX8_test_9 rfl ⟨rfl, rfl⟩
noncomputable def fX8_sum_b0 (g_X8_term : Nat → Int32 → Mem → Option (Bool × Mem)) (a0 : Nat) (p0 : Int32) : Mem → Option (Mem ⊕ (Bool × Mem)) := fun m3 =>
  (cV m3 a0 8 (fX8_isSign a0 (43 : Int32) m3)).bind fun b4 =>
  if b4 = true then
    (gI m3 a0 8 19).bind fun x5 =>
    (cV m3 a0 8 (fX8_nextToken a0 m3)).bind fun m6 =>
    (cV m6 a0 8 (g_X8_term a0 p0 m6)).bind fun (b7, m8) =>
    if b7 = true then
      (cV m8 a0 8 (fX8_step a0 (2 : Int32) x5 m8)).bind fun m9 =>
      some (.inl m9)
    else
      some (.inr (false, m8))
  else
    (cV m3 a0 8 (fX8_isSign a0 (45 : Int32) m3)).bind fun b10 =>
    if b10 = true then
      (gI m3 a0 8 19).bind fun x11 =>
      (cV m3 a0 8 (fX8_nextToken a0 m3)).bind fun m12 =>
      (cV m12 a0 8 (g_X8_term a0 p0 m12)).bind fun (b13, m14) =>
      if b13 = true then
        (cV m14 a0 8 (fX8_step a0 (2 : Int32) x11 m14)).bind fun m15 =>
        some (.inl m15)
      else
        some (.inr (false, m14))
    else
      some (.inr (true, m3))
noncomputable def fX8_sum (g_X8_term : Nat → Int32 → Mem → Option (Bool × Mem)) (a0 : Nat) (p0 : Int32) (m : Mem) : Option (Bool × Mem) :=
  (cV m a0 8 (g_X8_term a0 p0 m)).bind fun (b1, m2) =>
  if b1 = true then
    loopF (fX8_sum_b0 g_X8_term a0 p0) bigN m2
  else
    some (false, m2)
set_option maxRecDepth 20000 in
theorem tX8_sum {D : Dat} {d d2 : Nat} {g_X8_term : Nat → Int32 → Mem → Option (Bool × Mem)} {a0 : Nat} {p0 : Int32} {m : Mem} {rR : Bool} {mR : Mem} (hdd : d2 < d) (hg_X8_term : ∀ {a9 : Nat} {q0 : Int32} {m9 : Mem} {r9 : Bool} {m8 : Mem}, g_X8_term a9 q0 m9 = some (r9, m8) → T D d2 IX8_term [.ref a9, .int q0] m9 0 0 (Qi (zb r9) m8)) (hd0 : 3 ≤ d) (h : fX8_sum g_X8_term a0 p0 m = some (rR, mR)) : T D d IX8_sum [.ref a0, .int p0] m 0 0 (Qi (zb rR) mR) := by
  refine T_of_V (by decide) (Nat.le_of_ble_eq_true rfl) ?_
  show V D d IX8_sum 0 [(0, .ref a0), (1, .int p0)] [] m 0 0 (Qi (zb rR) mR)
  unfold fX8_sum at h
  refine V_aload_n (pc2 := 1) dX8_sum_0 0 rfl rfl ?_
  refine V_iload_n (pc2 := 2) dX8_sum_1 1 rfl rfl ?_
  obtain ⟨⟨b1, m2⟩, e_b1, h⟩ := bS h
  try dsimp only at h
  obtain ⟨⟨fs_b1, o_b1⟩, e_b1⟩ := cV_of e_b1
  refine V_cVi (pc2 := 5) [.int p0] (st := []) o_b1 (hg_X8_term e_b1) dX8_sum_2 wV_8_257 (hdd) rfl (Nat.le_of_ble_eq_true rfl) ?_
  refine V_ifb_ne (pc2 := 8) (tgt := 10) dX8_sum_5 (fun c5 => ?_) (fun c5 => ?_)
  · replace h := iT c5 h
    have hl := h
    clear h
    have key10 : ∀ (n : Nat) (m3 : Mem), loopF (fX8_sum_b0 g_X8_term a0 p0) n m3 = some (rR, mR) → V D d IX8_sum 10 [(0, .ref a0), (1, .int p0)] [] m3 0 0 (Qi (zb rR) mR) := by
      intro n
      induction n with
      | zero => intro m3 h; cases h
      | succ n ih =>
        intro m3 h
        obtain ⟨o, h, ho⟩ := loopF_inv h
        dsimp only [fX8_sum_b0] at h
        refine V_aload_n (pc2 := 11) dX8_sum_10 0 rfl rfl ?_
        refine V_bipush (v := 43) (pc2 := 13) dX8_sum_11 (by decide) ?_
        obtain ⟨b4, e_b4, h⟩ := bS h
        obtain ⟨⟨fs_b4, o_b4⟩, e_b4⟩ := cV_of e_b4
        refine V_cVi (pc2 := 16) [.int (43 : Int32)] (st := []) o_b4 (tX8_isSign e_b4) dX8_sum_13 wV_8_241 (by omega) rfl (Nat.le_of_ble_eq_true rfl) ?_
        refine V_ifb_ne (pc2 := 19) (tgt := 28) dX8_sum_16 (fun c16 => ?_) (fun c16 => ?_)
        · replace h := iT c16 h
          refine V_aload_n (pc2 := 29) dX8_sum_28 0 rfl rfl ?_
          obtain ⟨x5, e_x5, h⟩ := bS h
          refine V_gI (pc2 := 32) e_x5 dX8_sum_29 wF_8_219 ?_
          refine V_istore_n (pc2 := 33) (L2 := [(2, .int x5), (0, .ref a0), (1, .int p0)]) dX8_sum_32 ?_ rfl rfl rfl
          refine V_aload_n (pc2 := 34) dX8_sum_33 1 rfl rfl ?_
          obtain ⟨m6, e_m6, h⟩ := bS h
          obtain ⟨⟨fs_m6, o_m6⟩, e_m6⟩ := cV_of e_m6
          refine V_cVv (pc2 := 37) [] (st := []) o_m6 (tX8_nextToken e_m6) dX8_sum_34 wV_8_244 (by omega) rfl (Nat.le_of_ble_eq_true rfl) ?_
          refine V_aload_n (pc2 := 38) dX8_sum_37 1 rfl rfl ?_
          refine V_iload_n (pc2 := 39) dX8_sum_38 2 rfl rfl ?_
          obtain ⟨⟨b7, m8⟩, e_b7, h⟩ := bS h
          try dsimp only at h
          obtain ⟨⟨fs_b7, o_b7⟩, e_b7⟩ := cV_of e_b7
          refine V_cVi (pc2 := 42) [.int p0] (st := []) o_b7 (hg_X8_term e_b7) dX8_sum_39 wV_8_257 (hdd) rfl (Nat.le_of_ble_eq_true rfl) ?_
          refine V_ifb_ne (pc2 := 45) (tgt := 47) dX8_sum_42 (fun c42 => ?_) (fun c42 => ?_)
          · replace h := iT c42 h
            refine V_aload_n (pc2 := 48) dX8_sum_47 1 rfl rfl ?_
            refine V_iconst (v := 2) (pc2 := 49) dX8_sum_48 (by decide) ?_
            refine V_iload_n (pc2 := 50) dX8_sum_49 0 rfl rfl ?_
            obtain ⟨m9, e_m9, h⟩ := bS h
            obtain ⟨⟨fs_m9, o_m9⟩, e_m9⟩ := cV_of e_m9
            refine V_cVv (pc2 := 53) [.int (2 : Int32), .int x5] (st := []) o_m9 (tX8_step e_m9) dX8_sum_50 wV_8_247 (by omega) rfl (Nat.le_of_ble_eq_true rfl) ?_
            refine V_goto (tgt := 10) dX8_sum_53 ?_
            have ee := inj1 h
            subst ee
            exact V_lv (ih _ (loopF_c ho)) [1, 2] rfl
          · replace h := iF c42 h
            refine V_iconst (v := 0) (pc2 := 46) dX8_sum_45 (by decide) ?_
            have ee := inj1 h
            subst ee
            obtain ⟨e1, e2⟩ := pinj2 (loopF_e ho)
            subst e1
            subst e2
            exact V_bret (b := false) dX8_sum_46 rfl ⟨rfl, rfl⟩
        · replace h := iF c16 h
          refine V_aload_n (pc2 := 20) dX8_sum_19 0 rfl rfl ?_
          refine V_bipush (v := 45) (pc2 := 22) dX8_sum_20 (by decide) ?_
          obtain ⟨b10, e_b10, h⟩ := bS h
          obtain ⟨⟨fs_b10, o_b10⟩, e_b10⟩ := cV_of e_b10
          refine V_cVi (pc2 := 25) [.int (45 : Int32)] (st := []) o_b10 (tX8_isSign e_b10) dX8_sum_22 wV_8_241 (by omega) rfl (Nat.le_of_ble_eq_true rfl) ?_
          refine V_ifb_eq (pc2 := 28) (tgt := 56) dX8_sum_25 (fun c25 => ?_) (fun c25 => ?_)
          · replace h := iF c25 h
            refine V_iconst (v := 1) (pc2 := 57) dX8_sum_56 (by decide) ?_
            have ee := inj1 h
            subst ee
            obtain ⟨e1, e2⟩ := pinj2 (loopF_e ho)
            subst e1
            subst e2
            exact V_bret (b := true) dX8_sum_57 rfl ⟨rfl, rfl⟩
          · replace h := iT c25 h
            refine V_aload_n (pc2 := 29) dX8_sum_28 0 rfl rfl ?_
            obtain ⟨x11, e_x11, h⟩ := bS h
            refine V_gI (pc2 := 32) e_x11 dX8_sum_29 wF_8_219 ?_
            refine V_istore_n (pc2 := 33) (L2 := [(2, .int x11), (0, .ref a0), (1, .int p0)]) dX8_sum_32 ?_ rfl rfl rfl
            refine V_aload_n (pc2 := 34) dX8_sum_33 1 rfl rfl ?_
            obtain ⟨m12, e_m12, h⟩ := bS h
            obtain ⟨⟨fs_m12, o_m12⟩, e_m12⟩ := cV_of e_m12
            refine V_cVv (pc2 := 37) [] (st := []) o_m12 (tX8_nextToken e_m12) dX8_sum_34 wV_8_244 (by omega) rfl (Nat.le_of_ble_eq_true rfl) ?_
            refine V_aload_n (pc2 := 38) dX8_sum_37 1 rfl rfl ?_
            refine V_iload_n (pc2 := 39) dX8_sum_38 2 rfl rfl ?_
            obtain ⟨⟨b13, m14⟩, e_b13, h⟩ := bS h
            try dsimp only at h
            obtain ⟨⟨fs_b13, o_b13⟩, e_b13⟩ := cV_of e_b13
            refine V_cVi (pc2 := 42) [.int p0] (st := []) o_b13 (hg_X8_term e_b13) dX8_sum_39 wV_8_257 (hdd) rfl (Nat.le_of_ble_eq_true rfl) ?_
            refine V_ifb_ne (pc2 := 45) (tgt := 47) dX8_sum_42 (fun c42 => ?_) (fun c42 => ?_)
            · replace h := iT c42 h
              refine V_aload_n (pc2 := 48) dX8_sum_47 1 rfl rfl ?_
              refine V_iconst (v := 2) (pc2 := 49) dX8_sum_48 (by decide) ?_
              refine V_iload_n (pc2 := 50) dX8_sum_49 0 rfl rfl ?_
              obtain ⟨m15, e_m15, h⟩ := bS h
              obtain ⟨⟨fs_m15, o_m15⟩, e_m15⟩ := cV_of e_m15
              refine V_cVv (pc2 := 53) [.int (2 : Int32), .int x11] (st := []) o_m15 (tX8_step e_m15) dX8_sum_50 wV_8_247 (by omega) rfl (Nat.le_of_ble_eq_true rfl) ?_
              refine V_goto (tgt := 10) dX8_sum_53 ?_
              have ee := inj1 h
              subst ee
              exact V_lv (ih _ (loopF_c ho)) [1, 2] rfl
            · replace h := iF c42 h
              refine V_iconst (v := 0) (pc2 := 46) dX8_sum_45 (by decide) ?_
              have ee := inj1 h
              subst ee
              obtain ⟨e1, e2⟩ := pinj2 (loopF_e ho)
              subst e1
              subst e2
              exact V_bret (b := false) dX8_sum_46 rfl ⟨rfl, rfl⟩
    exact V_lv (key10 _ _ hl) [0, 1] rfl
  · replace h := iF c5 h
    refine V_iconst (v := 0) (pc2 := 9) dX8_sum_8 (by decide) ?_
    obtain ⟨e1, e2⟩ := inj2 h
    subst e1
    subst e2
    exact V_bret (b := false) dX8_sum_9 rfl ⟨rfl, rfl⟩
noncomputable def fX8_term_b0 (g_X8_part0 : Nat → Int32 → Mem → Option (Bool × Mem)) (a0 : Nat) (p0 : Int32) : Mem → Option (Mem ⊕ (Bool × Mem)) := fun m3 =>
  (cV m3 a0 8 (fX8_isSign a0 (42 : Int32) m3)).bind fun b4 =>
  if b4 = true then
    (gI m3 a0 8 19).bind fun x5 =>
    (cV m3 a0 8 (fX8_nextToken a0 m3)).bind fun m6 =>
    (cV m6 a0 8 (g_X8_part0 a0 p0 m6)).bind fun (b7, m8) =>
    if b7 = true then
      (cV m8 a0 8 (fX8_step a0 (2 : Int32) x5 m8)).bind fun m9 =>
      some (.inl m9)
    else
      some (.inr (false, m8))
  else
    (cV m3 a0 8 (fX8_isSign a0 (47 : Int32) m3)).bind fun b10 =>
    if b10 = true then
      (gI m3 a0 8 19).bind fun x11 =>
      (cV m3 a0 8 (fX8_nextToken a0 m3)).bind fun m12 =>
      (cV m12 a0 8 (g_X8_part0 a0 p0 m12)).bind fun (b13, m14) =>
      if b13 = true then
        (cV m14 a0 8 (fX8_step a0 (2 : Int32) x11 m14)).bind fun m15 =>
        some (.inl m15)
      else
        some (.inr (false, m14))
    else
      some (.inr (true, m3))
noncomputable def fX8_term (g_X8_part0 : Nat → Int32 → Mem → Option (Bool × Mem)) (a0 : Nat) (p0 : Int32) (m : Mem) : Option (Bool × Mem) :=
  (cV m a0 8 (g_X8_part0 a0 p0 m)).bind fun (b1, m2) =>
  if b1 = true then
    loopF (fX8_term_b0 g_X8_part0 a0 p0) bigN m2
  else
    some (false, m2)
set_option maxRecDepth 20000 in
theorem tX8_term {D : Dat} {d d2 : Nat} {g_X8_part0 : Nat → Int32 → Mem → Option (Bool × Mem)} {a0 : Nat} {p0 : Int32} {m : Mem} {rR : Bool} {mR : Mem} (hdd : d2 < d) (hg_X8_part0 : ∀ {a9 : Nat} {q0 : Int32} {m9 : Mem} {r9 : Bool} {m8 : Mem}, g_X8_part0 a9 q0 m9 = some (r9, m8) → T D d2 IX8_part0 [.ref a9, .int q0] m9 0 0 (Qi (zb r9) m8)) (hd0 : 3 ≤ d) (h : fX8_term g_X8_part0 a0 p0 m = some (rR, mR)) : T D d IX8_term [.ref a0, .int p0] m 0 0 (Qi (zb rR) mR) := by
  refine T_of_V (by decide) (Nat.le_of_ble_eq_true rfl) ?_
  show V D d IX8_term 0 [(0, .ref a0), (1, .int p0)] [] m 0 0 (Qi (zb rR) mR)
  unfold fX8_term at h
  refine V_aload_n (pc2 := 1) dX8_term_0 0 rfl rfl ?_
  refine V_iload_n (pc2 := 2) dX8_term_1 1 rfl rfl ?_
  obtain ⟨⟨b1, m2⟩, e_b1, h⟩ := bS h
  try dsimp only at h
  obtain ⟨⟨fs_b1, o_b1⟩, e_b1⟩ := cV_of e_b1
  refine V_cVi (pc2 := 5) [.int p0] (st := []) o_b1 (hg_X8_part0 e_b1) dX8_term_2 wV_8_260 (hdd) rfl (Nat.le_of_ble_eq_true rfl) ?_
  refine V_ifb_ne (pc2 := 8) (tgt := 10) dX8_term_5 (fun c5 => ?_) (fun c5 => ?_)
  · replace h := iT c5 h
    have hl := h
    clear h
    have key10 : ∀ (n : Nat) (m3 : Mem), loopF (fX8_term_b0 g_X8_part0 a0 p0) n m3 = some (rR, mR) → V D d IX8_term 10 [(0, .ref a0), (1, .int p0)] [] m3 0 0 (Qi (zb rR) mR) := by
      intro n
      induction n with
      | zero => intro m3 h; cases h
      | succ n ih =>
        intro m3 h
        obtain ⟨o, h, ho⟩ := loopF_inv h
        dsimp only [fX8_term_b0] at h
        refine V_aload_n (pc2 := 11) dX8_term_10 0 rfl rfl ?_
        refine V_bipush (v := 42) (pc2 := 13) dX8_term_11 (by decide) ?_
        obtain ⟨b4, e_b4, h⟩ := bS h
        obtain ⟨⟨fs_b4, o_b4⟩, e_b4⟩ := cV_of e_b4
        refine V_cVi (pc2 := 16) [.int (42 : Int32)] (st := []) o_b4 (tX8_isSign e_b4) dX8_term_13 wV_8_241 (by omega) rfl (Nat.le_of_ble_eq_true rfl) ?_
        refine V_ifb_ne (pc2 := 19) (tgt := 28) dX8_term_16 (fun c16 => ?_) (fun c16 => ?_)
        · replace h := iT c16 h
          refine V_aload_n (pc2 := 29) dX8_term_28 0 rfl rfl ?_
          obtain ⟨x5, e_x5, h⟩ := bS h
          refine V_gI (pc2 := 32) e_x5 dX8_term_29 wF_8_219 ?_
          refine V_istore_n (pc2 := 33) (L2 := [(2, .int x5), (0, .ref a0), (1, .int p0)]) dX8_term_32 ?_ rfl rfl rfl
          refine V_aload_n (pc2 := 34) dX8_term_33 1 rfl rfl ?_
          obtain ⟨m6, e_m6, h⟩ := bS h
          obtain ⟨⟨fs_m6, o_m6⟩, e_m6⟩ := cV_of e_m6
          refine V_cVv (pc2 := 37) [] (st := []) o_m6 (tX8_nextToken e_m6) dX8_term_34 wV_8_244 (by omega) rfl (Nat.le_of_ble_eq_true rfl) ?_
          refine V_aload_n (pc2 := 38) dX8_term_37 1 rfl rfl ?_
          refine V_iload_n (pc2 := 39) dX8_term_38 2 rfl rfl ?_
          obtain ⟨⟨b7, m8⟩, e_b7, h⟩ := bS h
          try dsimp only at h
          obtain ⟨⟨fs_b7, o_b7⟩, e_b7⟩ := cV_of e_b7
          refine V_cVi (pc2 := 42) [.int p0] (st := []) o_b7 (hg_X8_part0 e_b7) dX8_term_39 wV_8_260 (hdd) rfl (Nat.le_of_ble_eq_true rfl) ?_
          refine V_ifb_ne (pc2 := 45) (tgt := 47) dX8_term_42 (fun c42 => ?_) (fun c42 => ?_)
          · replace h := iT c42 h
            refine V_aload_n (pc2 := 48) dX8_term_47 1 rfl rfl ?_
            refine V_iconst (v := 2) (pc2 := 49) dX8_term_48 (by decide) ?_
            refine V_iload_n (pc2 := 50) dX8_term_49 0 rfl rfl ?_
            obtain ⟨m9, e_m9, h⟩ := bS h
            obtain ⟨⟨fs_m9, o_m9⟩, e_m9⟩ := cV_of e_m9
            refine V_cVv (pc2 := 53) [.int (2 : Int32), .int x5] (st := []) o_m9 (tX8_step e_m9) dX8_term_50 wV_8_247 (by omega) rfl (Nat.le_of_ble_eq_true rfl) ?_
            refine V_goto (tgt := 10) dX8_term_53 ?_
            have ee := inj1 h
            subst ee
            exact V_lv (ih _ (loopF_c ho)) [1, 2] rfl
          · replace h := iF c42 h
            refine V_iconst (v := 0) (pc2 := 46) dX8_term_45 (by decide) ?_
            have ee := inj1 h
            subst ee
            obtain ⟨e1, e2⟩ := pinj2 (loopF_e ho)
            subst e1
            subst e2
            exact V_bret (b := false) dX8_term_46 rfl ⟨rfl, rfl⟩
        · replace h := iF c16 h
          refine V_aload_n (pc2 := 20) dX8_term_19 0 rfl rfl ?_
          refine V_bipush (v := 47) (pc2 := 22) dX8_term_20 (by decide) ?_
          obtain ⟨b10, e_b10, h⟩ := bS h
          obtain ⟨⟨fs_b10, o_b10⟩, e_b10⟩ := cV_of e_b10
          refine V_cVi (pc2 := 25) [.int (47 : Int32)] (st := []) o_b10 (tX8_isSign e_b10) dX8_term_22 wV_8_241 (by omega) rfl (Nat.le_of_ble_eq_true rfl) ?_
          refine V_ifb_eq (pc2 := 28) (tgt := 56) dX8_term_25 (fun c25 => ?_) (fun c25 => ?_)
          · replace h := iF c25 h
            refine V_iconst (v := 1) (pc2 := 57) dX8_term_56 (by decide) ?_
            have ee := inj1 h
            subst ee
            obtain ⟨e1, e2⟩ := pinj2 (loopF_e ho)
            subst e1
            subst e2
            exact V_bret (b := true) dX8_term_57 rfl ⟨rfl, rfl⟩
          · replace h := iT c25 h
            refine V_aload_n (pc2 := 29) dX8_term_28 0 rfl rfl ?_
            obtain ⟨x11, e_x11, h⟩ := bS h
            refine V_gI (pc2 := 32) e_x11 dX8_term_29 wF_8_219 ?_
            refine V_istore_n (pc2 := 33) (L2 := [(2, .int x11), (0, .ref a0), (1, .int p0)]) dX8_term_32 ?_ rfl rfl rfl
            refine V_aload_n (pc2 := 34) dX8_term_33 1 rfl rfl ?_
            obtain ⟨m12, e_m12, h⟩ := bS h
            obtain ⟨⟨fs_m12, o_m12⟩, e_m12⟩ := cV_of e_m12
            refine V_cVv (pc2 := 37) [] (st := []) o_m12 (tX8_nextToken e_m12) dX8_term_34 wV_8_244 (by omega) rfl (Nat.le_of_ble_eq_true rfl) ?_
            refine V_aload_n (pc2 := 38) dX8_term_37 1 rfl rfl ?_
            refine V_iload_n (pc2 := 39) dX8_term_38 2 rfl rfl ?_
            obtain ⟨⟨b13, m14⟩, e_b13, h⟩ := bS h
            try dsimp only at h
            obtain ⟨⟨fs_b13, o_b13⟩, e_b13⟩ := cV_of e_b13
            refine V_cVi (pc2 := 42) [.int p0] (st := []) o_b13 (hg_X8_part0 e_b13) dX8_term_39 wV_8_260 (hdd) rfl (Nat.le_of_ble_eq_true rfl) ?_
            refine V_ifb_ne (pc2 := 45) (tgt := 47) dX8_term_42 (fun c42 => ?_) (fun c42 => ?_)
            · replace h := iT c42 h
              refine V_aload_n (pc2 := 48) dX8_term_47 1 rfl rfl ?_
              refine V_iconst (v := 2) (pc2 := 49) dX8_term_48 (by decide) ?_
              refine V_iload_n (pc2 := 50) dX8_term_49 0 rfl rfl ?_
              obtain ⟨m15, e_m15, h⟩ := bS h
              obtain ⟨⟨fs_m15, o_m15⟩, e_m15⟩ := cV_of e_m15
              refine V_cVv (pc2 := 53) [.int (2 : Int32), .int x11] (st := []) o_m15 (tX8_step e_m15) dX8_term_50 wV_8_247 (by omega) rfl (Nat.le_of_ble_eq_true rfl) ?_
              refine V_goto (tgt := 10) dX8_term_53 ?_
              have ee := inj1 h
              subst ee
              exact V_lv (ih _ (loopF_c ho)) [1, 2] rfl
            · replace h := iF c42 h
              refine V_iconst (v := 0) (pc2 := 46) dX8_term_45 (by decide) ?_
              have ee := inj1 h
              subst ee
              obtain ⟨e1, e2⟩ := pinj2 (loopF_e ho)
              subst e1
              subst e2
              exact V_bret (b := false) dX8_term_46 rfl ⟨rfl, rfl⟩
    exact V_lv (key10 _ _ hl) [0, 1] rfl
  · replace h := iF c5 h
    refine V_iconst (v := 0) (pc2 := 9) dX8_term_8 (by decide) ?_
    obtain ⟨e1, e2⟩ := inj2 h
    subst e1
    subst e2
    exact V_bret (b := false) dX8_term_9 rfl ⟨rfl, rfl⟩
noncomputable def fX8_part0 (g_X8_either : Nat → Int32 → Mem → Option (Bool × Mem)) (g_X8_part0 : Nat → Int32 → Mem → Option (Bool × Mem)) (a0 : Nat) (p0 : Int32) (m : Mem) : Option (Bool × Mem) :=
  (gI m a0 8 17).bind fun x1 =>
  if x1 = (2 : Int32) then
    (gI m a0 8 18).bind fun x107 =>
    (cV m a0 8 (fX8_step a0 (0 : Int32) x107 m)).bind fun m108 =>
    (gI m108 a0 8 24).bind fun x109 =>
    (pI m108 a0 8 24 (x109 + (1 : Int32))).bind fun m110 =>
    (cV m110 a0 8 (fX8_nextToken a0 m110)).bind fun m111 =>
    some (true, m111)
  else
    (gI m a0 8 17).bind fun x2 =>
    if x2 = (1 : Int32) then
      (gI m a0 8 19).bind fun x35 =>
      if x35 = 0 then
        (cV m a0 8 (fX8_isSign a0 (33 : Int32) m)).bind fun b36 =>
        if b36 = true then
          (gI m a0 8 21).bind fun x48 =>
          if (8 : Int32) ≤ x48 then
            (cV m a0 8 (fX8_isSign a0 (40 : Int32) m)).bind fun b49 =>
            if b49 = true then
              (gI m a0 8 20).bind fun x50 =>
              if x50 = (8 : Int32) then
                some (false, m)
              else
                (gI m a0 8 20).bind fun x51 =>
                (pI m a0 8 20 (x51 + (1 : Int32))).bind fun m52 =>
                (cV m52 a0 8 (fX8_nextToken a0 m52)).bind fun m53 =>
                (cV m53 a0 8 (g_X8_either a0 p0 m53)).bind fun (b54, m55) =>
                if b54 = true then
                  (cV m55 a0 8 (fX8_isSign a0 (41 : Int32) m55)).bind fun b56 =>
                  if b56 = true then
                    (gI m55 a0 8 20).bind fun x57 =>
                    (pI m55 a0 8 20 (x57 - (1 : Int32))).bind fun m58 =>
                    (cV m58 a0 8 (fX8_nextToken a0 m58)).bind fun m59 =>
                    some (true, m59)
                  else
                    some (false, m55)
                else
                  some (false, m55)
            else
              some (false, m)
          else
            (gI m a0 8 21).bind fun x60 =>
            (pI m a0 8 21 (x60 + (1 : Int32))).bind fun m61 =>
            (cV m61 a0 8 (fX8_nextToken a0 m61)).bind fun m62 =>
            (cV m62 a0 8 (g_X8_part0 a0 p0 m62)).bind fun (b63, m64) =>
            if b63 = true then
              (gI m64 a0 8 21).bind fun x65 =>
              (pI m64 a0 8 21 (x65 - (1 : Int32))).bind fun m66 =>
              (cV m66 a0 8 (fX8_step a0 (2 : Int32) (33 : Int32) m66)).bind fun m67 =>
              some (true, m67)
            else
              some (false, m64)
        else
          (cV m a0 8 (fX8_isSign a0 (40 : Int32) m)).bind fun b37 =>
          if b37 = true then
            (gI m a0 8 20).bind fun x38 =>
            if x38 = (8 : Int32) then
              some (false, m)
            else
              (gI m a0 8 20).bind fun x39 =>
              (pI m a0 8 20 (x39 + (1 : Int32))).bind fun m40 =>
              (cV m40 a0 8 (fX8_nextToken a0 m40)).bind fun m41 =>
              (cV m41 a0 8 (g_X8_either a0 p0 m41)).bind fun (b42, m43) =>
              if b42 = true then
                (cV m43 a0 8 (fX8_isSign a0 (41 : Int32) m43)).bind fun b44 =>
                if b44 = true then
                  (gI m43 a0 8 20).bind fun x45 =>
                  (pI m43 a0 8 20 (x45 - (1 : Int32))).bind fun m46 =>
                  (cV m46 a0 8 (fX8_nextToken a0 m46)).bind fun m47 =>
                  some (true, m47)
                else
                  some (false, m43)
              else
                some (false, m43)
          else
            some (false, m)
      else
        (gI m a0 8 19).bind fun x68 =>
        (fX8_isName p0 x68 m).bind fun b69 =>
        if b69 = true then
          (gI m a0 8 19).bind fun x102 =>
          (cV m a0 8 (fX8_step a0 (1 : Int32) x102 m)).bind fun m103 =>
          (gI m103 a0 8 24).bind fun x104 =>
          (pI m103 a0 8 24 (x104 + (1 : Int32))).bind fun m105 =>
          (cV m105 a0 8 (fX8_nextToken a0 m105)).bind fun m106 =>
          some (true, m106)
        else
          (cV m a0 8 (fX8_isSign a0 (33 : Int32) m)).bind fun b70 =>
          if b70 = true then
            (gI m a0 8 21).bind fun x82 =>
            if (8 : Int32) ≤ x82 then
              (cV m a0 8 (fX8_isSign a0 (40 : Int32) m)).bind fun b83 =>
              if b83 = true then
                (gI m a0 8 20).bind fun x84 =>
                if x84 = (8 : Int32) then
                  some (false, m)
                else
                  (gI m a0 8 20).bind fun x85 =>
                  (pI m a0 8 20 (x85 + (1 : Int32))).bind fun m86 =>
                  (cV m86 a0 8 (fX8_nextToken a0 m86)).bind fun m87 =>
                  (cV m87 a0 8 (g_X8_either a0 p0 m87)).bind fun (b88, m89) =>
                  if b88 = true then
                    (cV m89 a0 8 (fX8_isSign a0 (41 : Int32) m89)).bind fun b90 =>
                    if b90 = true then
                      (gI m89 a0 8 20).bind fun x91 =>
                      (pI m89 a0 8 20 (x91 - (1 : Int32))).bind fun m92 =>
                      (cV m92 a0 8 (fX8_nextToken a0 m92)).bind fun m93 =>
                      some (true, m93)
                    else
                      some (false, m89)
                  else
                    some (false, m89)
              else
                some (false, m)
            else
              (gI m a0 8 21).bind fun x94 =>
              (pI m a0 8 21 (x94 + (1 : Int32))).bind fun m95 =>
              (cV m95 a0 8 (fX8_nextToken a0 m95)).bind fun m96 =>
              (cV m96 a0 8 (g_X8_part0 a0 p0 m96)).bind fun (b97, m98) =>
              if b97 = true then
                (gI m98 a0 8 21).bind fun x99 =>
                (pI m98 a0 8 21 (x99 - (1 : Int32))).bind fun m100 =>
                (cV m100 a0 8 (fX8_step a0 (2 : Int32) (33 : Int32) m100)).bind fun m101 =>
                some (true, m101)
              else
                some (false, m98)
          else
            (cV m a0 8 (fX8_isSign a0 (40 : Int32) m)).bind fun b71 =>
            if b71 = true then
              (gI m a0 8 20).bind fun x72 =>
              if x72 = (8 : Int32) then
                some (false, m)
              else
                (gI m a0 8 20).bind fun x73 =>
                (pI m a0 8 20 (x73 + (1 : Int32))).bind fun m74 =>
                (cV m74 a0 8 (fX8_nextToken a0 m74)).bind fun m75 =>
                (cV m75 a0 8 (g_X8_either a0 p0 m75)).bind fun (b76, m77) =>
                if b76 = true then
                  (cV m77 a0 8 (fX8_isSign a0 (41 : Int32) m77)).bind fun b78 =>
                  if b78 = true then
                    (gI m77 a0 8 20).bind fun x79 =>
                    (pI m77 a0 8 20 (x79 - (1 : Int32))).bind fun m80 =>
                    (cV m80 a0 8 (fX8_nextToken a0 m80)).bind fun m81 =>
                    some (true, m81)
                  else
                    some (false, m77)
                else
                  some (false, m77)
            else
              some (false, m)
    else
      (cV m a0 8 (fX8_isSign a0 (33 : Int32) m)).bind fun b3 =>
      if b3 = true then
        (gI m a0 8 21).bind fun x15 =>
        if (8 : Int32) ≤ x15 then
          (cV m a0 8 (fX8_isSign a0 (40 : Int32) m)).bind fun b16 =>
          if b16 = true then
            (gI m a0 8 20).bind fun x17 =>
            if x17 = (8 : Int32) then
              some (false, m)
            else
              (gI m a0 8 20).bind fun x18 =>
              (pI m a0 8 20 (x18 + (1 : Int32))).bind fun m19 =>
              (cV m19 a0 8 (fX8_nextToken a0 m19)).bind fun m20 =>
              (cV m20 a0 8 (g_X8_either a0 p0 m20)).bind fun (b21, m22) =>
              if b21 = true then
                (cV m22 a0 8 (fX8_isSign a0 (41 : Int32) m22)).bind fun b23 =>
                if b23 = true then
                  (gI m22 a0 8 20).bind fun x24 =>
                  (pI m22 a0 8 20 (x24 - (1 : Int32))).bind fun m25 =>
                  (cV m25 a0 8 (fX8_nextToken a0 m25)).bind fun m26 =>
                  some (true, m26)
                else
                  some (false, m22)
              else
                some (false, m22)
          else
            some (false, m)
        else
          (gI m a0 8 21).bind fun x27 =>
          (pI m a0 8 21 (x27 + (1 : Int32))).bind fun m28 =>
          (cV m28 a0 8 (fX8_nextToken a0 m28)).bind fun m29 =>
          (cV m29 a0 8 (g_X8_part0 a0 p0 m29)).bind fun (b30, m31) =>
          if b30 = true then
            (gI m31 a0 8 21).bind fun x32 =>
            (pI m31 a0 8 21 (x32 - (1 : Int32))).bind fun m33 =>
            (cV m33 a0 8 (fX8_step a0 (2 : Int32) (33 : Int32) m33)).bind fun m34 =>
            some (true, m34)
          else
            some (false, m31)
      else
        (cV m a0 8 (fX8_isSign a0 (40 : Int32) m)).bind fun b4 =>
        if b4 = true then
          (gI m a0 8 20).bind fun x5 =>
          if x5 = (8 : Int32) then
            some (false, m)
          else
            (gI m a0 8 20).bind fun x6 =>
            (pI m a0 8 20 (x6 + (1 : Int32))).bind fun m7 =>
            (cV m7 a0 8 (fX8_nextToken a0 m7)).bind fun m8 =>
            (cV m8 a0 8 (g_X8_either a0 p0 m8)).bind fun (b9, m10) =>
            if b9 = true then
              (cV m10 a0 8 (fX8_isSign a0 (41 : Int32) m10)).bind fun b11 =>
              if b11 = true then
                (gI m10 a0 8 20).bind fun x12 =>
                (pI m10 a0 8 20 (x12 - (1 : Int32))).bind fun m13 =>
                (cV m13 a0 8 (fX8_nextToken a0 m13)).bind fun m14 =>
                some (true, m14)
              else
                some (false, m10)
            else
              some (false, m10)
        else
          some (false, m)
set_option maxRecDepth 20000 in
theorem tX8_part0 {D : Dat} {d d2 : Nat} {g_X8_either : Nat → Int32 → Mem → Option (Bool × Mem)} {g_X8_part0 : Nat → Int32 → Mem → Option (Bool × Mem)} {a0 : Nat} {p0 : Int32} {m : Mem} {rR : Bool} {mR : Mem} (hdd : d2 < d) (hg_X8_either : ∀ {a9 : Nat} {q0 : Int32} {m9 : Mem} {r9 : Bool} {m8 : Mem}, g_X8_either a9 q0 m9 = some (r9, m8) → T D d2 IX8_either [.ref a9, .int q0] m9 0 0 (Qi (zb r9) m8)) (hg_X8_part0 : ∀ {a9 : Nat} {q0 : Int32} {m9 : Mem} {r9 : Bool} {m8 : Mem}, g_X8_part0 a9 q0 m9 = some (r9, m8) → T D d2 IX8_part0 [.ref a9, .int q0] m9 0 0 (Qi (zb r9) m8)) (hd0 : 3 ≤ d) (h : fX8_part0 g_X8_either g_X8_part0 a0 p0 m = some (rR, mR)) : T D d IX8_part0 [.ref a0, .int p0] m 0 0 (Qi (zb rR) mR) := by
  refine T_of_V (by decide) (Nat.le_of_ble_eq_true rfl) ?_
  show V D d IX8_part0 0 [(0, .ref a0), (1, .int p0)] [] m 0 0 (Qi (zb rR) mR)
  unfold fX8_part0 at h
  refine V_aload_n (pc2 := 1) dX8_part0_0 0 rfl rfl ?_
  obtain ⟨x1, e_x1, h⟩ := bS h
  refine V_gI (pc2 := 4) e_x1 dX8_part0_1 wF_8_210 ?_
  refine V_iconst (v := 2) (pc2 := 5) dX8_part0_4 (by decide) ?_
  refine V_icmp_ne (pc2 := 8) (tgt := 33) dX8_part0_5 (fun c5 => ?_) (fun c5 => ?_)
  · replace h := iF c5 h
    refine V_aload_n (pc2 := 34) dX8_part0_33 0 rfl rfl ?_
    obtain ⟨x2, e_x2, h⟩ := bS h
    refine V_gI (pc2 := 37) e_x2 dX8_part0_34 wF_8_210 ?_
    refine V_iconst (v := 1) (pc2 := 38) dX8_part0_37 (by decide) ?_
    refine V_icmp_ne (pc2 := 41) (tgt := 84) dX8_part0_38 (fun c38 => ?_) (fun c38 => ?_)
    · replace h := iF c38 h
      refine V_aload_n (pc2 := 85) dX8_part0_84 0 rfl rfl ?_
      refine V_bipush (v := 33) (pc2 := 87) dX8_part0_85 (by decide) ?_
      obtain ⟨b3, e_b3, h⟩ := bS h
      obtain ⟨⟨fs_b3, o_b3⟩, e_b3⟩ := cV_of e_b3
      refine V_cVi (pc2 := 90) [.int (33 : Int32)] (st := []) o_b3 (tX8_isSign e_b3) dX8_part0_87 wV_8_241 (by omega) rfl (Nat.le_of_ble_eq_true rfl) ?_
      refine V_ifb_eq (pc2 := 93) (tgt := 145) dX8_part0_90 (fun c90 => ?_) (fun c90 => ?_)
      · replace h := iF c90 h
        refine V_aload_n (pc2 := 146) dX8_part0_145 0 rfl rfl ?_
        refine V_bipush (v := 40) (pc2 := 148) dX8_part0_146 (by decide) ?_
        obtain ⟨b4, e_b4, h⟩ := bS h
        obtain ⟨⟨fs_b4, o_b4⟩, e_b4⟩ := cV_of e_b4
        refine V_cVi (pc2 := 151) [.int (40 : Int32)] (st := []) o_b4 (tX8_isSign e_b4) dX8_part0_148 wV_8_241 (by omega) rfl (Nat.le_of_ble_eq_true rfl) ?_
        refine V_ifb_eq (pc2 := 154) (tgt := 163) dX8_part0_151 (fun c151 => ?_) (fun c151 => ?_)
        · replace h := iF c151 h
          refine V_iconst (v := 0) (pc2 := 164) dX8_part0_163 (by decide) ?_
          obtain ⟨e1, e2⟩ := inj2 h
          subst e1
          subst e2
          exact V_bret (b := false) dX8_part0_164 rfl ⟨rfl, rfl⟩
        · replace h := iT c151 h
          refine V_aload_n (pc2 := 155) dX8_part0_154 0 rfl rfl ?_
          obtain ⟨x5, e_x5, h⟩ := bS h
          refine V_gI (pc2 := 158) e_x5 dX8_part0_155 wF_8_272 ?_
          refine V_bipush (v := 8) (pc2 := 160) dX8_part0_158 (by decide) ?_
          refine V_icmp_ne (pc2 := 163) (tgt := 165) dX8_part0_160 (fun c160 => ?_) (fun c160 => ?_)
          · replace h := iF c160 h
            refine V_aload_n (pc2 := 166) dX8_part0_165 0 rfl rfl ?_
            refine V_dup (pc2 := 167) dX8_part0_166 rfl ?_
            obtain ⟨x6, e_x6, h⟩ := bS h
            refine V_gI (pc2 := 170) e_x6 dX8_part0_167 wF_8_272 ?_
            refine V_iconst (v := 1) (pc2 := 171) dX8_part0_170 (by decide) ?_
            refine V_iadd (pc2 := 172) dX8_part0_171 ?_
            obtain ⟨m7, e_m7, h⟩ := bS h
            refine V_pI (pc2 := 175) e_m7 dX8_part0_172 wP_8_272 rfl rfl ?_
            refine V_aload_n (pc2 := 176) dX8_part0_175 0 rfl rfl ?_
            obtain ⟨m8, e_m8, h⟩ := bS h
            obtain ⟨⟨fs_m8, o_m8⟩, e_m8⟩ := cV_of e_m8
            refine V_cVv (pc2 := 179) [] (st := []) o_m8 (tX8_nextToken e_m8) dX8_part0_176 wV_8_244 (by omega) rfl (Nat.le_of_ble_eq_true rfl) ?_
            refine V_aload_n (pc2 := 180) dX8_part0_179 0 rfl rfl ?_
            refine V_iload_n (pc2 := 181) dX8_part0_180 1 rfl rfl ?_
            obtain ⟨⟨b9, m10⟩, e_b9, h⟩ := bS h
            try dsimp only at h
            obtain ⟨⟨fs_b9, o_b9⟩, e_b9⟩ := cV_of e_b9
            refine V_cVi (pc2 := 184) [.int p0] (st := []) o_b9 (hg_X8_either e_b9) dX8_part0_181 wV_8_275 (hdd) rfl (Nat.le_of_ble_eq_true rfl) ?_
            refine V_ifb_eq (pc2 := 187) (tgt := 196) dX8_part0_184 (fun c184 => ?_) (fun c184 => ?_)
            · replace h := iF c184 h
              refine V_iconst (v := 0) (pc2 := 197) dX8_part0_196 (by decide) ?_
              obtain ⟨e1, e2⟩ := inj2 h
              subst e1
              subst e2
              exact V_bret (b := false) dX8_part0_197 rfl ⟨rfl, rfl⟩
            · replace h := iT c184 h
              refine V_aload_n (pc2 := 188) dX8_part0_187 0 rfl rfl ?_
              refine V_bipush (v := 41) (pc2 := 190) dX8_part0_188 (by decide) ?_
              obtain ⟨b11, e_b11, h⟩ := bS h
              obtain ⟨⟨fs_b11, o_b11⟩, e_b11⟩ := cV_of e_b11
              refine V_cVi (pc2 := 193) [.int (41 : Int32)] (st := []) o_b11 (tX8_isSign e_b11) dX8_part0_190 wV_8_241 (by omega) rfl (Nat.le_of_ble_eq_true rfl) ?_
              refine V_ifb_ne (pc2 := 196) (tgt := 198) dX8_part0_193 (fun c193 => ?_) (fun c193 => ?_)
              · replace h := iT c193 h
                refine V_aload_n (pc2 := 199) dX8_part0_198 0 rfl rfl ?_
                refine V_dup (pc2 := 200) dX8_part0_199 rfl ?_
                obtain ⟨x12, e_x12, h⟩ := bS h
                refine V_gI (pc2 := 203) e_x12 dX8_part0_200 wF_8_272 ?_
                refine V_iconst (v := 1) (pc2 := 204) dX8_part0_203 (by decide) ?_
                refine V_isub (pc2 := 205) dX8_part0_204 ?_
                obtain ⟨m13, e_m13, h⟩ := bS h
                refine V_pI (pc2 := 208) e_m13 dX8_part0_205 wP_8_272 rfl rfl ?_
                refine V_aload_n (pc2 := 209) dX8_part0_208 0 rfl rfl ?_
                obtain ⟨m14, e_m14, h⟩ := bS h
                obtain ⟨⟨fs_m14, o_m14⟩, e_m14⟩ := cV_of e_m14
                refine V_cVv (pc2 := 212) [] (st := []) o_m14 (tX8_nextToken e_m14) dX8_part0_209 wV_8_244 (by omega) rfl (Nat.le_of_ble_eq_true rfl) ?_
                refine V_iconst (v := 1) (pc2 := 213) dX8_part0_212 (by decide) ?_
                obtain ⟨e1, e2⟩ := inj2 h
                subst e1
                subst e2
                exact V_bret (b := true) dX8_part0_213 rfl ⟨rfl, rfl⟩
              · replace h := iF c193 h
                refine V_iconst (v := 0) (pc2 := 197) dX8_part0_196 (by decide) ?_
                obtain ⟨e1, e2⟩ := inj2 h
                subst e1
                subst e2
                exact V_bret (b := false) dX8_part0_197 rfl ⟨rfl, rfl⟩
          · replace h := iT c160 h
            refine V_iconst (v := 0) (pc2 := 164) dX8_part0_163 (by decide) ?_
            obtain ⟨e1, e2⟩ := inj2 h
            subst e1
            subst e2
            exact V_bret (b := false) dX8_part0_164 rfl ⟨rfl, rfl⟩
      · replace h := iT c90 h
        refine V_aload_n (pc2 := 94) dX8_part0_93 0 rfl rfl ?_
        obtain ⟨x15, e_x15, h⟩ := bS h
        refine V_gI (pc2 := 97) e_x15 dX8_part0_94 wF_8_269 ?_
        refine V_bipush (v := 8) (pc2 := 99) dX8_part0_97 (by decide) ?_
        refine V_icmp_ge (pc2 := 102) (tgt := 145) dX8_part0_99 (fun c99 => ?_) (fun c99 => ?_)
        · replace h := iT c99 h
          refine V_aload_n (pc2 := 146) dX8_part0_145 0 rfl rfl ?_
          refine V_bipush (v := 40) (pc2 := 148) dX8_part0_146 (by decide) ?_
          obtain ⟨b16, e_b16, h⟩ := bS h
          obtain ⟨⟨fs_b16, o_b16⟩, e_b16⟩ := cV_of e_b16
          refine V_cVi (pc2 := 151) [.int (40 : Int32)] (st := []) o_b16 (tX8_isSign e_b16) dX8_part0_148 wV_8_241 (by omega) rfl (Nat.le_of_ble_eq_true rfl) ?_
          refine V_ifb_eq (pc2 := 154) (tgt := 163) dX8_part0_151 (fun c151 => ?_) (fun c151 => ?_)
          · replace h := iF c151 h
            refine V_iconst (v := 0) (pc2 := 164) dX8_part0_163 (by decide) ?_
            obtain ⟨e1, e2⟩ := inj2 h
            subst e1
            subst e2
            exact V_bret (b := false) dX8_part0_164 rfl ⟨rfl, rfl⟩
          · replace h := iT c151 h
            refine V_aload_n (pc2 := 155) dX8_part0_154 0 rfl rfl ?_
            obtain ⟨x17, e_x17, h⟩ := bS h
            refine V_gI (pc2 := 158) e_x17 dX8_part0_155 wF_8_272 ?_
            refine V_bipush (v := 8) (pc2 := 160) dX8_part0_158 (by decide) ?_
            refine V_icmp_ne (pc2 := 163) (tgt := 165) dX8_part0_160 (fun c160 => ?_) (fun c160 => ?_)
            · replace h := iF c160 h
              refine V_aload_n (pc2 := 166) dX8_part0_165 0 rfl rfl ?_
              refine V_dup (pc2 := 167) dX8_part0_166 rfl ?_
              obtain ⟨x18, e_x18, h⟩ := bS h
              refine V_gI (pc2 := 170) e_x18 dX8_part0_167 wF_8_272 ?_
              refine V_iconst (v := 1) (pc2 := 171) dX8_part0_170 (by decide) ?_
              refine V_iadd (pc2 := 172) dX8_part0_171 ?_
              obtain ⟨m19, e_m19, h⟩ := bS h
              refine V_pI (pc2 := 175) e_m19 dX8_part0_172 wP_8_272 rfl rfl ?_
              refine V_aload_n (pc2 := 176) dX8_part0_175 0 rfl rfl ?_
              obtain ⟨m20, e_m20, h⟩ := bS h
              obtain ⟨⟨fs_m20, o_m20⟩, e_m20⟩ := cV_of e_m20
              refine V_cVv (pc2 := 179) [] (st := []) o_m20 (tX8_nextToken e_m20) dX8_part0_176 wV_8_244 (by omega) rfl (Nat.le_of_ble_eq_true rfl) ?_
              refine V_aload_n (pc2 := 180) dX8_part0_179 0 rfl rfl ?_
              refine V_iload_n (pc2 := 181) dX8_part0_180 1 rfl rfl ?_
              obtain ⟨⟨b21, m22⟩, e_b21, h⟩ := bS h
              try dsimp only at h
              obtain ⟨⟨fs_b21, o_b21⟩, e_b21⟩ := cV_of e_b21
              refine V_cVi (pc2 := 184) [.int p0] (st := []) o_b21 (hg_X8_either e_b21) dX8_part0_181 wV_8_275 (hdd) rfl (Nat.le_of_ble_eq_true rfl) ?_
              refine V_ifb_eq (pc2 := 187) (tgt := 196) dX8_part0_184 (fun c184 => ?_) (fun c184 => ?_)
              · replace h := iF c184 h
                refine V_iconst (v := 0) (pc2 := 197) dX8_part0_196 (by decide) ?_
                obtain ⟨e1, e2⟩ := inj2 h
                subst e1
                subst e2
                exact V_bret (b := false) dX8_part0_197 rfl ⟨rfl, rfl⟩
              · replace h := iT c184 h
                refine V_aload_n (pc2 := 188) dX8_part0_187 0 rfl rfl ?_
                refine V_bipush (v := 41) (pc2 := 190) dX8_part0_188 (by decide) ?_
                obtain ⟨b23, e_b23, h⟩ := bS h
                obtain ⟨⟨fs_b23, o_b23⟩, e_b23⟩ := cV_of e_b23
                refine V_cVi (pc2 := 193) [.int (41 : Int32)] (st := []) o_b23 (tX8_isSign e_b23) dX8_part0_190 wV_8_241 (by omega) rfl (Nat.le_of_ble_eq_true rfl) ?_
                refine V_ifb_ne (pc2 := 196) (tgt := 198) dX8_part0_193 (fun c193 => ?_) (fun c193 => ?_)
                · replace h := iT c193 h
                  refine V_aload_n (pc2 := 199) dX8_part0_198 0 rfl rfl ?_
                  refine V_dup (pc2 := 200) dX8_part0_199 rfl ?_
                  obtain ⟨x24, e_x24, h⟩ := bS h
                  refine V_gI (pc2 := 203) e_x24 dX8_part0_200 wF_8_272 ?_
                  refine V_iconst (v := 1) (pc2 := 204) dX8_part0_203 (by decide) ?_
                  refine V_isub (pc2 := 205) dX8_part0_204 ?_
                  obtain ⟨m25, e_m25, h⟩ := bS h
                  refine V_pI (pc2 := 208) e_m25 dX8_part0_205 wP_8_272 rfl rfl ?_
                  refine V_aload_n (pc2 := 209) dX8_part0_208 0 rfl rfl ?_
                  obtain ⟨m26, e_m26, h⟩ := bS h
                  obtain ⟨⟨fs_m26, o_m26⟩, e_m26⟩ := cV_of e_m26
                  refine V_cVv (pc2 := 212) [] (st := []) o_m26 (tX8_nextToken e_m26) dX8_part0_209 wV_8_244 (by omega) rfl (Nat.le_of_ble_eq_true rfl) ?_
                  refine V_iconst (v := 1) (pc2 := 213) dX8_part0_212 (by decide) ?_
                  obtain ⟨e1, e2⟩ := inj2 h
                  subst e1
                  subst e2
                  exact V_bret (b := true) dX8_part0_213 rfl ⟨rfl, rfl⟩
                · replace h := iF c193 h
                  refine V_iconst (v := 0) (pc2 := 197) dX8_part0_196 (by decide) ?_
                  obtain ⟨e1, e2⟩ := inj2 h
                  subst e1
                  subst e2
                  exact V_bret (b := false) dX8_part0_197 rfl ⟨rfl, rfl⟩
            · replace h := iT c160 h
              refine V_iconst (v := 0) (pc2 := 164) dX8_part0_163 (by decide) ?_
              obtain ⟨e1, e2⟩ := inj2 h
              subst e1
              subst e2
              exact V_bret (b := false) dX8_part0_164 rfl ⟨rfl, rfl⟩
        · replace h := iF c99 h
          refine V_aload_n (pc2 := 103) dX8_part0_102 0 rfl rfl ?_
          refine V_dup (pc2 := 104) dX8_part0_103 rfl ?_
          obtain ⟨x27, e_x27, h⟩ := bS h
          refine V_gI (pc2 := 107) e_x27 dX8_part0_104 wF_8_269 ?_
          refine V_iconst (v := 1) (pc2 := 108) dX8_part0_107 (by decide) ?_
          refine V_iadd (pc2 := 109) dX8_part0_108 ?_
          obtain ⟨m28, e_m28, h⟩ := bS h
          refine V_pI (pc2 := 112) e_m28 dX8_part0_109 wP_8_269 rfl rfl ?_
          refine V_aload_n (pc2 := 113) dX8_part0_112 0 rfl rfl ?_
          obtain ⟨m29, e_m29, h⟩ := bS h
          obtain ⟨⟨fs_m29, o_m29⟩, e_m29⟩ := cV_of e_m29
          refine V_cVv (pc2 := 116) [] (st := []) o_m29 (tX8_nextToken e_m29) dX8_part0_113 wV_8_244 (by omega) rfl (Nat.le_of_ble_eq_true rfl) ?_
          refine V_aload_n (pc2 := 117) dX8_part0_116 0 rfl rfl ?_
          refine V_iload_n (pc2 := 118) dX8_part0_117 1 rfl rfl ?_
          obtain ⟨⟨b30, m31⟩, e_b30, h⟩ := bS h
          try dsimp only at h
          obtain ⟨⟨fs_b30, o_b30⟩, e_b30⟩ := cV_of e_b30
          refine V_cVi (pc2 := 121) [.int p0] (st := []) o_b30 (hg_X8_part0 e_b30) dX8_part0_118 wV_8_260 (hdd) rfl (Nat.le_of_ble_eq_true rfl) ?_
          refine V_ifb_ne (pc2 := 124) (tgt := 126) dX8_part0_121 (fun c121 => ?_) (fun c121 => ?_)
          · replace h := iT c121 h
            refine V_aload_n (pc2 := 127) dX8_part0_126 0 rfl rfl ?_
            refine V_dup (pc2 := 128) dX8_part0_127 rfl ?_
            obtain ⟨x32, e_x32, h⟩ := bS h
            refine V_gI (pc2 := 131) e_x32 dX8_part0_128 wF_8_269 ?_
            refine V_iconst (v := 1) (pc2 := 132) dX8_part0_131 (by decide) ?_
            refine V_isub (pc2 := 133) dX8_part0_132 ?_
            obtain ⟨m33, e_m33, h⟩ := bS h
            refine V_pI (pc2 := 136) e_m33 dX8_part0_133 wP_8_269 rfl rfl ?_
            refine V_aload_n (pc2 := 137) dX8_part0_136 0 rfl rfl ?_
            refine V_iconst (v := 2) (pc2 := 138) dX8_part0_137 (by decide) ?_
            refine V_bipush (v := 33) (pc2 := 140) dX8_part0_138 (by decide) ?_
            obtain ⟨m34, e_m34, h⟩ := bS h
            obtain ⟨⟨fs_m34, o_m34⟩, e_m34⟩ := cV_of e_m34
            refine V_cVv (pc2 := 143) [.int (2 : Int32), .int (33 : Int32)] (st := []) o_m34 (tX8_step e_m34) dX8_part0_140 wV_8_247 (by omega) rfl (Nat.le_of_ble_eq_true rfl) ?_
            refine V_iconst (v := 1) (pc2 := 144) dX8_part0_143 (by decide) ?_
            obtain ⟨e1, e2⟩ := inj2 h
            subst e1
            subst e2
            exact V_bret (b := true) dX8_part0_144 rfl ⟨rfl, rfl⟩
          · replace h := iF c121 h
            refine V_iconst (v := 0) (pc2 := 125) dX8_part0_124 (by decide) ?_
            obtain ⟨e1, e2⟩ := inj2 h
            subst e1
            subst e2
            exact V_bret (b := false) dX8_part0_125 rfl ⟨rfl, rfl⟩
    · replace h := iT c38 h
      refine V_aload_n (pc2 := 42) dX8_part0_41 0 rfl rfl ?_
      obtain ⟨x35, e_x35, h⟩ := bS h
      refine V_gI (pc2 := 45) e_x35 dX8_part0_42 wF_8_219 ?_
      refine V_if_eq (pc2 := 48) (tgt := 84) dX8_part0_45 (fun c45 => ?_) (fun c45 => ?_)
      · replace h := iT c45 h
        refine V_aload_n (pc2 := 85) dX8_part0_84 0 rfl rfl ?_
        refine V_bipush (v := 33) (pc2 := 87) dX8_part0_85 (by decide) ?_
        obtain ⟨b36, e_b36, h⟩ := bS h
        obtain ⟨⟨fs_b36, o_b36⟩, e_b36⟩ := cV_of e_b36
        refine V_cVi (pc2 := 90) [.int (33 : Int32)] (st := []) o_b36 (tX8_isSign e_b36) dX8_part0_87 wV_8_241 (by omega) rfl (Nat.le_of_ble_eq_true rfl) ?_
        refine V_ifb_eq (pc2 := 93) (tgt := 145) dX8_part0_90 (fun c90 => ?_) (fun c90 => ?_)
        · replace h := iF c90 h
          refine V_aload_n (pc2 := 146) dX8_part0_145 0 rfl rfl ?_
          refine V_bipush (v := 40) (pc2 := 148) dX8_part0_146 (by decide) ?_
          obtain ⟨b37, e_b37, h⟩ := bS h
          obtain ⟨⟨fs_b37, o_b37⟩, e_b37⟩ := cV_of e_b37
          refine V_cVi (pc2 := 151) [.int (40 : Int32)] (st := []) o_b37 (tX8_isSign e_b37) dX8_part0_148 wV_8_241 (by omega) rfl (Nat.le_of_ble_eq_true rfl) ?_
          refine V_ifb_eq (pc2 := 154) (tgt := 163) dX8_part0_151 (fun c151 => ?_) (fun c151 => ?_)
          · replace h := iF c151 h
            refine V_iconst (v := 0) (pc2 := 164) dX8_part0_163 (by decide) ?_
            obtain ⟨e1, e2⟩ := inj2 h
            subst e1
            subst e2
            exact V_bret (b := false) dX8_part0_164 rfl ⟨rfl, rfl⟩
          · replace h := iT c151 h
            refine V_aload_n (pc2 := 155) dX8_part0_154 0 rfl rfl ?_
            obtain ⟨x38, e_x38, h⟩ := bS h
            refine V_gI (pc2 := 158) e_x38 dX8_part0_155 wF_8_272 ?_
            refine V_bipush (v := 8) (pc2 := 160) dX8_part0_158 (by decide) ?_
            refine V_icmp_ne (pc2 := 163) (tgt := 165) dX8_part0_160 (fun c160 => ?_) (fun c160 => ?_)
            · replace h := iF c160 h
              refine V_aload_n (pc2 := 166) dX8_part0_165 0 rfl rfl ?_
              refine V_dup (pc2 := 167) dX8_part0_166 rfl ?_
              obtain ⟨x39, e_x39, h⟩ := bS h
              refine V_gI (pc2 := 170) e_x39 dX8_part0_167 wF_8_272 ?_
              refine V_iconst (v := 1) (pc2 := 171) dX8_part0_170 (by decide) ?_
              refine V_iadd (pc2 := 172) dX8_part0_171 ?_
              obtain ⟨m40, e_m40, h⟩ := bS h
              refine V_pI (pc2 := 175) e_m40 dX8_part0_172 wP_8_272 rfl rfl ?_
              refine V_aload_n (pc2 := 176) dX8_part0_175 0 rfl rfl ?_
              obtain ⟨m41, e_m41, h⟩ := bS h
              obtain ⟨⟨fs_m41, o_m41⟩, e_m41⟩ := cV_of e_m41
              refine V_cVv (pc2 := 179) [] (st := []) o_m41 (tX8_nextToken e_m41) dX8_part0_176 wV_8_244 (by omega) rfl (Nat.le_of_ble_eq_true rfl) ?_
              refine V_aload_n (pc2 := 180) dX8_part0_179 0 rfl rfl ?_
              refine V_iload_n (pc2 := 181) dX8_part0_180 1 rfl rfl ?_
              obtain ⟨⟨b42, m43⟩, e_b42, h⟩ := bS h
              try dsimp only at h
              obtain ⟨⟨fs_b42, o_b42⟩, e_b42⟩ := cV_of e_b42
              refine V_cVi (pc2 := 184) [.int p0] (st := []) o_b42 (hg_X8_either e_b42) dX8_part0_181 wV_8_275 (hdd) rfl (Nat.le_of_ble_eq_true rfl) ?_
              refine V_ifb_eq (pc2 := 187) (tgt := 196) dX8_part0_184 (fun c184 => ?_) (fun c184 => ?_)
              · replace h := iF c184 h
                refine V_iconst (v := 0) (pc2 := 197) dX8_part0_196 (by decide) ?_
                obtain ⟨e1, e2⟩ := inj2 h
                subst e1
                subst e2
                exact V_bret (b := false) dX8_part0_197 rfl ⟨rfl, rfl⟩
              · replace h := iT c184 h
                refine V_aload_n (pc2 := 188) dX8_part0_187 0 rfl rfl ?_
                refine V_bipush (v := 41) (pc2 := 190) dX8_part0_188 (by decide) ?_
                obtain ⟨b44, e_b44, h⟩ := bS h
                obtain ⟨⟨fs_b44, o_b44⟩, e_b44⟩ := cV_of e_b44
                refine V_cVi (pc2 := 193) [.int (41 : Int32)] (st := []) o_b44 (tX8_isSign e_b44) dX8_part0_190 wV_8_241 (by omega) rfl (Nat.le_of_ble_eq_true rfl) ?_
                refine V_ifb_ne (pc2 := 196) (tgt := 198) dX8_part0_193 (fun c193 => ?_) (fun c193 => ?_)
                · replace h := iT c193 h
                  refine V_aload_n (pc2 := 199) dX8_part0_198 0 rfl rfl ?_
                  refine V_dup (pc2 := 200) dX8_part0_199 rfl ?_
                  obtain ⟨x45, e_x45, h⟩ := bS h
                  refine V_gI (pc2 := 203) e_x45 dX8_part0_200 wF_8_272 ?_
                  refine V_iconst (v := 1) (pc2 := 204) dX8_part0_203 (by decide) ?_
                  refine V_isub (pc2 := 205) dX8_part0_204 ?_
                  obtain ⟨m46, e_m46, h⟩ := bS h
                  refine V_pI (pc2 := 208) e_m46 dX8_part0_205 wP_8_272 rfl rfl ?_
                  refine V_aload_n (pc2 := 209) dX8_part0_208 0 rfl rfl ?_
                  obtain ⟨m47, e_m47, h⟩ := bS h
                  obtain ⟨⟨fs_m47, o_m47⟩, e_m47⟩ := cV_of e_m47
                  refine V_cVv (pc2 := 212) [] (st := []) o_m47 (tX8_nextToken e_m47) dX8_part0_209 wV_8_244 (by omega) rfl (Nat.le_of_ble_eq_true rfl) ?_
                  refine V_iconst (v := 1) (pc2 := 213) dX8_part0_212 (by decide) ?_
                  obtain ⟨e1, e2⟩ := inj2 h
                  subst e1
                  subst e2
                  exact V_bret (b := true) dX8_part0_213 rfl ⟨rfl, rfl⟩
                · replace h := iF c193 h
                  refine V_iconst (v := 0) (pc2 := 197) dX8_part0_196 (by decide) ?_
                  obtain ⟨e1, e2⟩ := inj2 h
                  subst e1
                  subst e2
                  exact V_bret (b := false) dX8_part0_197 rfl ⟨rfl, rfl⟩
            · replace h := iT c160 h
              refine V_iconst (v := 0) (pc2 := 164) dX8_part0_163 (by decide) ?_
              obtain ⟨e1, e2⟩ := inj2 h
              subst e1
              subst e2
              exact V_bret (b := false) dX8_part0_164 rfl ⟨rfl, rfl⟩
        · replace h := iT c90 h
          refine V_aload_n (pc2 := 94) dX8_part0_93 0 rfl rfl ?_
          obtain ⟨x48, e_x48, h⟩ := bS h
          refine V_gI (pc2 := 97) e_x48 dX8_part0_94 wF_8_269 ?_
          refine V_bipush (v := 8) (pc2 := 99) dX8_part0_97 (by decide) ?_
          refine V_icmp_ge (pc2 := 102) (tgt := 145) dX8_part0_99 (fun c99 => ?_) (fun c99 => ?_)
          · replace h := iT c99 h
            refine V_aload_n (pc2 := 146) dX8_part0_145 0 rfl rfl ?_
            refine V_bipush (v := 40) (pc2 := 148) dX8_part0_146 (by decide) ?_
            obtain ⟨b49, e_b49, h⟩ := bS h
            obtain ⟨⟨fs_b49, o_b49⟩, e_b49⟩ := cV_of e_b49
            refine V_cVi (pc2 := 151) [.int (40 : Int32)] (st := []) o_b49 (tX8_isSign e_b49) dX8_part0_148 wV_8_241 (by omega) rfl (Nat.le_of_ble_eq_true rfl) ?_
            refine V_ifb_eq (pc2 := 154) (tgt := 163) dX8_part0_151 (fun c151 => ?_) (fun c151 => ?_)
            · replace h := iF c151 h
              refine V_iconst (v := 0) (pc2 := 164) dX8_part0_163 (by decide) ?_
              obtain ⟨e1, e2⟩ := inj2 h
              subst e1
              subst e2
              exact V_bret (b := false) dX8_part0_164 rfl ⟨rfl, rfl⟩
            · replace h := iT c151 h
              refine V_aload_n (pc2 := 155) dX8_part0_154 0 rfl rfl ?_
              obtain ⟨x50, e_x50, h⟩ := bS h
              refine V_gI (pc2 := 158) e_x50 dX8_part0_155 wF_8_272 ?_
              refine V_bipush (v := 8) (pc2 := 160) dX8_part0_158 (by decide) ?_
              refine V_icmp_ne (pc2 := 163) (tgt := 165) dX8_part0_160 (fun c160 => ?_) (fun c160 => ?_)
              · replace h := iF c160 h
                refine V_aload_n (pc2 := 166) dX8_part0_165 0 rfl rfl ?_
                refine V_dup (pc2 := 167) dX8_part0_166 rfl ?_
                obtain ⟨x51, e_x51, h⟩ := bS h
                refine V_gI (pc2 := 170) e_x51 dX8_part0_167 wF_8_272 ?_
                refine V_iconst (v := 1) (pc2 := 171) dX8_part0_170 (by decide) ?_
                refine V_iadd (pc2 := 172) dX8_part0_171 ?_
                obtain ⟨m52, e_m52, h⟩ := bS h
                refine V_pI (pc2 := 175) e_m52 dX8_part0_172 wP_8_272 rfl rfl ?_
                refine V_aload_n (pc2 := 176) dX8_part0_175 0 rfl rfl ?_
                obtain ⟨m53, e_m53, h⟩ := bS h
                obtain ⟨⟨fs_m53, o_m53⟩, e_m53⟩ := cV_of e_m53
                refine V_cVv (pc2 := 179) [] (st := []) o_m53 (tX8_nextToken e_m53) dX8_part0_176 wV_8_244 (by omega) rfl (Nat.le_of_ble_eq_true rfl) ?_
                refine V_aload_n (pc2 := 180) dX8_part0_179 0 rfl rfl ?_
                refine V_iload_n (pc2 := 181) dX8_part0_180 1 rfl rfl ?_
                obtain ⟨⟨b54, m55⟩, e_b54, h⟩ := bS h
                try dsimp only at h
                obtain ⟨⟨fs_b54, o_b54⟩, e_b54⟩ := cV_of e_b54
                refine V_cVi (pc2 := 184) [.int p0] (st := []) o_b54 (hg_X8_either e_b54) dX8_part0_181 wV_8_275 (hdd) rfl (Nat.le_of_ble_eq_true rfl) ?_
                refine V_ifb_eq (pc2 := 187) (tgt := 196) dX8_part0_184 (fun c184 => ?_) (fun c184 => ?_)
                · replace h := iF c184 h
                  refine V_iconst (v := 0) (pc2 := 197) dX8_part0_196 (by decide) ?_
                  obtain ⟨e1, e2⟩ := inj2 h
                  subst e1
                  subst e2
                  exact V_bret (b := false) dX8_part0_197 rfl ⟨rfl, rfl⟩
                · replace h := iT c184 h
                  refine V_aload_n (pc2 := 188) dX8_part0_187 0 rfl rfl ?_
                  refine V_bipush (v := 41) (pc2 := 190) dX8_part0_188 (by decide) ?_
                  obtain ⟨b56, e_b56, h⟩ := bS h
                  obtain ⟨⟨fs_b56, o_b56⟩, e_b56⟩ := cV_of e_b56
                  refine V_cVi (pc2 := 193) [.int (41 : Int32)] (st := []) o_b56 (tX8_isSign e_b56) dX8_part0_190 wV_8_241 (by omega) rfl (Nat.le_of_ble_eq_true rfl) ?_
                  refine V_ifb_ne (pc2 := 196) (tgt := 198) dX8_part0_193 (fun c193 => ?_) (fun c193 => ?_)
                  · replace h := iT c193 h
                    refine V_aload_n (pc2 := 199) dX8_part0_198 0 rfl rfl ?_
                    refine V_dup (pc2 := 200) dX8_part0_199 rfl ?_
                    obtain ⟨x57, e_x57, h⟩ := bS h
                    refine V_gI (pc2 := 203) e_x57 dX8_part0_200 wF_8_272 ?_
                    refine V_iconst (v := 1) (pc2 := 204) dX8_part0_203 (by decide) ?_
                    refine V_isub (pc2 := 205) dX8_part0_204 ?_
                    obtain ⟨m58, e_m58, h⟩ := bS h
                    refine V_pI (pc2 := 208) e_m58 dX8_part0_205 wP_8_272 rfl rfl ?_
                    refine V_aload_n (pc2 := 209) dX8_part0_208 0 rfl rfl ?_
                    obtain ⟨m59, e_m59, h⟩ := bS h
                    obtain ⟨⟨fs_m59, o_m59⟩, e_m59⟩ := cV_of e_m59
                    refine V_cVv (pc2 := 212) [] (st := []) o_m59 (tX8_nextToken e_m59) dX8_part0_209 wV_8_244 (by omega) rfl (Nat.le_of_ble_eq_true rfl) ?_
                    refine V_iconst (v := 1) (pc2 := 213) dX8_part0_212 (by decide) ?_
                    obtain ⟨e1, e2⟩ := inj2 h
                    subst e1
                    subst e2
                    exact V_bret (b := true) dX8_part0_213 rfl ⟨rfl, rfl⟩
                  · replace h := iF c193 h
                    refine V_iconst (v := 0) (pc2 := 197) dX8_part0_196 (by decide) ?_
                    obtain ⟨e1, e2⟩ := inj2 h
                    subst e1
                    subst e2
                    exact V_bret (b := false) dX8_part0_197 rfl ⟨rfl, rfl⟩
              · replace h := iT c160 h
                refine V_iconst (v := 0) (pc2 := 164) dX8_part0_163 (by decide) ?_
                obtain ⟨e1, e2⟩ := inj2 h
                subst e1
                subst e2
                exact V_bret (b := false) dX8_part0_164 rfl ⟨rfl, rfl⟩
          · replace h := iF c99 h
            refine V_aload_n (pc2 := 103) dX8_part0_102 0 rfl rfl ?_
            refine V_dup (pc2 := 104) dX8_part0_103 rfl ?_
            obtain ⟨x60, e_x60, h⟩ := bS h
            refine V_gI (pc2 := 107) e_x60 dX8_part0_104 wF_8_269 ?_
            refine V_iconst (v := 1) (pc2 := 108) dX8_part0_107 (by decide) ?_
            refine V_iadd (pc2 := 109) dX8_part0_108 ?_
            obtain ⟨m61, e_m61, h⟩ := bS h
            refine V_pI (pc2 := 112) e_m61 dX8_part0_109 wP_8_269 rfl rfl ?_
            refine V_aload_n (pc2 := 113) dX8_part0_112 0 rfl rfl ?_
            obtain ⟨m62, e_m62, h⟩ := bS h
            obtain ⟨⟨fs_m62, o_m62⟩, e_m62⟩ := cV_of e_m62
            refine V_cVv (pc2 := 116) [] (st := []) o_m62 (tX8_nextToken e_m62) dX8_part0_113 wV_8_244 (by omega) rfl (Nat.le_of_ble_eq_true rfl) ?_
            refine V_aload_n (pc2 := 117) dX8_part0_116 0 rfl rfl ?_
            refine V_iload_n (pc2 := 118) dX8_part0_117 1 rfl rfl ?_
            obtain ⟨⟨b63, m64⟩, e_b63, h⟩ := bS h
            try dsimp only at h
            obtain ⟨⟨fs_b63, o_b63⟩, e_b63⟩ := cV_of e_b63
            refine V_cVi (pc2 := 121) [.int p0] (st := []) o_b63 (hg_X8_part0 e_b63) dX8_part0_118 wV_8_260 (hdd) rfl (Nat.le_of_ble_eq_true rfl) ?_
            refine V_ifb_ne (pc2 := 124) (tgt := 126) dX8_part0_121 (fun c121 => ?_) (fun c121 => ?_)
            · replace h := iT c121 h
              refine V_aload_n (pc2 := 127) dX8_part0_126 0 rfl rfl ?_
              refine V_dup (pc2 := 128) dX8_part0_127 rfl ?_
              obtain ⟨x65, e_x65, h⟩ := bS h
              refine V_gI (pc2 := 131) e_x65 dX8_part0_128 wF_8_269 ?_
              refine V_iconst (v := 1) (pc2 := 132) dX8_part0_131 (by decide) ?_
              refine V_isub (pc2 := 133) dX8_part0_132 ?_
              obtain ⟨m66, e_m66, h⟩ := bS h
              refine V_pI (pc2 := 136) e_m66 dX8_part0_133 wP_8_269 rfl rfl ?_
              refine V_aload_n (pc2 := 137) dX8_part0_136 0 rfl rfl ?_
              refine V_iconst (v := 2) (pc2 := 138) dX8_part0_137 (by decide) ?_
              refine V_bipush (v := 33) (pc2 := 140) dX8_part0_138 (by decide) ?_
              obtain ⟨m67, e_m67, h⟩ := bS h
              obtain ⟨⟨fs_m67, o_m67⟩, e_m67⟩ := cV_of e_m67
              refine V_cVv (pc2 := 143) [.int (2 : Int32), .int (33 : Int32)] (st := []) o_m67 (tX8_step e_m67) dX8_part0_140 wV_8_247 (by omega) rfl (Nat.le_of_ble_eq_true rfl) ?_
              refine V_iconst (v := 1) (pc2 := 144) dX8_part0_143 (by decide) ?_
              obtain ⟨e1, e2⟩ := inj2 h
              subst e1
              subst e2
              exact V_bret (b := true) dX8_part0_144 rfl ⟨rfl, rfl⟩
            · replace h := iF c121 h
              refine V_iconst (v := 0) (pc2 := 125) dX8_part0_124 (by decide) ?_
              obtain ⟨e1, e2⟩ := inj2 h
              subst e1
              subst e2
              exact V_bret (b := false) dX8_part0_125 rfl ⟨rfl, rfl⟩
      · replace h := iF c45 h
        refine V_iload_n (pc2 := 49) dX8_part0_48 1 rfl rfl ?_
        refine V_aload_n (pc2 := 50) dX8_part0_49 0 rfl rfl ?_
        obtain ⟨x68, e_x68, h⟩ := bS h
        refine V_gI (pc2 := 53) e_x68 dX8_part0_50 wF_8_219 ?_
        obtain ⟨b69, e_b69, h⟩ := bS h
        refine V_cSi (pc2 := 56) [.int p0, .int x68] (st := []) (tX8_isName e_b69) dX8_part0_53 wS_8_266 (by omega) rfl (Nat.le_of_ble_eq_true rfl) ?_
        refine V_ifb_eq (pc2 := 59) (tgt := 84) dX8_part0_56 (fun c56 => ?_) (fun c56 => ?_)
        · replace h := iF c56 h
          refine V_aload_n (pc2 := 85) dX8_part0_84 0 rfl rfl ?_
          refine V_bipush (v := 33) (pc2 := 87) dX8_part0_85 (by decide) ?_
          obtain ⟨b70, e_b70, h⟩ := bS h
          obtain ⟨⟨fs_b70, o_b70⟩, e_b70⟩ := cV_of e_b70
          refine V_cVi (pc2 := 90) [.int (33 : Int32)] (st := []) o_b70 (tX8_isSign e_b70) dX8_part0_87 wV_8_241 (by omega) rfl (Nat.le_of_ble_eq_true rfl) ?_
          refine V_ifb_eq (pc2 := 93) (tgt := 145) dX8_part0_90 (fun c90 => ?_) (fun c90 => ?_)
          · replace h := iF c90 h
            refine V_aload_n (pc2 := 146) dX8_part0_145 0 rfl rfl ?_
            refine V_bipush (v := 40) (pc2 := 148) dX8_part0_146 (by decide) ?_
            obtain ⟨b71, e_b71, h⟩ := bS h
            obtain ⟨⟨fs_b71, o_b71⟩, e_b71⟩ := cV_of e_b71
            refine V_cVi (pc2 := 151) [.int (40 : Int32)] (st := []) o_b71 (tX8_isSign e_b71) dX8_part0_148 wV_8_241 (by omega) rfl (Nat.le_of_ble_eq_true rfl) ?_
            refine V_ifb_eq (pc2 := 154) (tgt := 163) dX8_part0_151 (fun c151 => ?_) (fun c151 => ?_)
            · replace h := iF c151 h
              refine V_iconst (v := 0) (pc2 := 164) dX8_part0_163 (by decide) ?_
              obtain ⟨e1, e2⟩ := inj2 h
              subst e1
              subst e2
              exact V_bret (b := false) dX8_part0_164 rfl ⟨rfl, rfl⟩
            · replace h := iT c151 h
              refine V_aload_n (pc2 := 155) dX8_part0_154 0 rfl rfl ?_
              obtain ⟨x72, e_x72, h⟩ := bS h
              refine V_gI (pc2 := 158) e_x72 dX8_part0_155 wF_8_272 ?_
              refine V_bipush (v := 8) (pc2 := 160) dX8_part0_158 (by decide) ?_
              refine V_icmp_ne (pc2 := 163) (tgt := 165) dX8_part0_160 (fun c160 => ?_) (fun c160 => ?_)
              · replace h := iF c160 h
                refine V_aload_n (pc2 := 166) dX8_part0_165 0 rfl rfl ?_
                refine V_dup (pc2 := 167) dX8_part0_166 rfl ?_
                obtain ⟨x73, e_x73, h⟩ := bS h
                refine V_gI (pc2 := 170) e_x73 dX8_part0_167 wF_8_272 ?_
                refine V_iconst (v := 1) (pc2 := 171) dX8_part0_170 (by decide) ?_
                refine V_iadd (pc2 := 172) dX8_part0_171 ?_
                obtain ⟨m74, e_m74, h⟩ := bS h
                refine V_pI (pc2 := 175) e_m74 dX8_part0_172 wP_8_272 rfl rfl ?_
                refine V_aload_n (pc2 := 176) dX8_part0_175 0 rfl rfl ?_
                obtain ⟨m75, e_m75, h⟩ := bS h
                obtain ⟨⟨fs_m75, o_m75⟩, e_m75⟩ := cV_of e_m75
                refine V_cVv (pc2 := 179) [] (st := []) o_m75 (tX8_nextToken e_m75) dX8_part0_176 wV_8_244 (by omega) rfl (Nat.le_of_ble_eq_true rfl) ?_
                refine V_aload_n (pc2 := 180) dX8_part0_179 0 rfl rfl ?_
                refine V_iload_n (pc2 := 181) dX8_part0_180 1 rfl rfl ?_
                obtain ⟨⟨b76, m77⟩, e_b76, h⟩ := bS h
                try dsimp only at h
                obtain ⟨⟨fs_b76, o_b76⟩, e_b76⟩ := cV_of e_b76
                refine V_cVi (pc2 := 184) [.int p0] (st := []) o_b76 (hg_X8_either e_b76) dX8_part0_181 wV_8_275 (hdd) rfl (Nat.le_of_ble_eq_true rfl) ?_
                refine V_ifb_eq (pc2 := 187) (tgt := 196) dX8_part0_184 (fun c184 => ?_) (fun c184 => ?_)
                · replace h := iF c184 h
                  refine V_iconst (v := 0) (pc2 := 197) dX8_part0_196 (by decide) ?_
                  obtain ⟨e1, e2⟩ := inj2 h
                  subst e1
                  subst e2
                  exact V_bret (b := false) dX8_part0_197 rfl ⟨rfl, rfl⟩
                · replace h := iT c184 h
                  refine V_aload_n (pc2 := 188) dX8_part0_187 0 rfl rfl ?_
                  refine V_bipush (v := 41) (pc2 := 190) dX8_part0_188 (by decide) ?_
                  obtain ⟨b78, e_b78, h⟩ := bS h
                  obtain ⟨⟨fs_b78, o_b78⟩, e_b78⟩ := cV_of e_b78
                  refine V_cVi (pc2 := 193) [.int (41 : Int32)] (st := []) o_b78 (tX8_isSign e_b78) dX8_part0_190 wV_8_241 (by omega) rfl (Nat.le_of_ble_eq_true rfl) ?_
                  refine V_ifb_ne (pc2 := 196) (tgt := 198) dX8_part0_193 (fun c193 => ?_) (fun c193 => ?_)
                  · replace h := iT c193 h
                    refine V_aload_n (pc2 := 199) dX8_part0_198 0 rfl rfl ?_
                    refine V_dup (pc2 := 200) dX8_part0_199 rfl ?_
                    obtain ⟨x79, e_x79, h⟩ := bS h
                    refine V_gI (pc2 := 203) e_x79 dX8_part0_200 wF_8_272 ?_
                    refine V_iconst (v := 1) (pc2 := 204) dX8_part0_203 (by decide) ?_
                    refine V_isub (pc2 := 205) dX8_part0_204 ?_
                    obtain ⟨m80, e_m80, h⟩ := bS h
                    refine V_pI (pc2 := 208) e_m80 dX8_part0_205 wP_8_272 rfl rfl ?_
                    refine V_aload_n (pc2 := 209) dX8_part0_208 0 rfl rfl ?_
                    obtain ⟨m81, e_m81, h⟩ := bS h
                    obtain ⟨⟨fs_m81, o_m81⟩, e_m81⟩ := cV_of e_m81
                    refine V_cVv (pc2 := 212) [] (st := []) o_m81 (tX8_nextToken e_m81) dX8_part0_209 wV_8_244 (by omega) rfl (Nat.le_of_ble_eq_true rfl) ?_
                    refine V_iconst (v := 1) (pc2 := 213) dX8_part0_212 (by decide) ?_
                    obtain ⟨e1, e2⟩ := inj2 h
                    subst e1
                    subst e2
                    exact V_bret (b := true) dX8_part0_213 rfl ⟨rfl, rfl⟩
                  · replace h := iF c193 h
                    refine V_iconst (v := 0) (pc2 := 197) dX8_part0_196 (by decide) ?_
                    obtain ⟨e1, e2⟩ := inj2 h
                    subst e1
                    subst e2
                    exact V_bret (b := false) dX8_part0_197 rfl ⟨rfl, rfl⟩
              · replace h := iT c160 h
                refine V_iconst (v := 0) (pc2 := 164) dX8_part0_163 (by decide) ?_
                obtain ⟨e1, e2⟩ := inj2 h
                subst e1
                subst e2
                exact V_bret (b := false) dX8_part0_164 rfl ⟨rfl, rfl⟩
          · replace h := iT c90 h
            refine V_aload_n (pc2 := 94) dX8_part0_93 0 rfl rfl ?_
            obtain ⟨x82, e_x82, h⟩ := bS h
            refine V_gI (pc2 := 97) e_x82 dX8_part0_94 wF_8_269 ?_
            refine V_bipush (v := 8) (pc2 := 99) dX8_part0_97 (by decide) ?_
            refine V_icmp_ge (pc2 := 102) (tgt := 145) dX8_part0_99 (fun c99 => ?_) (fun c99 => ?_)
            · replace h := iT c99 h
              refine V_aload_n (pc2 := 146) dX8_part0_145 0 rfl rfl ?_
              refine V_bipush (v := 40) (pc2 := 148) dX8_part0_146 (by decide) ?_
              obtain ⟨b83, e_b83, h⟩ := bS h
              obtain ⟨⟨fs_b83, o_b83⟩, e_b83⟩ := cV_of e_b83
              refine V_cVi (pc2 := 151) [.int (40 : Int32)] (st := []) o_b83 (tX8_isSign e_b83) dX8_part0_148 wV_8_241 (by omega) rfl (Nat.le_of_ble_eq_true rfl) ?_
              refine V_ifb_eq (pc2 := 154) (tgt := 163) dX8_part0_151 (fun c151 => ?_) (fun c151 => ?_)
              · replace h := iF c151 h
                refine V_iconst (v := 0) (pc2 := 164) dX8_part0_163 (by decide) ?_
                obtain ⟨e1, e2⟩ := inj2 h
                subst e1
                subst e2
                exact V_bret (b := false) dX8_part0_164 rfl ⟨rfl, rfl⟩
              · replace h := iT c151 h
                refine V_aload_n (pc2 := 155) dX8_part0_154 0 rfl rfl ?_
                obtain ⟨x84, e_x84, h⟩ := bS h
                refine V_gI (pc2 := 158) e_x84 dX8_part0_155 wF_8_272 ?_
                refine V_bipush (v := 8) (pc2 := 160) dX8_part0_158 (by decide) ?_
                refine V_icmp_ne (pc2 := 163) (tgt := 165) dX8_part0_160 (fun c160 => ?_) (fun c160 => ?_)
                · replace h := iF c160 h
                  refine V_aload_n (pc2 := 166) dX8_part0_165 0 rfl rfl ?_
                  refine V_dup (pc2 := 167) dX8_part0_166 rfl ?_
                  obtain ⟨x85, e_x85, h⟩ := bS h
                  refine V_gI (pc2 := 170) e_x85 dX8_part0_167 wF_8_272 ?_
                  refine V_iconst (v := 1) (pc2 := 171) dX8_part0_170 (by decide) ?_
                  refine V_iadd (pc2 := 172) dX8_part0_171 ?_
                  obtain ⟨m86, e_m86, h⟩ := bS h
                  refine V_pI (pc2 := 175) e_m86 dX8_part0_172 wP_8_272 rfl rfl ?_
                  refine V_aload_n (pc2 := 176) dX8_part0_175 0 rfl rfl ?_
                  obtain ⟨m87, e_m87, h⟩ := bS h
                  obtain ⟨⟨fs_m87, o_m87⟩, e_m87⟩ := cV_of e_m87
                  refine V_cVv (pc2 := 179) [] (st := []) o_m87 (tX8_nextToken e_m87) dX8_part0_176 wV_8_244 (by omega) rfl (Nat.le_of_ble_eq_true rfl) ?_
                  refine V_aload_n (pc2 := 180) dX8_part0_179 0 rfl rfl ?_
                  refine V_iload_n (pc2 := 181) dX8_part0_180 1 rfl rfl ?_
                  obtain ⟨⟨b88, m89⟩, e_b88, h⟩ := bS h
                  try dsimp only at h
                  obtain ⟨⟨fs_b88, o_b88⟩, e_b88⟩ := cV_of e_b88
                  refine V_cVi (pc2 := 184) [.int p0] (st := []) o_b88 (hg_X8_either e_b88) dX8_part0_181 wV_8_275 (hdd) rfl (Nat.le_of_ble_eq_true rfl) ?_
                  refine V_ifb_eq (pc2 := 187) (tgt := 196) dX8_part0_184 (fun c184 => ?_) (fun c184 => ?_)
                  · replace h := iF c184 h
                    refine V_iconst (v := 0) (pc2 := 197) dX8_part0_196 (by decide) ?_
                    obtain ⟨e1, e2⟩ := inj2 h
                    subst e1
                    subst e2
                    exact V_bret (b := false) dX8_part0_197 rfl ⟨rfl, rfl⟩
                  · replace h := iT c184 h
                    refine V_aload_n (pc2 := 188) dX8_part0_187 0 rfl rfl ?_
                    refine V_bipush (v := 41) (pc2 := 190) dX8_part0_188 (by decide) ?_
                    obtain ⟨b90, e_b90, h⟩ := bS h
                    obtain ⟨⟨fs_b90, o_b90⟩, e_b90⟩ := cV_of e_b90
                    refine V_cVi (pc2 := 193) [.int (41 : Int32)] (st := []) o_b90 (tX8_isSign e_b90) dX8_part0_190 wV_8_241 (by omega) rfl (Nat.le_of_ble_eq_true rfl) ?_
                    refine V_ifb_ne (pc2 := 196) (tgt := 198) dX8_part0_193 (fun c193 => ?_) (fun c193 => ?_)
                    · replace h := iT c193 h
                      refine V_aload_n (pc2 := 199) dX8_part0_198 0 rfl rfl ?_
                      refine V_dup (pc2 := 200) dX8_part0_199 rfl ?_
                      obtain ⟨x91, e_x91, h⟩ := bS h
                      refine V_gI (pc2 := 203) e_x91 dX8_part0_200 wF_8_272 ?_
                      refine V_iconst (v := 1) (pc2 := 204) dX8_part0_203 (by decide) ?_
                      refine V_isub (pc2 := 205) dX8_part0_204 ?_
                      obtain ⟨m92, e_m92, h⟩ := bS h
                      refine V_pI (pc2 := 208) e_m92 dX8_part0_205 wP_8_272 rfl rfl ?_
                      refine V_aload_n (pc2 := 209) dX8_part0_208 0 rfl rfl ?_
                      obtain ⟨m93, e_m93, h⟩ := bS h
                      obtain ⟨⟨fs_m93, o_m93⟩, e_m93⟩ := cV_of e_m93
                      refine V_cVv (pc2 := 212) [] (st := []) o_m93 (tX8_nextToken e_m93) dX8_part0_209 wV_8_244 (by omega) rfl (Nat.le_of_ble_eq_true rfl) ?_
                      refine V_iconst (v := 1) (pc2 := 213) dX8_part0_212 (by decide) ?_
                      obtain ⟨e1, e2⟩ := inj2 h
                      subst e1
                      subst e2
                      exact V_bret (b := true) dX8_part0_213 rfl ⟨rfl, rfl⟩
                    · replace h := iF c193 h
                      refine V_iconst (v := 0) (pc2 := 197) dX8_part0_196 (by decide) ?_
                      obtain ⟨e1, e2⟩ := inj2 h
                      subst e1
                      subst e2
                      exact V_bret (b := false) dX8_part0_197 rfl ⟨rfl, rfl⟩
                · replace h := iT c160 h
                  refine V_iconst (v := 0) (pc2 := 164) dX8_part0_163 (by decide) ?_
                  obtain ⟨e1, e2⟩ := inj2 h
                  subst e1
                  subst e2
                  exact V_bret (b := false) dX8_part0_164 rfl ⟨rfl, rfl⟩
            · replace h := iF c99 h
              refine V_aload_n (pc2 := 103) dX8_part0_102 0 rfl rfl ?_
              refine V_dup (pc2 := 104) dX8_part0_103 rfl ?_
              obtain ⟨x94, e_x94, h⟩ := bS h
              refine V_gI (pc2 := 107) e_x94 dX8_part0_104 wF_8_269 ?_
              refine V_iconst (v := 1) (pc2 := 108) dX8_part0_107 (by decide) ?_
              refine V_iadd (pc2 := 109) dX8_part0_108 ?_
              obtain ⟨m95, e_m95, h⟩ := bS h
              refine V_pI (pc2 := 112) e_m95 dX8_part0_109 wP_8_269 rfl rfl ?_
              refine V_aload_n (pc2 := 113) dX8_part0_112 0 rfl rfl ?_
              obtain ⟨m96, e_m96, h⟩ := bS h
              obtain ⟨⟨fs_m96, o_m96⟩, e_m96⟩ := cV_of e_m96
              refine V_cVv (pc2 := 116) [] (st := []) o_m96 (tX8_nextToken e_m96) dX8_part0_113 wV_8_244 (by omega) rfl (Nat.le_of_ble_eq_true rfl) ?_
              refine V_aload_n (pc2 := 117) dX8_part0_116 0 rfl rfl ?_
              refine V_iload_n (pc2 := 118) dX8_part0_117 1 rfl rfl ?_
              obtain ⟨⟨b97, m98⟩, e_b97, h⟩ := bS h
              try dsimp only at h
              obtain ⟨⟨fs_b97, o_b97⟩, e_b97⟩ := cV_of e_b97
              refine V_cVi (pc2 := 121) [.int p0] (st := []) o_b97 (hg_X8_part0 e_b97) dX8_part0_118 wV_8_260 (hdd) rfl (Nat.le_of_ble_eq_true rfl) ?_
              refine V_ifb_ne (pc2 := 124) (tgt := 126) dX8_part0_121 (fun c121 => ?_) (fun c121 => ?_)
              · replace h := iT c121 h
                refine V_aload_n (pc2 := 127) dX8_part0_126 0 rfl rfl ?_
                refine V_dup (pc2 := 128) dX8_part0_127 rfl ?_
                obtain ⟨x99, e_x99, h⟩ := bS h
                refine V_gI (pc2 := 131) e_x99 dX8_part0_128 wF_8_269 ?_
                refine V_iconst (v := 1) (pc2 := 132) dX8_part0_131 (by decide) ?_
                refine V_isub (pc2 := 133) dX8_part0_132 ?_
                obtain ⟨m100, e_m100, h⟩ := bS h
                refine V_pI (pc2 := 136) e_m100 dX8_part0_133 wP_8_269 rfl rfl ?_
                refine V_aload_n (pc2 := 137) dX8_part0_136 0 rfl rfl ?_
                refine V_iconst (v := 2) (pc2 := 138) dX8_part0_137 (by decide) ?_
                refine V_bipush (v := 33) (pc2 := 140) dX8_part0_138 (by decide) ?_
                obtain ⟨m101, e_m101, h⟩ := bS h
                obtain ⟨⟨fs_m101, o_m101⟩, e_m101⟩ := cV_of e_m101
                refine V_cVv (pc2 := 143) [.int (2 : Int32), .int (33 : Int32)] (st := []) o_m101 (tX8_step e_m101) dX8_part0_140 wV_8_247 (by omega) rfl (Nat.le_of_ble_eq_true rfl) ?_
                refine V_iconst (v := 1) (pc2 := 144) dX8_part0_143 (by decide) ?_
                obtain ⟨e1, e2⟩ := inj2 h
                subst e1
                subst e2
                exact V_bret (b := true) dX8_part0_144 rfl ⟨rfl, rfl⟩
              · replace h := iF c121 h
                refine V_iconst (v := 0) (pc2 := 125) dX8_part0_124 (by decide) ?_
                obtain ⟨e1, e2⟩ := inj2 h
                subst e1
                subst e2
                exact V_bret (b := false) dX8_part0_125 rfl ⟨rfl, rfl⟩
        · replace h := iT c56 h
          refine V_aload_n (pc2 := 60) dX8_part0_59 0 rfl rfl ?_
          refine V_iconst (v := 1) (pc2 := 61) dX8_part0_60 (by decide) ?_
          refine V_aload_n (pc2 := 62) dX8_part0_61 0 rfl rfl ?_
          obtain ⟨x102, e_x102, h⟩ := bS h
          refine V_gI (pc2 := 65) e_x102 dX8_part0_62 wF_8_219 ?_
          obtain ⟨m103, e_m103, h⟩ := bS h
          obtain ⟨⟨fs_m103, o_m103⟩, e_m103⟩ := cV_of e_m103
          refine V_cVv (pc2 := 68) [.int (1 : Int32), .int x102] (st := []) o_m103 (tX8_step e_m103) dX8_part0_65 wV_8_247 (by omega) rfl (Nat.le_of_ble_eq_true rfl) ?_
          refine V_aload_n (pc2 := 69) dX8_part0_68 0 rfl rfl ?_
          refine V_dup (pc2 := 70) dX8_part0_69 rfl ?_
          obtain ⟨x104, e_x104, h⟩ := bS h
          refine V_gI (pc2 := 73) e_x104 dX8_part0_70 wF_8_263 ?_
          refine V_iconst (v := 1) (pc2 := 74) dX8_part0_73 (by decide) ?_
          refine V_iadd (pc2 := 75) dX8_part0_74 ?_
          obtain ⟨m105, e_m105, h⟩ := bS h
          refine V_pI (pc2 := 78) e_m105 dX8_part0_75 wP_8_263 rfl rfl ?_
          refine V_aload_n (pc2 := 79) dX8_part0_78 0 rfl rfl ?_
          obtain ⟨m106, e_m106, h⟩ := bS h
          obtain ⟨⟨fs_m106, o_m106⟩, e_m106⟩ := cV_of e_m106
          refine V_cVv (pc2 := 82) [] (st := []) o_m106 (tX8_nextToken e_m106) dX8_part0_79 wV_8_244 (by omega) rfl (Nat.le_of_ble_eq_true rfl) ?_
          refine V_iconst (v := 1) (pc2 := 83) dX8_part0_82 (by decide) ?_
          obtain ⟨e1, e2⟩ := inj2 h
          subst e1
          subst e2
          exact V_bret (b := true) dX8_part0_83 rfl ⟨rfl, rfl⟩
  · replace h := iT c5 h
    refine V_aload_n (pc2 := 9) dX8_part0_8 0 rfl rfl ?_
    refine V_iconst (v := 0) (pc2 := 10) dX8_part0_9 (by decide) ?_
    refine V_aload_n (pc2 := 11) dX8_part0_10 0 rfl rfl ?_
    obtain ⟨x107, e_x107, h⟩ := bS h
    refine V_gI (pc2 := 14) e_x107 dX8_part0_11 wF_8_225 ?_
    obtain ⟨m108, e_m108, h⟩ := bS h
    obtain ⟨⟨fs_m108, o_m108⟩, e_m108⟩ := cV_of e_m108
    refine V_cVv (pc2 := 17) [.int (0 : Int32), .int x107] (st := []) o_m108 (tX8_step e_m108) dX8_part0_14 wV_8_247 (by omega) rfl (Nat.le_of_ble_eq_true rfl) ?_
    refine V_aload_n (pc2 := 18) dX8_part0_17 0 rfl rfl ?_
    refine V_dup (pc2 := 19) dX8_part0_18 rfl ?_
    obtain ⟨x109, e_x109, h⟩ := bS h
    refine V_gI (pc2 := 22) e_x109 dX8_part0_19 wF_8_263 ?_
    refine V_iconst (v := 1) (pc2 := 23) dX8_part0_22 (by decide) ?_
    refine V_iadd (pc2 := 24) dX8_part0_23 ?_
    obtain ⟨m110, e_m110, h⟩ := bS h
    refine V_pI (pc2 := 27) e_m110 dX8_part0_24 wP_8_263 rfl rfl ?_
    refine V_aload_n (pc2 := 28) dX8_part0_27 0 rfl rfl ?_
    obtain ⟨m111, e_m111, h⟩ := bS h
    obtain ⟨⟨fs_m111, o_m111⟩, e_m111⟩ := cV_of e_m111
    refine V_cVv (pc2 := 31) [] (st := []) o_m111 (tX8_nextToken e_m111) dX8_part0_28 wV_8_244 (by omega) rfl (Nat.le_of_ble_eq_true rfl) ?_
    refine V_iconst (v := 1) (pc2 := 32) dX8_part0_31 (by decide) ?_
    obtain ⟨e1, e2⟩ := inj2 h
    subst e1
    subst e2
    exact V_bret (b := true) dX8_part0_32 rfl ⟨rfl, rfl⟩
noncomputable def PE : Nat → Nat → Nat → Int32 → Mem → Option (Bool × Mem)
  | 0, _ => fun _ _ _ => none
  | n + 1, k => match k with
    | 0 => fX8_either (PE n 1)
    | 1 => fX8_both (PE n 2)
    | 2 => fX8_test (PE n 3)
    | 3 => fX8_sum (PE n 4)
    | 4 => fX8_term (PE n 5)
    | _ => fX8_part0 (PE n 0) (PE n 5)
def bigP : Nat := 120
def IXp (k : Nat) : Inf := match k with
  | 0 => IX8_either
  | 1 => IX8_both
  | 2 => IX8_test
  | 3 => IX8_sum
  | 4 => IX8_term
  | _ => IX8_part0
theorem tPE {D : Dat} : ∀ (n k : Nat) {a0 : Nat} {p0 : Int32} {m : Mem} {r : Bool} {m1 : Mem}, PE n k a0 p0 m = some (r, m1) → T D (10 + n) (IXp k) [.ref a0, .int p0] m 0 0 (Qi (zb r) m1) := by
  intro n
  induction n with
  | zero => intro k a0 p0 m r m1 h; cases h
  | succ n ih =>
    intro k a0 p0 m r m1 h
    have hdd : 10 + n < 10 + (n + 1) := by omega
    have hd0 : 10 ≤ 10 + (n + 1) := by omega
    match k, h with
    | 0, h => exact tX8_either hdd (fun {a q m9 r9 m8} h => ih 1 h) (by omega) h
    | 1, h => exact tX8_both hdd (fun {a q m9 r9 m8} h => ih 2 h) (by omega) h
    | 2, h => exact tX8_test hdd (fun {a q m9 r9 m8} h => ih 3 h) (by omega) h
    | 3, h => exact tX8_sum hdd (fun {a q m9 r9 m8} h => ih 4 h) (by omega) h
    | 4, h => exact tX8_term hdd (fun {a q m9 r9 m8} h => ih 5 h) (by omega) h
    | k + 5, h => exact tX8_part0 hdd (fun {a q m9 r9 m8} h => ih 0 h) (fun {a q m9 r9 m8} h => ih 5 h) (by omega) h
noncomputable def FX8_either (a0 : Nat) (p0 : Int32) (m : Mem) : Option (Bool × Mem) := PE bigP 0 a0 p0 m
theorem TFX8_either {D : Dat} {a0 : Nat} {p0 : Int32} {m : Mem} {rR : Bool} {mR : Mem} (h : FX8_either a0 p0 m = some (rR, mR)) : T D 130 IX8_either [.ref a0, .int p0] m 0 0 (Qi (zb rR) mR) := tPE bigP 0 h
noncomputable def fX8_parse (a0 : Nat) (m : Mem) : Option (Int32 × Mem) :=
  (pI m a0 8 16 (0 : Int32)).bind fun m1 =>
  (pI m1 a0 8 17 (3 : Int32)).bind fun m2 =>
  (pI m2 a0 8 20 (0 : Int32)).bind fun m3 =>
  (pI m3 a0 8 21 (0 : Int32)).bind fun m4 =>
  (pI m4 a0 8 22 (0 : Int32)).bind fun m5 =>
  (pI m5 a0 8 24 (0 : Int32)).bind fun m6 =>
  (gR m6 a0 8 0).bind fun r7 =>
  (ldI m6 r7 (3 : Int32)).bind fun x8 =>
  (
    if (14 : Int32) ≤ x8 then
      some (2892 : Int32)
    else
      (gR m6 a0 8 0).bind fun r9 =>
      (ldI m6 r9 (3 : Int32)).bind fun x10 =>
      (cV m6 a0 8 (fX8_textAt a0 x10 m6)).bind fun x11 =>
      some (x11 + (4 : Int32))).bind fun y12 =>
  (pI m6 a0 8 23 y12).bind fun m13 =>
  (cV m13 a0 8 (fX8_nextToken a0 m13)).bind fun m14 =>
  (cV m14 a0 8 (fX8_key a0 m14)).bind fun x15 =>
  (
    if x15 < 0 then
      some (0 : Int32)
    else
      some (1 : Int32)).bind fun y16 =>
  (
    if y16 = 0 then
      some (y16, m14)
    else
      (cV m14 a0 8 (fX8_nextToken a0 m14)).bind fun m17 =>
      (cV m17 a0 8 (FX8_either a0 x15 m17)).bind fun (b18, m19) =>
      (
        if b18 = true then
          (gI m19 a0 8 17).bind fun x20 =>
          if x20 = 0 then
            some (1 : Int32)
          else
            some (0 : Int32)
        else
          some (0 : Int32)).bind fun y21 =>
      some (y21, m19)).bind fun (y22, m23) =>
  (pI m23 a0 8 14 (0 : Int32)).bind fun m24 =>
  if y22 = 0 then
    some ((-1 : Int32), m24)
  else
    some (x15, m24)
set_option maxRecDepth 20000 in
theorem tX8_parse {D : Dat} {a0 : Nat} {m : Mem} {rR : Int32} {mR : Mem} (h : fX8_parse a0 m = some (rR, mR)) : T D 131 IX8_parse [.ref a0] m 0 0 (Qi rR mR) := by
  refine T_of_V (by decide) (Nat.le_of_ble_eq_true rfl) ?_
  show V D 131 IX8_parse 0 [(0, .ref a0)] [] m 0 0 (Qi rR mR)
  unfold fX8_parse at h
  refine V_aload_n (pc2 := 1) dX8_parse_0 0 rfl rfl ?_
  refine V_iconst (v := 0) (pc2 := 2) dX8_parse_1 (by decide) ?_
  obtain ⟨m1, e_m1, h⟩ := bS h
  refine V_pI (pc2 := 5) e_m1 dX8_parse_2 wP_8_207 rfl rfl ?_
  refine V_aload_n (pc2 := 6) dX8_parse_5 0 rfl rfl ?_
  refine V_iconst (v := 3) (pc2 := 7) dX8_parse_6 (by decide) ?_
  obtain ⟨m2, e_m2, h⟩ := bS h
  refine V_pI (pc2 := 10) e_m2 dX8_parse_7 wP_8_210 rfl rfl ?_
  refine V_aload_n (pc2 := 11) dX8_parse_10 0 rfl rfl ?_
  refine V_iconst (v := 0) (pc2 := 12) dX8_parse_11 (by decide) ?_
  obtain ⟨m3, e_m3, h⟩ := bS h
  refine V_pI (pc2 := 15) e_m3 dX8_parse_12 wP_8_272 rfl rfl ?_
  refine V_aload_n (pc2 := 16) dX8_parse_15 0 rfl rfl ?_
  refine V_iconst (v := 0) (pc2 := 17) dX8_parse_16 (by decide) ?_
  obtain ⟨m4, e_m4, h⟩ := bS h
  refine V_pI (pc2 := 20) e_m4 dX8_parse_17 wP_8_269 rfl rfl ?_
  refine V_aload_n (pc2 := 21) dX8_parse_20 0 rfl rfl ?_
  refine V_iconst (v := 0) (pc2 := 22) dX8_parse_21 (by decide) ?_
  obtain ⟨m5, e_m5, h⟩ := bS h
  refine V_pI (pc2 := 25) e_m5 dX8_parse_22 wP_8_235 rfl rfl ?_
  refine V_aload_n (pc2 := 26) dX8_parse_25 0 rfl rfl ?_
  refine V_iconst (v := 0) (pc2 := 27) dX8_parse_26 (by decide) ?_
  obtain ⟨m6, e_m6, h⟩ := bS h
  refine V_pI (pc2 := 30) e_m6 dX8_parse_27 wP_8_263 rfl rfl ?_
  refine V_aload_n (pc2 := 31) dX8_parse_30 0 rfl rfl ?_
  refine V_aload_n (pc2 := 32) dX8_parse_31 0 rfl rfl ?_
  obtain ⟨r7, e_r7, h⟩ := bS h
  refine V_gR (pc2 := 35) e_r7 dX8_parse_32 wF_8_7 ?_
  refine V_iconst (v := 3) (pc2 := 36) dX8_parse_35 (by decide) ?_
  obtain ⟨x8, e_x8, h⟩ := bS h
  refine V_ldI (pc2 := 37) e_x8 dX8_parse_36 ?_
  refine V_bipush (v := 14) (pc2 := 39) dX8_parse_37 (by decide) ?_
  obtain ⟨y12, hb, h⟩ := bS h
  have hJ60 : V D 131 IX8_parse 60 [(0, .ref a0)] [.int y12, .ref a0] m6 0 0 (Qi rR mR) := by
    obtain ⟨m13, e_m13, h⟩ := bS h
    refine V_pI (pc2 := 63) e_m13 dX8_parse_60 wP_8_232 rfl rfl ?_
    refine V_aload_n (pc2 := 64) dX8_parse_63 0 rfl rfl ?_
    obtain ⟨m14, e_m14, h⟩ := bS h
    obtain ⟨⟨fs_m14, o_m14⟩, e_m14⟩ := cV_of e_m14
    refine V_cVv (pc2 := 67) [] (st := []) o_m14 (tX8_nextToken e_m14) dX8_parse_64 wV_8_244 (by decide) rfl (Nat.le_of_ble_eq_true rfl) ?_
    refine V_aload_n (pc2 := 68) dX8_parse_67 0 rfl rfl ?_
    obtain ⟨x15, e_x15, h⟩ := bS h
    obtain ⟨⟨fs_x15, o_x15⟩, e_x15⟩ := cV_of e_x15
    refine V_cVi (pc2 := 71) [] (st := []) o_x15 (tX8_key e_x15) dX8_parse_68 wV_8_281 (by decide) rfl (Nat.le_of_ble_eq_true rfl) ?_
    refine V_istore_n (pc2 := 72) (L2 := [(1, .int x15), (0, .ref a0)]) dX8_parse_71 ?_ rfl rfl rfl
    refine V_iload_n (pc2 := 73) dX8_parse_72 0 rfl rfl ?_
    obtain ⟨y16, hb, h⟩ := bS h
    have hJ81 : V D 131 IX8_parse 81 [(0, .ref a0), (1, .int x15)] [.int y16] m14 0 0 (Qi rR mR) := by
      refine V_istore_n (pc2 := 82) (L2 := [(2, .int y16), (0, .ref a0), (1, .int x15)]) dX8_parse_81 ?_ rfl rfl rfl
      refine V_iload_n (pc2 := 83) dX8_parse_82 0 rfl rfl ?_
      obtain ⟨⟨y22, m23⟩, hb, h⟩ := bS h
      try dsimp only at h
      have hJ111 : V D 131 IX8_parse 111 [(0, .ref a0), (1, .int x15), (2, .int y22)] [] m23 0 0 (Qi rR mR) := by
        refine V_aload_n (pc2 := 112) dX8_parse_111 0 rfl rfl ?_
        refine V_iconst (v := 0) (pc2 := 113) dX8_parse_112 (by decide) ?_
        obtain ⟨m24, e_m24, h⟩ := bS h
        refine V_pI (pc2 := 116) e_m24 dX8_parse_113 wP_8_195 rfl rfl ?_
        refine V_iload_n (pc2 := 117) dX8_parse_116 2 rfl rfl ?_
        refine V_if_eq (pc2 := 120) (tgt := 124) dX8_parse_117 (fun c117 => ?_) (fun c117 => ?_)
        · replace h := iT c117 h
          refine V_iconst (v := -1) (pc2 := 125) dX8_parse_124 (by decide) ?_
          obtain ⟨e1, e2⟩ := inj2 h
          subst e1
          subst e2
          exact V_iret dX8_parse_125 rfl ⟨rfl, rfl⟩
        · replace h := iF c117 h
          refine V_iload_n (pc2 := 121) dX8_parse_120 1 rfl rfl ?_
          refine V_goto (tgt := 125) dX8_parse_121 ?_
          obtain ⟨e1, e2⟩ := inj2 h
          subst e1
          subst e2
          exact V_iret dX8_parse_125 rfl ⟨rfl, rfl⟩
      clear h
      have h := hb
      clear hb
      refine V_if_eq (pc2 := 86) (tgt := 111) dX8_parse_83 (fun c83 => ?_) (fun c83 => ?_)
      · replace h := iT c83 h
        obtain ⟨e1, e2⟩ := inj2 h
        subst e1
        subst e2
        exact V_lv hJ111 [1, 2, 0] rfl
      · replace h := iF c83 h
        refine V_aload_n (pc2 := 87) dX8_parse_86 1 rfl rfl ?_
        obtain ⟨m17, e_m17, h⟩ := bS h
        obtain ⟨⟨fs_m17, o_m17⟩, e_m17⟩ := cV_of e_m17
        refine V_cVv (pc2 := 90) [] (st := []) o_m17 (tX8_nextToken e_m17) dX8_parse_87 wV_8_244 (by decide) rfl (Nat.le_of_ble_eq_true rfl) ?_
        refine V_aload_n (pc2 := 91) dX8_parse_90 1 rfl rfl ?_
        refine V_iload_n (pc2 := 92) dX8_parse_91 2 rfl rfl ?_
        obtain ⟨⟨b18, m19⟩, e_b18, h⟩ := bS h
        try dsimp only at h
        obtain ⟨⟨fs_b18, o_b18⟩, e_b18⟩ := cV_of e_b18
        refine V_cVi (pc2 := 95) [.int x15] (st := []) o_b18 (TFX8_either e_b18) dX8_parse_92 wV_8_275 (by decide) rfl (Nat.le_of_ble_eq_true rfl) ?_
        obtain ⟨y21, hb, h⟩ := bS h
        have hJ110 : V D 131 IX8_parse 110 [(0, .ref a0), (1, .int x15)] [.int y21] m19 0 0 (Qi rR mR) := by
          refine V_istore_n (pc2 := 111) (L2 := [(2, .int y21), (0, .ref a0), (1, .int x15)]) dX8_parse_110 ?_ rfl rfl rfl
          obtain ⟨e1, e2⟩ := inj2 h
          subst e1
          subst e2
          exact V_lv hJ111 [1, 2, 0] rfl
        clear h
        have h := hb
        clear hb
        refine V_ifb_eq (pc2 := 98) (tgt := 109) dX8_parse_95 (fun c95 => ?_) (fun c95 => ?_)
        · replace h := iF c95 h
          refine V_iconst (v := 0) (pc2 := 110) dX8_parse_109 (by decide) ?_
          have e1 := inj1 h
          subst e1
          exact V_lv hJ110 [1, 2] rfl
        · replace h := iT c95 h
          refine V_aload_n (pc2 := 99) dX8_parse_98 1 rfl rfl ?_
          obtain ⟨x20, e_x20, h⟩ := bS h
          refine V_gI (pc2 := 102) e_x20 dX8_parse_99 wF_8_210 ?_
          refine V_if_ne (pc2 := 105) (tgt := 109) dX8_parse_102 (fun c102 => ?_) (fun c102 => ?_)
          · replace h := iF c102 h
            refine V_iconst (v := 0) (pc2 := 110) dX8_parse_109 (by decide) ?_
            have e1 := inj1 h
            subst e1
            exact V_lv hJ110 [1, 2] rfl
          · replace h := iT c102 h
            refine V_iconst (v := 1) (pc2 := 106) dX8_parse_105 (by decide) ?_
            refine V_goto (tgt := 110) dX8_parse_106 ?_
            have e1 := inj1 h
            subst e1
            exact V_lv hJ110 [1, 2] rfl
    clear h
    have h := hb
    clear hb
    refine V_if_lt (pc2 := 76) (tgt := 80) dX8_parse_73 (fun c73 => ?_) (fun c73 => ?_)
    · replace h := iT c73 h
      refine V_iconst (v := 0) (pc2 := 81) dX8_parse_80 (by decide) ?_
      have e1 := inj1 h
      subst e1
      exact V_lv hJ81 [1, 0] rfl
    · replace h := iF c73 h
      refine V_iconst (v := 1) (pc2 := 77) dX8_parse_76 (by decide) ?_
      refine V_goto (tgt := 81) dX8_parse_77 ?_
      have e1 := inj1 h
      subst e1
      exact V_lv hJ81 [1, 0] rfl
  clear h
  have h := hb
  clear hb
  refine V_icmp_ge (pc2 := 42) (tgt := 57) dX8_parse_39 (fun c39 => ?_) (fun c39 => ?_)
  · replace h := iT c39 h
    refine V_sipush (v := 2892) (pc2 := 60) dX8_parse_57 (by decide) ?_
    have e1 := inj1 h
    subst e1
    exact hJ60
  · replace h := iF c39 h
    refine V_aload_n (pc2 := 43) dX8_parse_42 0 rfl rfl ?_
    refine V_aload_n (pc2 := 44) dX8_parse_43 0 rfl rfl ?_
    obtain ⟨r9, e_r9, h⟩ := bS h
    refine V_gR (pc2 := 47) e_r9 dX8_parse_44 wF_8_7 ?_
    refine V_iconst (v := 3) (pc2 := 48) dX8_parse_47 (by decide) ?_
    obtain ⟨x10, e_x10, h⟩ := bS h
    refine V_ldI (pc2 := 49) e_x10 dX8_parse_48 ?_
    obtain ⟨x11, e_x11, h⟩ := bS h
    obtain ⟨⟨fs_x11, o_x11⟩, e_x11⟩ := cV_of e_x11
    refine V_cVi (pc2 := 52) [.int x10] (st := [.ref a0]) o_x11 (tX8_textAt e_x11) dX8_parse_49 wV_8_278 (by decide) rfl (Nat.le_of_ble_eq_true rfl) ?_
    refine V_iconst (v := 4) (pc2 := 53) dX8_parse_52 (by decide) ?_
    refine V_iadd (pc2 := 54) dX8_parse_53 ?_
    refine V_goto (tgt := 60) dX8_parse_54 ?_
    have e1 := inj1 h
    subst e1
    exact hJ60
noncomputable def fX8_text (a0 : Nat) (m : Mem) : Option (Int32 × Mem) :=
  (cV m a0 8 (fX8_parse a0 m)).bind fun (x1, m2) =>
  if 0 ≤ x1 then
    (gR m2 a0 8 0).bind fun r3 =>
    (ldI m2 r3 (3 : Int32)).bind fun x4 =>
    if x4 = (14 : Int32) then
      some ((-1000000003 : Int32), m2)
    else
      (gR m2 a0 8 0).bind fun r5 =>
      (ldI m2 r5 (3 : Int32)).bind fun x6 =>
      (cV m2 a0 8 (fX8_textAt a0 x6 m2)).bind fun x7 =>
      (gR m2 a0 8 0).bind fun r8 =>
      (stI m2 r8 (x7 + (0 : Int32)) x1).bind fun m9 =>
      (gR m9 a0 8 0).bind fun r10 =>
      (gI m9 a0 8 24).bind fun x11 =>
      (stI m9 r10 (x7 + (1 : Int32)) x11).bind fun m12 =>
      (gR m12 a0 8 0).bind fun r13 =>
      (gI m12 a0 8 22).bind fun x14 =>
      (stI m12 r13 (x7 + (2 : Int32)) x14).bind fun m15 =>
      (gR m15 a0 8 0).bind fun r16 =>
      (ldI m15 r16 (3 : Int32)).bind fun x17 =>
      (stI m15 r16 (3 : Int32) (x17 + (1 : Int32))).bind fun m18 =>
      (gR m18 a0 8 0).bind fun r19 =>
      (ldI m18 r19 (3 : Int32)).bind fun x20 =>
      some (x20 - (1 : Int32), m18)
  else
    (gI m2 a0 8 15).bind fun x21 =>
    some ((-100 : Int32) - x21, m2)
set_option maxRecDepth 20000 in
theorem tX8_text {D : Dat} {a0 : Nat} {m : Mem} {rR : Int32} {mR : Mem} (h : fX8_text a0 m = some (rR, mR)) : T D 132 IX8_text [.ref a0] m 0 0 (Qi rR mR) := by
  refine T_of_V (by decide) (Nat.le_of_ble_eq_true rfl) ?_
  show V D 132 IX8_text 0 [(0, .ref a0)] [] m 0 0 (Qi rR mR)
  unfold fX8_text at h
  refine V_aload_n (pc2 := 1) dX8_text_0 0 rfl rfl ?_
  obtain ⟨⟨x1, m2⟩, e_x1, h⟩ := bS h
  try dsimp only at h
  obtain ⟨⟨fs_x1, o_x1⟩, e_x1⟩ := cV_of e_x1
  refine V_cVi (pc2 := 4) [] (st := []) o_x1 (tX8_parse e_x1) dX8_text_1 wV_8_284 (by decide) rfl (Nat.le_of_ble_eq_true rfl) ?_
  refine V_istore_n (pc2 := 5) (L2 := [(1, .int x1), (0, .ref a0)]) dX8_text_4 ?_ rfl rfl rfl
  refine V_iload_n (pc2 := 6) dX8_text_5 0 rfl rfl ?_
  refine V_if_ge (pc2 := 9) (tgt := 17) dX8_text_6 (fun c6 => ?_) (fun c6 => ?_)
  · replace h := iT c6 h
    refine V_aload_n (pc2 := 18) dX8_text_17 1 rfl rfl ?_
    obtain ⟨r3, e_r3, h⟩ := bS h
    refine V_gR (pc2 := 21) e_r3 dX8_text_18 wF_8_7 ?_
    refine V_iconst (v := 3) (pc2 := 22) dX8_text_21 (by decide) ?_
    obtain ⟨x4, e_x4, h⟩ := bS h
    refine V_ldI (pc2 := 23) e_x4 dX8_text_22 ?_
    refine V_bipush (v := 14) (pc2 := 25) dX8_text_23 (by decide) ?_
    refine V_icmp_ne (pc2 := 28) (tgt := 31) dX8_text_25 (fun c25 => ?_) (fun c25 => ?_)
    · replace h := iF c25 h
      refine V_aload_n (pc2 := 32) dX8_text_31 1 rfl rfl ?_
      refine V_aload_n (pc2 := 33) dX8_text_32 1 rfl rfl ?_
      obtain ⟨r5, e_r5, h⟩ := bS h
      refine V_gR (pc2 := 36) e_r5 dX8_text_33 wF_8_7 ?_
      refine V_iconst (v := 3) (pc2 := 37) dX8_text_36 (by decide) ?_
      obtain ⟨x6, e_x6, h⟩ := bS h
      refine V_ldI (pc2 := 38) e_x6 dX8_text_37 ?_
      obtain ⟨x7, e_x7, h⟩ := bS h
      obtain ⟨⟨fs_x7, o_x7⟩, e_x7⟩ := cV_of e_x7
      refine V_cVi (pc2 := 41) [.int x6] (st := []) o_x7 (tX8_textAt e_x7) dX8_text_38 wV_8_278 (by decide) rfl (Nat.le_of_ble_eq_true rfl) ?_
      refine V_istore_n (pc2 := 42) (L2 := [(2, .int x7), (1, .int x1), (0, .ref a0)]) dX8_text_41 ?_ rfl rfl rfl
      refine V_aload_n (pc2 := 43) dX8_text_42 2 rfl rfl ?_
      obtain ⟨r8, e_r8, h⟩ := bS h
      refine V_gR (pc2 := 46) e_r8 dX8_text_43 wF_8_7 ?_
      refine V_iload_n (pc2 := 47) dX8_text_46 0 rfl rfl ?_
      refine V_iconst (v := 0) (pc2 := 48) dX8_text_47 (by decide) ?_
      refine V_iadd (pc2 := 49) dX8_text_48 ?_
      refine V_iload_n (pc2 := 50) dX8_text_49 1 rfl rfl ?_
      obtain ⟨m9, e_m9, h⟩ := bS h
      refine V_stI (pc2 := 51) e_m9 dX8_text_50 ?_
      refine V_aload_n (pc2 := 52) dX8_text_51 2 rfl rfl ?_
      obtain ⟨r10, e_r10, h⟩ := bS h
      refine V_gR (pc2 := 55) e_r10 dX8_text_52 wF_8_7 ?_
      refine V_iload_n (pc2 := 56) dX8_text_55 0 rfl rfl ?_
      refine V_iconst (v := 1) (pc2 := 57) dX8_text_56 (by decide) ?_
      refine V_iadd (pc2 := 58) dX8_text_57 ?_
      refine V_aload_n (pc2 := 59) dX8_text_58 2 rfl rfl ?_
      obtain ⟨x11, e_x11, h⟩ := bS h
      refine V_gI (pc2 := 62) e_x11 dX8_text_59 wF_8_263 ?_
      obtain ⟨m12, e_m12, h⟩ := bS h
      refine V_stI (pc2 := 63) e_m12 dX8_text_62 ?_
      refine V_aload_n (pc2 := 64) dX8_text_63 2 rfl rfl ?_
      obtain ⟨r13, e_r13, h⟩ := bS h
      refine V_gR (pc2 := 67) e_r13 dX8_text_64 wF_8_7 ?_
      refine V_iload_n (pc2 := 68) dX8_text_67 0 rfl rfl ?_
      refine V_iconst (v := 2) (pc2 := 69) dX8_text_68 (by decide) ?_
      refine V_iadd (pc2 := 70) dX8_text_69 ?_
      refine V_aload_n (pc2 := 71) dX8_text_70 2 rfl rfl ?_
      obtain ⟨x14, e_x14, h⟩ := bS h
      refine V_gI (pc2 := 74) e_x14 dX8_text_71 wF_8_235 ?_
      obtain ⟨m15, e_m15, h⟩ := bS h
      refine V_stI (pc2 := 75) e_m15 dX8_text_74 ?_
      refine V_aload_n (pc2 := 76) dX8_text_75 2 rfl rfl ?_
      obtain ⟨r16, e_r16, h⟩ := bS h
      refine V_gR (pc2 := 79) e_r16 dX8_text_76 wF_8_7 ?_
      refine V_iconst (v := 3) (pc2 := 80) dX8_text_79 (by decide) ?_
      refine V_dup2 (pc2 := 81) dX8_text_80 rfl rfl ?_
      obtain ⟨x17, e_x17, h⟩ := bS h
      refine V_ldI (pc2 := 82) e_x17 dX8_text_81 ?_
      refine V_iconst (v := 1) (pc2 := 83) dX8_text_82 (by decide) ?_
      refine V_iadd (pc2 := 84) dX8_text_83 ?_
      obtain ⟨m18, e_m18, h⟩ := bS h
      refine V_stI (pc2 := 85) e_m18 dX8_text_84 ?_
      refine V_aload_n (pc2 := 86) dX8_text_85 2 rfl rfl ?_
      obtain ⟨r19, e_r19, h⟩ := bS h
      refine V_gR (pc2 := 89) e_r19 dX8_text_86 wF_8_7 ?_
      refine V_iconst (v := 3) (pc2 := 90) dX8_text_89 (by decide) ?_
      obtain ⟨x20, e_x20, h⟩ := bS h
      refine V_ldI (pc2 := 91) e_x20 dX8_text_90 ?_
      refine V_iconst (v := 1) (pc2 := 92) dX8_text_91 (by decide) ?_
      refine V_isub (pc2 := 93) dX8_text_92 ?_
      obtain ⟨e1, e2⟩ := inj2 h
      subst e1
      subst e2
      exact V_iret dX8_text_93 rfl ⟨rfl, rfl⟩
    · replace h := iT c25 h
      refine V_ldc (v := -1000000003) (pc2 := 30) dX8_text_28 wconstant_8_73 ?_
      obtain ⟨e1, e2⟩ := inj2 h
      subst e1
      subst e2
      exact V_iret dX8_text_30 rfl ⟨rfl, rfl⟩
  · replace h := iF c6 h
    refine V_bipush (v := -100) (pc2 := 11) dX8_text_9 (by decide) ?_
    refine V_aload_n (pc2 := 12) dX8_text_11 1 rfl rfl ?_
    obtain ⟨x21, e_x21, h⟩ := bS h
    refine V_gI (pc2 := 15) e_x21 dX8_text_12 wF_8_213 ?_
    refine V_isub (pc2 := 16) dX8_text_15 ?_
    obtain ⟨e1, e2⟩ := inj2 h
    subst e1
    subst e2
    exact V_iret dX8_text_16 rfl ⟨rfl, rfl⟩
