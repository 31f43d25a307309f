noncomputable def fX8_isDigit (a0 : Nat) (p0 : Int32) (m : Mem) : Option (Bool) :=
  (gI m a0 8 14).bind fun x1 =>
  if x1 ≤ p0 then
    some false
  else
    (gR m a0 8 13).bind fun r2 =>
    (ldI m r2 p0).bind fun x3 =>
    (fX8_isIn x3.toInt64 (48 : Int64) (57 : Int64) m).bind fun b4 =>
    if b4 = true then
      some true
    else
      some false
set_option maxRecDepth 20000 in
theorem tX8_isDigit {D : Dat} {a0 : Nat} {p0 : Int32} {m : Mem} {rR : Bool} (h : fX8_isDigit a0 p0 m = some rR) : T D 1 IX8_isDigit [.ref a0, .int p0] m 0 0 (Qi (zb rR) m) := by
  refine T_of_V (by decide) (Nat.le_of_ble_eq_true rfl) ?_
  show V D 1 IX8_isDigit 0 [(0, .ref a0), (1, .int p0)] [] m 0 0 (Qi (zb rR) m)
  unfold fX8_isDigit at h
  refine V_iload_n (pc2 := 1) dX8_isDigit_0 1 rfl rfl ?_
  refine V_aload_n (pc2 := 2) dX8_isDigit_1 0 rfl rfl ?_
  obtain ⟨x1, e_x1, h⟩ := bS h
  refine V_gI (pc2 := 5) e_x1 dX8_isDigit_2 wF_8_195 ?_
  refine V_icmp_ge (pc2 := 8) (tgt := 31) dX8_isDigit_5 (fun c5 => ?_) (fun c5 => ?_)
  · replace h := iT c5 h
    refine V_iconst (v := 0) (pc2 := 32) dX8_isDigit_31 (by decide) ?_
    have e1 := inj1 h
    subst e1
    exact V_bret (b := false) dX8_isDigit_32 rfl ⟨rfl, rfl⟩
  · replace h := iF c5 h
    refine V_aload_n (pc2 := 9) dX8_isDigit_8 0 rfl rfl ?_
    obtain ⟨r2, e_r2, h⟩ := bS h
    refine V_gR (pc2 := 12) e_r2 dX8_isDigit_9 wF_8_46 ?_
    refine V_iload_n (pc2 := 13) dX8_isDigit_12 1 rfl rfl ?_
    obtain ⟨x3, e_x3, h⟩ := bS h
    refine V_ldI (pc2 := 14) e_x3 dX8_isDigit_13 ?_
    refine V_i2l (pc2 := 15) dX8_isDigit_14 rfl ?_
    refine V_ldc2 (v := 48) (pc2 := 18) dX8_isDigit_15 wconstantLong_8_203 ?_
    refine V_ldc2 (v := 57) (pc2 := 21) dX8_isDigit_18 wconstantLong_8_205 ?_
    obtain ⟨b4, e_b4, h⟩ := bS h
    refine V_cSi (pc2 := 24) [.long x3.toInt64, .long (48 : Int64), .long (57 : Int64)] (st := []) (tX8_isIn e_b4) dX8_isDigit_21 wS_8_65 (by decide) rfl (Nat.le_of_ble_eq_true rfl) ?_
    refine V_ifb_eq (pc2 := 27) (tgt := 31) dX8_isDigit_24 (fun c24 => ?_) (fun c24 => ?_)
    · replace h := iF c24 h
      refine V_iconst (v := 0) (pc2 := 32) dX8_isDigit_31 (by decide) ?_
      have e1 := inj1 h
      subst e1
      exact V_bret (b := false) dX8_isDigit_32 rfl ⟨rfl, rfl⟩
    · replace h := iT c24 h
      refine V_iconst (v := 1) (pc2 := 28) dX8_isDigit_27 (by decide) ?_
      refine V_goto (tgt := 32) dX8_isDigit_28 ?_
      have e1 := inj1 h
      subst e1
      exact V_bret (b := true) dX8_isDigit_32 rfl ⟨rfl, rfl⟩
noncomputable def fX8_isLetter (a0 : Nat) (p0 : Int32) (m : Mem) : Option (Bool) :=
  (gI m a0 8 14).bind fun x1 =>
  if x1 ≤ p0 then
    some false
  else
    (gR m a0 8 13).bind fun r2 =>
    (ldI m r2 p0).bind fun x3 =>
    (fX8_isIn x3.toInt64 (97 : Int64) (122 : Int64) m).bind fun b4 =>
    if b4 = true then
      some true
    else
      some false
set_option maxRecDepth 20000 in
theorem tX8_isLetter {D : Dat} {a0 : Nat} {p0 : Int32} {m : Mem} {rR : Bool} (h : fX8_isLetter a0 p0 m = some rR) : T D 1 IX8_isLetter [.ref a0, .int p0] m 0 0 (Qi (zb rR) m) := by
  refine T_of_V (by decide) (Nat.le_of_ble_eq_true rfl) ?_
  show V D 1 IX8_isLetter 0 [(0, .ref a0), (1, .int p0)] [] m 0 0 (Qi (zb rR) m)
  unfold fX8_isLetter at h
  refine V_iload_n (pc2 := 1) dX8_isLetter_0 1 rfl rfl ?_
  refine V_aload_n (pc2 := 2) dX8_isLetter_1 0 rfl rfl ?_
  obtain ⟨x1, e_x1, h⟩ := bS h
  refine V_gI (pc2 := 5) e_x1 dX8_isLetter_2 wF_8_195 ?_
  refine V_icmp_ge (pc2 := 8) (tgt := 31) dX8_isLetter_5 (fun c5 => ?_) (fun c5 => ?_)
  · replace h := iT c5 h
    refine V_iconst (v := 0) (pc2 := 32) dX8_isLetter_31 (by decide) ?_
    have e1 := inj1 h
    subst e1
    exact V_bret (b := false) dX8_isLetter_32 rfl ⟨rfl, rfl⟩
  · replace h := iF c5 h
    refine V_aload_n (pc2 := 9) dX8_isLetter_8 0 rfl rfl ?_
    obtain ⟨r2, e_r2, h⟩ := bS h
    refine V_gR (pc2 := 12) e_r2 dX8_isLetter_9 wF_8_46 ?_
    refine V_iload_n (pc2 := 13) dX8_isLetter_12 1 rfl rfl ?_
    obtain ⟨x3, e_x3, h⟩ := bS h
    refine V_ldI (pc2 := 14) e_x3 dX8_isLetter_13 ?_
    refine V_i2l (pc2 := 15) dX8_isLetter_14 rfl ?_
    refine V_ldc2 (v := 97) (pc2 := 18) dX8_isLetter_15 wconstantLong_8_199 ?_
    refine V_ldc2 (v := 122) (pc2 := 21) dX8_isLetter_18 wconstantLong_8_201 ?_
    obtain ⟨b4, e_b4, h⟩ := bS h
    refine V_cSi (pc2 := 24) [.long x3.toInt64, .long (97 : Int64), .long (122 : Int64)] (st := []) (tX8_isIn e_b4) dX8_isLetter_21 wS_8_65 (by decide) rfl (Nat.le_of_ble_eq_true rfl) ?_
    refine V_ifb_eq (pc2 := 27) (tgt := 31) dX8_isLetter_24 (fun c24 => ?_) (fun c24 => ?_)
    · replace h := iF c24 h
      refine V_iconst (v := 0) (pc2 := 32) dX8_isLetter_31 (by decide) ?_
      have e1 := inj1 h
      subst e1
      exact V_bret (b := false) dX8_isLetter_32 rfl ⟨rfl, rfl⟩
    · replace h := iT c24 h
      refine V_iconst (v := 1) (pc2 := 28) dX8_isLetter_27 (by decide) ?_
      refine V_goto (tgt := 32) dX8_isLetter_28 ?_
      have e1 := inj1 h
      subst e1
      exact V_bret (b := true) dX8_isLetter_32 rfl ⟨rfl, rfl⟩
noncomputable def fX8_nextToken_b1 (a0 : Nat) : Mem → Option (Mem ⊕ Mem) := fun m33 =>
  (gI m33 a0 8 16).bind fun x34 =>
  (cV m33 a0 8 (fX8_isDigit a0 x34 m33)).bind fun b35 =>
  if b35 = true then
    (gI m33 a0 8 16).bind fun x36 =>
    (gI m33 a0 8 15).bind fun x37 =>
    (
      if (4 : Int32) ≤ (x36 - x37) then
        (gI m33 a0 8 18).bind fun x38 =>
        some x38
      else
        (gI m33 a0 8 18).bind fun x39 =>
        (gR m33 a0 8 13).bind fun r40 =>
        (gI m33 a0 8 16).bind fun x41 =>
        (ldI m33 r40 x41).bind fun x42 =>
        some ((((10 : Int32) * x39) + x42) - (48 : Int32))).bind fun y43 =>
    (pI m33 a0 8 18 y43).bind fun m44 =>
    (gI m44 a0 8 16).bind fun x45 =>
    (pI m44 a0 8 16 (x45 + (1 : Int32))).bind fun m46 =>
    some (.inl m46)
  else
    some (.inr m33)
noncomputable def fX8_nextToken_b2 (a0 : Nat) : Mem → Option (Mem ⊕ Mem) := fun m52 =>
  (gI m52 a0 8 16).bind fun x53 =>
  (cV m52 a0 8 (fX8_isLetter a0 x53 m52)).bind fun b54 =>
  if b54 = true then
    (gI m52 a0 8 16).bind fun x55 =>
    (pI m52 a0 8 16 (x55 + (1 : Int32))).bind fun m56 =>
    some (.inl m56)
  else
    some (.inr m52)
noncomputable def fX8_nextToken_b0 (a0 : Nat) : Mem → Option (Mem ⊕ Mem) := fun m6 =>
  (gI m6 a0 8 16).bind fun x7 =>
  (gI m6 a0 8 14).bind fun x8 =>
  if x8 ≤ x7 then
    some (.inr m6)
  else
    (gR m6 a0 8 13).bind fun r9 =>
    (gI m6 a0 8 16).bind fun x10 =>
    (ldI m6 r9 x10).bind fun x11 =>
    if x11 = (32 : Int32) then
      (gI m6 a0 8 16).bind fun x12 =>
      (pI m6 a0 8 16 (x12 + (1 : Int32))).bind fun m13 =>
      some (.inl m13)
    else
      some (.inr m6)
noncomputable def fX8_nextToken (a0 : Nat) (m : Mem) : Option (Mem) :=
  (gI m a0 8 16).bind fun x1 =>
  (
    if x1 ≤ 0 then
      some (0 : Int32)
    else
      (gI m a0 8 17).bind fun x2 =>
      if x2 = (1 : Int32) then
        some (1 : Int32)
      else
        (gI m a0 8 17).bind fun x3 =>
        if x3 = (2 : Int32) then
          some (1 : Int32)
        else
          some (0 : Int32)).bind fun y4 =>
  (gI m a0 8 16).bind fun x5 =>
  (loopF (fX8_nextToken_b0 a0) bigN m).bind fun m14 =>
  (
    if y4 = 0 then
      some (0 : Int32)
    else
      (gI m14 a0 8 16).bind fun x15 =>
      if x5 = x15 then
        some (1 : Int32)
      else
        some (0 : Int32)).bind fun y16 =>
  (gI m14 a0 8 16).bind fun x17 =>
  (pI m14 a0 8 15 x17).bind fun m18 =>
  (gI m18 a0 8 15).bind fun x19 =>
  (gI m18 a0 8 14).bind fun x20 =>
  if x19 = x20 then
    (pI m18 a0 8 17 (0 : Int32)).bind fun m67 =>
    some m67
  else
    (gI m18 a0 8 15).bind fun x21 =>
    (cV m18 a0 8 (fX8_isLetter a0 x21 m18)).bind fun b22 =>
    if b22 = true then
      (loopF (fX8_nextToken_b2 a0) bigN m18).bind fun m57 =>
      (
        if y16 = 0 then
          some (1 : Int32)
        else
          some (4 : Int32)).bind fun y58 =>
      (pI m57 a0 8 17 y58).bind fun m59 =>
      (gI m59 a0 8 16).bind fun x60 =>
      (gI m59 a0 8 15).bind fun x61 =>
      (
        if (x60 - x61) = (1 : Int32) then
          (gR m59 a0 8 13).bind fun r62 =>
          (gI m59 a0 8 15).bind fun x63 =>
          (ldI m59 r62 x63).bind fun x64 =>
          some x64
        else
          some (0 : Int32)).bind fun y65 =>
      (pI m59 a0 8 19 y65).bind fun m66 =>
      some m66
    else
      (gI m18 a0 8 15).bind fun x23 =>
      (cV m18 a0 8 (fX8_isDigit a0 x23 m18)).bind fun b24 =>
      if b24 = true then
        (pI m18 a0 8 18 (0 : Int32)).bind fun m32 =>
        (loopF (fX8_nextToken_b1 a0) bigN m32).bind fun m47 =>
        (
          if y16 = 0 then
            (gI m47 a0 8 16).bind fun x48 =>
            (gI m47 a0 8 15).bind fun x49 =>
            if (x48 - x49) ≤ (4 : Int32) then
              some (2 : Int32)
            else
              some (4 : Int32)
          else
            some (4 : Int32)).bind fun y50 =>
        (pI m47 a0 8 17 y50).bind fun m51 =>
        some m51
      else
        (pI m18 a0 8 17 (3 : Int32)).bind fun m25 =>
        (gR m25 a0 8 13).bind fun r26 =>
        (gI m25 a0 8 15).bind fun x27 =>
        (ldI m25 r26 x27).bind fun x28 =>
        (pI m25 a0 8 19 x28).bind fun m29 =>
        (gI m29 a0 8 16).bind fun x30 =>
        (pI m29 a0 8 16 (x30 + (1 : Int32))).bind fun m31 =>
        some m31
set_option maxRecDepth 20000 in
theorem tX8_nextToken {D : Dat} {a0 : Nat} {m : Mem} {mR : Mem} (h : fX8_nextToken a0 m = some mR) : T D 2 IX8_nextToken [.ref a0] m 0 0 (Qv mR) := by
  refine T_of_V (by decide) (Nat.le_of_ble_eq_true rfl) ?_
  show V D 2 IX8_nextToken 0 [(0, .ref a0)] [] m 0 0 (Qv mR)
  unfold fX8_nextToken at h
  refine V_aload_n (pc2 := 1) dX8_nextToken_0 0 rfl rfl ?_
  obtain ⟨x1, e_x1, h⟩ := bS h
  refine V_gI (pc2 := 4) e_x1 dX8_nextToken_1 wF_8_207 ?_
  obtain ⟨y4, hb, h⟩ := bS h
  have hJ28 : V D 2 IX8_nextToken 28 [(0, .ref a0)] [.int y4] m 0 0 (Qv mR) := by
    refine V_istore_n (pc2 := 29) (L2 := [(1, .int y4), (0, .ref a0)]) dX8_nextToken_28 ?_ rfl rfl rfl
    refine V_aload_n (pc2 := 30) dX8_nextToken_29 1 rfl rfl ?_
    obtain ⟨x5, e_x5, h⟩ := bS h
    refine V_gI (pc2 := 33) e_x5 dX8_nextToken_30 wF_8_207 ?_
    refine V_istore_n (pc2 := 34) (L2 := [(2, .int x5), (1, .int y4), (0, .ref a0)]) dX8_nextToken_33 ?_ rfl rfl rfl
    obtain ⟨m14, hl, h⟩ := bS h
    have hJ72 : V D 2 IX8_nextToken 72 [(0, .ref a0), (1, .int y4), (2, .int x5)] [] m14 0 0 (Qv mR) := by
      refine V_iload_n (pc2 := 73) dX8_nextToken_72 1 rfl rfl ?_
      obtain ⟨y16, hb, h⟩ := bS h
      have hJ89 : V D 2 IX8_nextToken 89 [(0, .ref a0)] [.int y16] m14 0 0 (Qv mR) := by
        refine V_istore_n (pc2 := 90) (L2 := [(1, .int y16), (0, .ref a0)]) dX8_nextToken_89 ?_ rfl rfl rfl
        refine V_aload_n (pc2 := 91) dX8_nextToken_90 1 rfl rfl ?_
        refine V_aload_n (pc2 := 92) dX8_nextToken_91 1 rfl rfl ?_
        obtain ⟨x17, e_x17, h⟩ := bS h
        refine V_gI (pc2 := 95) e_x17 dX8_nextToken_92 wF_8_207 ?_
        obtain ⟨m18, e_m18, h⟩ := bS h
        refine V_pI (pc2 := 98) e_m18 dX8_nextToken_95 wP_8_213 rfl rfl ?_
        refine V_aload_n (pc2 := 99) dX8_nextToken_98 1 rfl rfl ?_
        obtain ⟨x19, e_x19, h⟩ := bS h
        refine V_gI (pc2 := 102) e_x19 dX8_nextToken_99 wF_8_213 ?_
        refine V_aload_n (pc2 := 103) dX8_nextToken_102 1 rfl rfl ?_
        obtain ⟨x20, e_x20, h⟩ := bS h
        refine V_gI (pc2 := 106) e_x20 dX8_nextToken_103 wF_8_195 ?_
        refine V_icmp_ne (pc2 := 109) (tgt := 117) dX8_nextToken_106 (fun c106 => ?_) (fun c106 => ?_)
        · replace h := iF c106 h
          refine V_aload_n (pc2 := 118) dX8_nextToken_117 1 rfl rfl ?_
          refine V_aload_n (pc2 := 119) dX8_nextToken_118 1 rfl rfl ?_
          obtain ⟨x21, e_x21, h⟩ := bS h
          refine V_gI (pc2 := 122) e_x21 dX8_nextToken_119 wF_8_213 ?_
          obtain ⟨b22, e_b22, h⟩ := bS h
          obtain ⟨⟨fs_b22, o_b22⟩, e_b22⟩ := cV_of e_b22
          refine V_cVi (pc2 := 125) [.int x21] (st := []) o_b22 (tX8_isLetter e_b22) dX8_nextToken_122 wV_8_216 (by decide) rfl (Nat.le_of_ble_eq_true rfl) ?_
          refine V_ifb_eq (pc2 := 128) (tgt := 198) dX8_nextToken_125 (fun c125 => ?_) (fun c125 => ?_)
          · replace h := iF c125 h
            refine V_aload_n (pc2 := 199) dX8_nextToken_198 1 rfl rfl ?_
            refine V_aload_n (pc2 := 200) dX8_nextToken_199 1 rfl rfl ?_
            obtain ⟨x23, e_x23, h⟩ := bS h
            refine V_gI (pc2 := 203) e_x23 dX8_nextToken_200 wF_8_213 ?_
            obtain ⟨b24, e_b24, h⟩ := bS h
            obtain ⟨⟨fs_b24, o_b24⟩, e_b24⟩ := cV_of e_b24
            refine V_cVi (pc2 := 206) [.int x23] (st := []) o_b24 (tX8_isDigit e_b24) dX8_nextToken_203 wV_8_222 (by decide) rfl (Nat.le_of_ble_eq_true rfl) ?_
            refine V_ifb_eq (pc2 := 209) (tgt := 311) dX8_nextToken_206 (fun c206 => ?_) (fun c206 => ?_)
            · replace h := iF c206 h
              refine V_aload_n (pc2 := 312) dX8_nextToken_311 1 rfl rfl ?_
              refine V_iconst (v := 3) (pc2 := 313) dX8_nextToken_312 (by decide) ?_
              obtain ⟨m25, e_m25, h⟩ := bS h
              refine V_pI (pc2 := 316) e_m25 dX8_nextToken_313 wP_8_210 rfl rfl ?_
              refine V_aload_n (pc2 := 317) dX8_nextToken_316 1 rfl rfl ?_
              refine V_aload_n (pc2 := 318) dX8_nextToken_317 1 rfl rfl ?_
              obtain ⟨r26, e_r26, h⟩ := bS h
              refine V_gR (pc2 := 321) e_r26 dX8_nextToken_318 wF_8_46 ?_
              refine V_aload_n (pc2 := 322) dX8_nextToken_321 1 rfl rfl ?_
              obtain ⟨x27, e_x27, h⟩ := bS h
              refine V_gI (pc2 := 325) e_x27 dX8_nextToken_322 wF_8_213 ?_
              obtain ⟨x28, e_x28, h⟩ := bS h
              refine V_ldI (pc2 := 326) e_x28 dX8_nextToken_325 ?_
              obtain ⟨m29, e_m29, h⟩ := bS h
              refine V_pI (pc2 := 329) e_m29 dX8_nextToken_326 wP_8_219 rfl rfl ?_
              refine V_aload_n (pc2 := 330) dX8_nextToken_329 1 rfl rfl ?_
              refine V_dup (pc2 := 331) dX8_nextToken_330 rfl ?_
              obtain ⟨x30, e_x30, h⟩ := bS h
              refine V_gI (pc2 := 334) e_x30 dX8_nextToken_331 wF_8_207 ?_
              refine V_iconst (v := 1) (pc2 := 335) dX8_nextToken_334 (by decide) ?_
              refine V_iadd (pc2 := 336) dX8_nextToken_335 ?_
              obtain ⟨m31, e_m31, h⟩ := bS h
              refine V_pI (pc2 := 339) e_m31 dX8_nextToken_336 wP_8_207 rfl rfl ?_
              have e1 := inj1 h
              subst e1
              exact V_vret dX8_nextToken_339 rfl ⟨rfl, rfl⟩
            · replace h := iT c206 h
              refine V_aload_n (pc2 := 210) dX8_nextToken_209 1 rfl rfl ?_
              refine V_iconst (v := 0) (pc2 := 211) dX8_nextToken_210 (by decide) ?_
              obtain ⟨m32, e_m32, h⟩ := bS h
              refine V_pI (pc2 := 214) e_m32 dX8_nextToken_211 wP_8_225 rfl rfl ?_
              obtain ⟨m47, hl, h⟩ := bS h
              have hJ282 : V D 2 IX8_nextToken 282 [(0, .ref a0), (1, .int y16)] [] m47 0 0 (Qv mR) := by
                refine V_aload_n (pc2 := 283) dX8_nextToken_282 0 rfl rfl ?_
                refine V_iload_n (pc2 := 284) dX8_nextToken_283 1 rfl rfl ?_
                obtain ⟨y50, hb, h⟩ := bS h
                have hJ305 : V D 2 IX8_nextToken 305 [] [.int y50, .ref a0] m47 0 0 (Qv mR) := by
                  obtain ⟨m51, e_m51, h⟩ := bS h
                  refine V_pI (pc2 := 308) e_m51 dX8_nextToken_305 wP_8_210 rfl rfl ?_
                  refine V_goto (tgt := 339) dX8_nextToken_308 ?_
                  have e1 := inj1 h
                  subst e1
                  exact V_vret dX8_nextToken_339 rfl ⟨rfl, rfl⟩
                clear h
                have h := hb
                clear hb
                refine V_if_ne (pc2 := 287) (tgt := 300) dX8_nextToken_284 (fun c284 => ?_) (fun c284 => ?_)
                · replace h := iF c284 h
                  refine V_iconst (v := 4) (pc2 := 301) dX8_nextToken_300 (by decide) ?_
                  refine V_goto (tgt := 305) dX8_nextToken_301 ?_
                  have e1 := inj1 h
                  subst e1
                  exact V_lv hJ305 [] rfl
                · replace h := iT c284 h
                  refine V_aload_n (pc2 := 288) dX8_nextToken_287 0 rfl rfl ?_
                  obtain ⟨x48, e_x48, h⟩ := bS h
                  refine V_gI (pc2 := 291) e_x48 dX8_nextToken_288 wF_8_207 ?_
                  refine V_aload_n (pc2 := 292) dX8_nextToken_291 0 rfl rfl ?_
                  obtain ⟨x49, e_x49, h⟩ := bS h
                  refine V_gI (pc2 := 295) e_x49 dX8_nextToken_292 wF_8_213 ?_
                  refine V_isub (pc2 := 296) dX8_nextToken_295 ?_
                  refine V_iconst (v := 4) (pc2 := 297) dX8_nextToken_296 (by decide) ?_
                  refine V_icmp_le (pc2 := 300) (tgt := 304) dX8_nextToken_297 (fun c297 => ?_) (fun c297 => ?_)
                  · replace h := iT c297 h
                    refine V_iconst (v := 2) (pc2 := 305) dX8_nextToken_304 (by decide) ?_
                    have e1 := inj1 h
                    subst e1
                    exact V_lv hJ305 [] rfl
                  · replace h := iF c297 h
                    refine V_iconst (v := 4) (pc2 := 301) dX8_nextToken_300 (by decide) ?_
                    refine V_goto (tgt := 305) dX8_nextToken_301 ?_
                    have e1 := inj1 h
                    subst e1
                    exact V_lv hJ305 [] rfl
              clear h
              have key214 : ∀ (n : Nat) (m33 : Mem), loopF (fX8_nextToken_b1 a0) n m33 = some m47 → V D 2 IX8_nextToken 214 [(0, .ref a0), (1, .int y16)] [] m33 0 0 (Qv mR) := by
                intro n
                induction n with
                | zero => intro m33 h; cases h
                | succ n ih =>
                  intro m33 h
                  obtain ⟨o, h, ho⟩ := loopF_inv h
                  dsimp only [fX8_nextToken_b1] at h
                  refine V_aload_n (pc2 := 215) dX8_nextToken_214 0 rfl rfl ?_
                  refine V_aload_n (pc2 := 216) dX8_nextToken_215 0 rfl rfl ?_
                  obtain ⟨x34, e_x34, h⟩ := bS h
                  refine V_gI (pc2 := 219) e_x34 dX8_nextToken_216 wF_8_207 ?_
                  obtain ⟨b35, e_b35, h⟩ := bS h
                  obtain ⟨⟨fs_b35, o_b35⟩, e_b35⟩ := cV_of e_b35
                  refine V_cVi (pc2 := 222) [.int x34] (st := []) o_b35 (tX8_isDigit e_b35) dX8_nextToken_219 wV_8_222 (by decide) rfl (Nat.le_of_ble_eq_true rfl) ?_
                  refine V_ifb_eq (pc2 := 225) (tgt := 282) dX8_nextToken_222 (fun c222 => ?_) (fun c222 => ?_)
                  · replace h := iF c222 h
                    have ee := inj1 h
                    subst ee
                    have e1 := pinj1 (loopF_e ho)
                    subst e1
                    exact hJ282
                  · replace h := iT c222 h
                    refine V_aload_n (pc2 := 226) dX8_nextToken_225 0 rfl rfl ?_
                    refine V_aload_n (pc2 := 227) dX8_nextToken_226 0 rfl rfl ?_
                    obtain ⟨x36, e_x36, h⟩ := bS h
                    refine V_gI (pc2 := 230) e_x36 dX8_nextToken_227 wF_8_207 ?_
                    refine V_aload_n (pc2 := 231) dX8_nextToken_230 0 rfl rfl ?_
                    obtain ⟨x37, e_x37, h⟩ := bS h
                    refine V_gI (pc2 := 234) e_x37 dX8_nextToken_231 wF_8_213 ?_
                    refine V_isub (pc2 := 235) dX8_nextToken_234 ?_
                    refine V_iconst (v := 4) (pc2 := 236) dX8_nextToken_235 (by decide) ?_
                    obtain ⟨y43, hb, h⟩ := bS h
                    have hJ266 : V D 2 IX8_nextToken 266 [(0, .ref a0), (1, .int y16)] [.int y43, .ref a0] m33 0 0 (Qv mR) := by
                      obtain ⟨m44, e_m44, h⟩ := bS h
                      refine V_pI (pc2 := 269) e_m44 dX8_nextToken_266 wP_8_225 rfl rfl ?_
                      refine V_aload_n (pc2 := 270) dX8_nextToken_269 0 rfl rfl ?_
                      refine V_dup (pc2 := 271) dX8_nextToken_270 rfl ?_
                      obtain ⟨x45, e_x45, h⟩ := bS h
                      refine V_gI (pc2 := 274) e_x45 dX8_nextToken_271 wF_8_207 ?_
                      refine V_iconst (v := 1) (pc2 := 275) dX8_nextToken_274 (by decide) ?_
                      refine V_iadd (pc2 := 276) dX8_nextToken_275 ?_
                      obtain ⟨m46, e_m46, h⟩ := bS h
                      refine V_pI (pc2 := 279) e_m46 dX8_nextToken_276 wP_8_207 rfl rfl ?_
                      refine V_goto (tgt := 214) dX8_nextToken_279 ?_
                      have ee := inj1 h
                      subst ee
                      exact (ih _ (loopF_c ho))
                    clear h
                    have h := hb
                    clear hb
                    refine V_icmp_ge (pc2 := 239) (tgt := 262) dX8_nextToken_236 (fun c236 => ?_) (fun c236 => ?_)
                    · replace h := iT c236 h
                      refine V_aload_n (pc2 := 263) dX8_nextToken_262 0 rfl rfl ?_
                      obtain ⟨x38, e_x38, h⟩ := bS h
                      refine V_gI (pc2 := 266) e_x38 dX8_nextToken_263 wF_8_225 ?_
                      have e1 := inj1 h
                      subst e1
                      exact hJ266
                    · replace h := iF c236 h
                      refine V_bipush (v := 10) (pc2 := 241) dX8_nextToken_239 (by decide) ?_
                      refine V_aload_n (pc2 := 242) dX8_nextToken_241 0 rfl rfl ?_
                      obtain ⟨x39, e_x39, h⟩ := bS h
                      refine V_gI (pc2 := 245) e_x39 dX8_nextToken_242 wF_8_225 ?_
                      refine V_imul (pc2 := 246) dX8_nextToken_245 ?_
                      refine V_aload_n (pc2 := 247) dX8_nextToken_246 0 rfl rfl ?_
                      obtain ⟨r40, e_r40, h⟩ := bS h
                      refine V_gR (pc2 := 250) e_r40 dX8_nextToken_247 wF_8_46 ?_
                      refine V_aload_n (pc2 := 251) dX8_nextToken_250 0 rfl rfl ?_
                      obtain ⟨x41, e_x41, h⟩ := bS h
                      refine V_gI (pc2 := 254) e_x41 dX8_nextToken_251 wF_8_207 ?_
                      obtain ⟨x42, e_x42, h⟩ := bS h
                      refine V_ldI (pc2 := 255) e_x42 dX8_nextToken_254 ?_
                      refine V_iadd (pc2 := 256) dX8_nextToken_255 ?_
                      refine V_bipush (v := 48) (pc2 := 258) dX8_nextToken_256 (by decide) ?_
                      refine V_isub (pc2 := 259) dX8_nextToken_258 ?_
                      refine V_goto (tgt := 266) dX8_nextToken_259 ?_
                      have e1 := inj1 h
                      subst e1
                      exact hJ266
              exact V_lv (key214 _ _ hl) [1, 0] rfl
          · replace h := iT c125 h
            obtain ⟨m57, hl, h⟩ := bS h
            have hJ152 : V D 2 IX8_nextToken 152 [(0, .ref a0), (1, .int y16)] [] m57 0 0 (Qv mR) := by
              refine V_aload_n (pc2 := 153) dX8_nextToken_152 0 rfl rfl ?_
              refine V_iload_n (pc2 := 154) dX8_nextToken_153 1 rfl rfl ?_
              obtain ⟨y58, hb, h⟩ := bS h
              have hJ162 : V D 2 IX8_nextToken 162 [(0, .ref a0)] [.int y58, .ref a0] m57 0 0 (Qv mR) := by
                obtain ⟨m59, e_m59, h⟩ := bS h
                refine V_pI (pc2 := 165) e_m59 dX8_nextToken_162 wP_8_210 rfl rfl ?_
                refine V_aload_n (pc2 := 166) dX8_nextToken_165 0 rfl rfl ?_
                refine V_aload_n (pc2 := 167) dX8_nextToken_166 0 rfl rfl ?_
                obtain ⟨x60, e_x60, h⟩ := bS h
                refine V_gI (pc2 := 170) e_x60 dX8_nextToken_167 wF_8_207 ?_
                refine V_aload_n (pc2 := 171) dX8_nextToken_170 0 rfl rfl ?_
                obtain ⟨x61, e_x61, h⟩ := bS h
                refine V_gI (pc2 := 174) e_x61 dX8_nextToken_171 wF_8_213 ?_
                refine V_isub (pc2 := 175) dX8_nextToken_174 ?_
                refine V_iconst (v := 1) (pc2 := 176) dX8_nextToken_175 (by decide) ?_
                obtain ⟨y65, hb, h⟩ := bS h
                have hJ192 : V D 2 IX8_nextToken 192 [] [.int y65, .ref a0] m59 0 0 (Qv mR) := by
                  obtain ⟨m66, e_m66, h⟩ := bS h
                  refine V_pI (pc2 := 195) e_m66 dX8_nextToken_192 wP_8_219 rfl rfl ?_
                  refine V_goto (tgt := 339) dX8_nextToken_195 ?_
                  have e1 := inj1 h
                  subst e1
                  exact V_vret dX8_nextToken_339 rfl ⟨rfl, rfl⟩
                clear h
                have h := hb
                clear hb
                refine V_icmp_ne (pc2 := 179) (tgt := 191) dX8_nextToken_176 (fun c176 => ?_) (fun c176 => ?_)
                · replace h := iF c176 h
                  refine V_iconst (v := 0) (pc2 := 192) dX8_nextToken_191 (by decide) ?_
                  have e1 := inj1 h
                  subst e1
                  exact V_lv hJ192 [] rfl
                · replace h := iT c176 h
                  refine V_aload_n (pc2 := 180) dX8_nextToken_179 0 rfl rfl ?_
                  obtain ⟨r62, e_r62, h⟩ := bS h
                  refine V_gR (pc2 := 183) e_r62 dX8_nextToken_180 wF_8_46 ?_
                  refine V_aload_n (pc2 := 184) dX8_nextToken_183 0 rfl rfl ?_
                  obtain ⟨x63, e_x63, h⟩ := bS h
                  refine V_gI (pc2 := 187) e_x63 dX8_nextToken_184 wF_8_213 ?_
                  obtain ⟨x64, e_x64, h⟩ := bS h
                  refine V_ldI (pc2 := 188) e_x64 dX8_nextToken_187 ?_
                  refine V_goto (tgt := 192) dX8_nextToken_188 ?_
                  have e1 := inj1 h
                  subst e1
                  exact V_lv hJ192 [] rfl
              clear h
              have h := hb
              clear hb
              refine V_if_eq (pc2 := 157) (tgt := 161) dX8_nextToken_154 (fun c154 => ?_) (fun c154 => ?_)
              · replace h := iT c154 h
                refine V_iconst (v := 1) (pc2 := 162) dX8_nextToken_161 (by decide) ?_
                have e1 := inj1 h
                subst e1
                exact V_lv hJ162 [0] rfl
              · replace h := iF c154 h
                refine V_iconst (v := 4) (pc2 := 158) dX8_nextToken_157 (by decide) ?_
                refine V_goto (tgt := 162) dX8_nextToken_158 ?_
                have e1 := inj1 h
                subst e1
                exact V_lv hJ162 [0] rfl
            clear h
            have key128 : ∀ (n : Nat) (m52 : Mem), loopF (fX8_nextToken_b2 a0) n m52 = some m57 → V D 2 IX8_nextToken 128 [(0, .ref a0), (1, .int y16)] [] m52 0 0 (Qv mR) := by
              intro n
              induction n with
              | zero => intro m52 h; cases h
              | succ n ih =>
                intro m52 h
                obtain ⟨o, h, ho⟩ := loopF_inv h
                dsimp only [fX8_nextToken_b2] at h
                refine V_aload_n (pc2 := 129) dX8_nextToken_128 0 rfl rfl ?_
                refine V_aload_n (pc2 := 130) dX8_nextToken_129 0 rfl rfl ?_
                obtain ⟨x53, e_x53, h⟩ := bS h
                refine V_gI (pc2 := 133) e_x53 dX8_nextToken_130 wF_8_207 ?_
                obtain ⟨b54, e_b54, h⟩ := bS h
                obtain ⟨⟨fs_b54, o_b54⟩, e_b54⟩ := cV_of e_b54
                refine V_cVi (pc2 := 136) [.int x53] (st := []) o_b54 (tX8_isLetter e_b54) dX8_nextToken_133 wV_8_216 (by decide) rfl (Nat.le_of_ble_eq_true rfl) ?_
                refine V_ifb_eq (pc2 := 139) (tgt := 152) dX8_nextToken_136 (fun c136 => ?_) (fun c136 => ?_)
                · replace h := iF c136 h
                  have ee := inj1 h
                  subst ee
                  have e1 := pinj1 (loopF_e ho)
                  subst e1
                  exact hJ152
                · replace h := iT c136 h
                  refine V_aload_n (pc2 := 140) dX8_nextToken_139 0 rfl rfl ?_
                  refine V_dup (pc2 := 141) dX8_nextToken_140 rfl ?_
                  obtain ⟨x55, e_x55, h⟩ := bS h
                  refine V_gI (pc2 := 144) e_x55 dX8_nextToken_141 wF_8_207 ?_
                  refine V_iconst (v := 1) (pc2 := 145) dX8_nextToken_144 (by decide) ?_
                  refine V_iadd (pc2 := 146) dX8_nextToken_145 ?_
                  obtain ⟨m56, e_m56, h⟩ := bS h
                  refine V_pI (pc2 := 149) e_m56 dX8_nextToken_146 wP_8_207 rfl rfl ?_
                  refine V_goto (tgt := 128) dX8_nextToken_149 ?_
                  have ee := inj1 h
                  subst ee
                  exact (ih _ (loopF_c ho))
            exact V_lv (key128 _ _ hl) [1, 0] rfl
        · replace h := iT c106 h
          refine V_aload_n (pc2 := 110) dX8_nextToken_109 1 rfl rfl ?_
          refine V_iconst (v := 0) (pc2 := 111) dX8_nextToken_110 (by decide) ?_
          obtain ⟨m67, e_m67, h⟩ := bS h
          refine V_pI (pc2 := 114) e_m67 dX8_nextToken_111 wP_8_210 rfl rfl ?_
          refine V_goto (tgt := 339) dX8_nextToken_114 ?_
          have e1 := inj1 h
          subst e1
          exact V_vret dX8_nextToken_339 rfl ⟨rfl, rfl⟩
      clear h
      have h := hb
      clear hb
      refine V_if_eq (pc2 := 76) (tgt := 88) dX8_nextToken_73 (fun c73 => ?_) (fun c73 => ?_)
      · replace h := iT c73 h
        refine V_iconst (v := 0) (pc2 := 89) dX8_nextToken_88 (by decide) ?_
        have e1 := inj1 h
        subst e1
        exact V_lv hJ89 [0] rfl
      · replace h := iF c73 h
        refine V_iload_n (pc2 := 77) dX8_nextToken_76 2 rfl rfl ?_
        refine V_aload_n (pc2 := 78) dX8_nextToken_77 0 rfl rfl ?_
        obtain ⟨x15, e_x15, h⟩ := bS h
        refine V_gI (pc2 := 81) e_x15 dX8_nextToken_78 wF_8_207 ?_
        refine V_icmp_ne (pc2 := 84) (tgt := 88) dX8_nextToken_81 (fun c81 => ?_) (fun c81 => ?_)
        · replace h := iF c81 h
          refine V_iconst (v := 0) (pc2 := 89) dX8_nextToken_88 (by decide) ?_
          have e1 := inj1 h
          subst e1
          exact V_lv hJ89 [0] rfl
        · replace h := iT c81 h
          refine V_iconst (v := 1) (pc2 := 85) dX8_nextToken_84 (by decide) ?_
          refine V_goto (tgt := 89) dX8_nextToken_85 ?_
          have e1 := inj1 h
          subst e1
          exact V_lv hJ89 [0] rfl
    clear h
    have key34 : ∀ (n : Nat) (m6 : Mem), loopF (fX8_nextToken_b0 a0) n m6 = some m14 → V D 2 IX8_nextToken 34 [(0, .ref a0), (1, .int y4), (2, .int x5)] [] m6 0 0 (Qv mR) := by
      intro n
      induction n with
      | zero => intro m6 h; cases h
      | succ n ih =>
        intro m6 h
        obtain ⟨o, h, ho⟩ := loopF_inv h
        dsimp only [fX8_nextToken_b0] at h
        refine V_aload_n (pc2 := 35) dX8_nextToken_34 0 rfl rfl ?_
        obtain ⟨x7, e_x7, h⟩ := bS h
        refine V_gI (pc2 := 38) e_x7 dX8_nextToken_35 wF_8_207 ?_
        refine V_aload_n (pc2 := 39) dX8_nextToken_38 0 rfl rfl ?_
        obtain ⟨x8, e_x8, h⟩ := bS h
        refine V_gI (pc2 := 42) e_x8 dX8_nextToken_39 wF_8_195 ?_
        refine V_icmp_ge (pc2 := 45) (tgt := 72) dX8_nextToken_42 (fun c42 => ?_) (fun c42 => ?_)
        · replace h := iT c42 h
          have ee := inj1 h
          subst ee
          have e1 := pinj1 (loopF_e ho)
          subst e1
          exact hJ72
        · replace h := iF c42 h
          refine V_aload_n (pc2 := 46) dX8_nextToken_45 0 rfl rfl ?_
          obtain ⟨r9, e_r9, h⟩ := bS h
          refine V_gR (pc2 := 49) e_r9 dX8_nextToken_46 wF_8_46 ?_
          refine V_aload_n (pc2 := 50) dX8_nextToken_49 0 rfl rfl ?_
          obtain ⟨x10, e_x10, h⟩ := bS h
          refine V_gI (pc2 := 53) e_x10 dX8_nextToken_50 wF_8_207 ?_
          obtain ⟨x11, e_x11, h⟩ := bS h
          refine V_ldI (pc2 := 54) e_x11 dX8_nextToken_53 ?_
          refine V_bipush (v := 32) (pc2 := 56) dX8_nextToken_54 (by decide) ?_
          refine V_icmp_ne (pc2 := 59) (tgt := 72) dX8_nextToken_56 (fun c56 => ?_) (fun c56 => ?_)
          · replace h := iF c56 h
            have ee := inj1 h
            subst ee
            have e1 := pinj1 (loopF_e ho)
            subst e1
            exact hJ72
          · replace h := iT c56 h
            refine V_aload_n (pc2 := 60) dX8_nextToken_59 0 rfl rfl ?_
            refine V_dup (pc2 := 61) dX8_nextToken_60 rfl ?_
            obtain ⟨x12, e_x12, h⟩ := bS h
            refine V_gI (pc2 := 64) e_x12 dX8_nextToken_61 wF_8_207 ?_
            refine V_iconst (v := 1) (pc2 := 65) dX8_nextToken_64 (by decide) ?_
            refine V_iadd (pc2 := 66) dX8_nextToken_65 ?_
            obtain ⟨m13, e_m13, h⟩ := bS h
            refine V_pI (pc2 := 69) e_m13 dX8_nextToken_66 wP_8_207 rfl rfl ?_
            refine V_goto (tgt := 34) dX8_nextToken_69 ?_
            have ee := inj1 h
            subst ee
            exact (ih _ (loopF_c ho))
    exact V_lv (key34 _ _ hl) [2, 1, 0] rfl
  clear h
  have h := hb
  clear hb
  refine V_if_le (pc2 := 7) (tgt := 27) dX8_nextToken_4 (fun c4 => ?_) (fun c4 => ?_)
  · replace h := iT c4 h
    refine V_iconst (v := 0) (pc2 := 28) dX8_nextToken_27 (by decide) ?_
    have e1 := inj1 h
    subst e1
    exact hJ28
  · replace h := iF c4 h
    refine V_aload_n (pc2 := 8) dX8_nextToken_7 0 rfl rfl ?_
    obtain ⟨x2, e_x2, h⟩ := bS h
    refine V_gI (pc2 := 11) e_x2 dX8_nextToken_8 wF_8_210 ?_
    refine V_iconst (v := 1) (pc2 := 12) dX8_nextToken_11 (by decide) ?_
    refine V_icmp_eq (pc2 := 15) (tgt := 23) dX8_nextToken_12 (fun c12 => ?_) (fun c12 => ?_)
    · replace h := iT c12 h
      refine V_iconst (v := 1) (pc2 := 24) dX8_nextToken_23 (by decide) ?_
      refine V_goto (tgt := 28) dX8_nextToken_24 ?_
      have e1 := inj1 h
      subst e1
      exact hJ28
    · replace h := iF c12 h
      refine V_aload_n (pc2 := 16) dX8_nextToken_15 0 rfl rfl ?_
      obtain ⟨x3, e_x3, h⟩ := bS h
      refine V_gI (pc2 := 19) e_x3 dX8_nextToken_16 wF_8_210 ?_
      refine V_iconst (v := 2) (pc2 := 20) dX8_nextToken_19 (by decide) ?_
      refine V_icmp_ne (pc2 := 23) (tgt := 27) dX8_nextToken_20 (fun c20 => ?_) (fun c20 => ?_)
      · replace h := iF c20 h
        refine V_iconst (v := 0) (pc2 := 28) dX8_nextToken_27 (by decide) ?_
        have e1 := inj1 h
        subst e1
        exact hJ28
      · replace h := iT c20 h
        refine V_iconst (v := 1) (pc2 := 24) dX8_nextToken_23 (by decide) ?_
        refine V_goto (tgt := 28) dX8_nextToken_24 ?_
        have e1 := inj1 h
        subst e1
        exact hJ28
noncomputable def fX8_isWordAt (a0 : Nat) (p0 : Int32) (p1 : Int32) (p2 : Int32) (p3 : Int32) (m : Mem) : Option (Bool) :=
  (
    if p3 = 0 then
      some (3 : Int32)
    else
      some (4 : Int32)).bind fun y1 =>
  (gI m a0 8 17).bind fun x2 =>
  if x2 = (1 : Int32) then
    (gI m a0 8 16).bind fun x3 =>
    (gI m a0 8 15).bind fun x4 =>
    if (x3 - x4) = y1 then
      (gR m a0 8 13).bind fun r5 =>
      (gI m a0 8 15).bind fun x6 =>
      (ldI m r5 x6).bind fun x7 =>
      if x7 = p0 then
        (gR m a0 8 13).bind fun r8 =>
        (gI m a0 8 15).bind fun x9 =>
        (ldI m r8 (x9 + (1 : Int32))).bind fun x10 =>
        if x10 = p1 then
          (gR m a0 8 13).bind fun r11 =>
          (gI m a0 8 15).bind fun x12 =>
          (ldI m r11 (x12 + (2 : Int32))).bind fun x13 =>
          if x13 = p2 then
            if p3 = 0 then
              some true
            else
              (gR m a0 8 13).bind fun r14 =>
              (gI m a0 8 15).bind fun x15 =>
              (ldI m r14 (x15 + (3 : Int32))).bind fun x16 =>
              if x16 = p3 then
                some true
              else
                some false
          else
            some false
        else
          some false
      else
        some false
    else
      some false
  else
    some false
set_option maxRecDepth 20000 in
theorem tX8_isWordAt {D : Dat} {a0 : Nat} {p0 : Int32} {p1 : Int32} {p2 : Int32} {p3 : Int32} {m : Mem} {rR : Bool} (h : fX8_isWordAt a0 p0 p1 p2 p3 m = some rR) : T D 0 IX8_isWordAt [.ref a0, .int p0, .int p1, .int p2, .int p3] m 0 0 (Qi (zb rR) m) := by
  refine T_of_V (by decide) (Nat.le_of_ble_eq_true rfl) ?_
  show V D 0 IX8_isWordAt 0 [(0, .ref a0), (1, .int p0), (2, .int p1), (3, .int p2), (4, .int p3)] [] m 0 0 (Qi (zb rR) m)
  unfold fX8_isWordAt at h
  refine V_iload (pc2 := 2) dX8_isWordAt_0 4 rfl ?_
  obtain ⟨y1, hb, h⟩ := bS h
  have hJ10 : V D 0 IX8_isWordAt 10 [(0, .ref a0), (1, .int p0), (2, .int p1), (3, .int p2), (4, .int p3)] [.int y1] m 0 0 (Qi (zb rR) m) := by
    refine V_istore (pc2 := 12) (L2 := [(5, .int y1), (0, .ref a0), (1, .int p0), (2, .int p1), (3, .int p2), (4, .int p3)]) dX8_isWordAt_10 ?_ rfl rfl
    refine V_aload_n (pc2 := 13) dX8_isWordAt_12 1 rfl rfl ?_
    obtain ⟨x2, e_x2, h⟩ := bS h
    refine V_gI (pc2 := 16) e_x2 dX8_isWordAt_13 wF_8_210 ?_
    refine V_iconst (v := 1) (pc2 := 17) dX8_isWordAt_16 (by decide) ?_
    refine V_icmp_ne (pc2 := 20) (tgt := 102) dX8_isWordAt_17 (fun c17 => ?_) (fun c17 => ?_)
    · replace h := iF c17 h
      refine V_iconst (v := 0) (pc2 := 103) dX8_isWordAt_102 (by decide) ?_
      have e1 := inj1 h
      subst e1
      exact V_bret (b := false) dX8_isWordAt_103 rfl ⟨rfl, rfl⟩
    · replace h := iT c17 h
      refine V_aload_n (pc2 := 21) dX8_isWordAt_20 1 rfl rfl ?_
      obtain ⟨x3, e_x3, h⟩ := bS h
      refine V_gI (pc2 := 24) e_x3 dX8_isWordAt_21 wF_8_207 ?_
      refine V_aload_n (pc2 := 25) dX8_isWordAt_24 1 rfl rfl ?_
      obtain ⟨x4, e_x4, h⟩ := bS h
      refine V_gI (pc2 := 28) e_x4 dX8_isWordAt_25 wF_8_213 ?_
      refine V_isub (pc2 := 29) dX8_isWordAt_28 ?_
      refine V_iload (pc2 := 31) dX8_isWordAt_29 0 rfl ?_
      refine V_icmp_ne (pc2 := 34) (tgt := 102) dX8_isWordAt_31 (fun c31 => ?_) (fun c31 => ?_)
      · replace h := iF c31 h
        refine V_iconst (v := 0) (pc2 := 103) dX8_isWordAt_102 (by decide) ?_
        have e1 := inj1 h
        subst e1
        exact V_bret (b := false) dX8_isWordAt_103 rfl ⟨rfl, rfl⟩
      · replace h := iT c31 h
        refine V_aload_n (pc2 := 35) dX8_isWordAt_34 1 rfl rfl ?_
        obtain ⟨r5, e_r5, h⟩ := bS h
        refine V_gR (pc2 := 38) e_r5 dX8_isWordAt_35 wF_8_46 ?_
        refine V_aload_n (pc2 := 39) dX8_isWordAt_38 1 rfl rfl ?_
        obtain ⟨x6, e_x6, h⟩ := bS h
        refine V_gI (pc2 := 42) e_x6 dX8_isWordAt_39 wF_8_213 ?_
        obtain ⟨x7, e_x7, h⟩ := bS h
        refine V_ldI (pc2 := 43) e_x7 dX8_isWordAt_42 ?_
        refine V_iload_n (pc2 := 44) dX8_isWordAt_43 2 rfl rfl ?_
        refine V_icmp_ne (pc2 := 47) (tgt := 102) dX8_isWordAt_44 (fun c44 => ?_) (fun c44 => ?_)
        · replace h := iF c44 h
          refine V_iconst (v := 0) (pc2 := 103) dX8_isWordAt_102 (by decide) ?_
          have e1 := inj1 h
          subst e1
          exact V_bret (b := false) dX8_isWordAt_103 rfl ⟨rfl, rfl⟩
        · replace h := iT c44 h
          refine V_aload_n (pc2 := 48) dX8_isWordAt_47 1 rfl rfl ?_
          obtain ⟨r8, e_r8, h⟩ := bS h
          refine V_gR (pc2 := 51) e_r8 dX8_isWordAt_48 wF_8_46 ?_
          refine V_aload_n (pc2 := 52) dX8_isWordAt_51 1 rfl rfl ?_
          obtain ⟨x9, e_x9, h⟩ := bS h
          refine V_gI (pc2 := 55) e_x9 dX8_isWordAt_52 wF_8_213 ?_
          refine V_iconst (v := 1) (pc2 := 56) dX8_isWordAt_55 (by decide) ?_
          refine V_iadd (pc2 := 57) dX8_isWordAt_56 ?_
          obtain ⟨x10, e_x10, h⟩ := bS h
          refine V_ldI (pc2 := 58) e_x10 dX8_isWordAt_57 ?_
          refine V_iload_n (pc2 := 59) dX8_isWordAt_58 3 rfl rfl ?_
          refine V_icmp_ne (pc2 := 62) (tgt := 102) dX8_isWordAt_59 (fun c59 => ?_) (fun c59 => ?_)
          · replace h := iF c59 h
            refine V_iconst (v := 0) (pc2 := 103) dX8_isWordAt_102 (by decide) ?_
            have e1 := inj1 h
            subst e1
            exact V_bret (b := false) dX8_isWordAt_103 rfl ⟨rfl, rfl⟩
          · replace h := iT c59 h
            refine V_aload_n (pc2 := 63) dX8_isWordAt_62 1 rfl rfl ?_
            obtain ⟨r11, e_r11, h⟩ := bS h
            refine V_gR (pc2 := 66) e_r11 dX8_isWordAt_63 wF_8_46 ?_
            refine V_aload_n (pc2 := 67) dX8_isWordAt_66 1 rfl rfl ?_
            obtain ⟨x12, e_x12, h⟩ := bS h
            refine V_gI (pc2 := 70) e_x12 dX8_isWordAt_67 wF_8_213 ?_
            refine V_iconst (v := 2) (pc2 := 71) dX8_isWordAt_70 (by decide) ?_
            refine V_iadd (pc2 := 72) dX8_isWordAt_71 ?_
            obtain ⟨x13, e_x13, h⟩ := bS h
            refine V_ldI (pc2 := 73) e_x13 dX8_isWordAt_72 ?_
            refine V_iload_n (pc2 := 74) dX8_isWordAt_73 4 rfl rfl ?_
            refine V_icmp_ne (pc2 := 77) (tgt := 102) dX8_isWordAt_74 (fun c74 => ?_) (fun c74 => ?_)
            · replace h := iF c74 h
              refine V_iconst (v := 0) (pc2 := 103) dX8_isWordAt_102 (by decide) ?_
              have e1 := inj1 h
              subst e1
              exact V_bret (b := false) dX8_isWordAt_103 rfl ⟨rfl, rfl⟩
            · replace h := iT c74 h
              refine V_iload (pc2 := 79) dX8_isWordAt_77 5 rfl ?_
              refine V_if_eq (pc2 := 82) (tgt := 98) dX8_isWordAt_79 (fun c79 => ?_) (fun c79 => ?_)
              · replace h := iT c79 h
                refine V_iconst (v := 1) (pc2 := 99) dX8_isWordAt_98 (by decide) ?_
                refine V_goto (tgt := 103) dX8_isWordAt_99 ?_
                have e1 := inj1 h
                subst e1
                exact V_bret (b := true) dX8_isWordAt_103 rfl ⟨rfl, rfl⟩
              · replace h := iF c79 h
                refine V_aload_n (pc2 := 83) dX8_isWordAt_82 1 rfl rfl ?_
                obtain ⟨r14, e_r14, h⟩ := bS h
                refine V_gR (pc2 := 86) e_r14 dX8_isWordAt_83 wF_8_46 ?_
                refine V_aload_n (pc2 := 87) dX8_isWordAt_86 1 rfl rfl ?_
                obtain ⟨x15, e_x15, h⟩ := bS h
                refine V_gI (pc2 := 90) e_x15 dX8_isWordAt_87 wF_8_213 ?_
                refine V_iconst (v := 3) (pc2 := 91) dX8_isWordAt_90 (by decide) ?_
                refine V_iadd (pc2 := 92) dX8_isWordAt_91 ?_
                obtain ⟨x16, e_x16, h⟩ := bS h
                refine V_ldI (pc2 := 93) e_x16 dX8_isWordAt_92 ?_
                refine V_iload (pc2 := 95) dX8_isWordAt_93 5 rfl ?_
                refine V_icmp_ne (pc2 := 98) (tgt := 102) dX8_isWordAt_95 (fun c95 => ?_) (fun c95 => ?_)
                · replace h := iF c95 h
                  refine V_iconst (v := 0) (pc2 := 103) dX8_isWordAt_102 (by decide) ?_
                  have e1 := inj1 h
                  subst e1
                  exact V_bret (b := false) dX8_isWordAt_103 rfl ⟨rfl, rfl⟩
                · replace h := iT c95 h
                  refine V_iconst (v := 1) (pc2 := 99) dX8_isWordAt_98 (by decide) ?_
                  refine V_goto (tgt := 103) dX8_isWordAt_99 ?_
                  have e1 := inj1 h
                  subst e1
                  exact V_bret (b := true) dX8_isWordAt_103 rfl ⟨rfl, rfl⟩
  clear h
  have h := hb
  clear hb
  refine V_if_ne (pc2 := 5) (tgt := 9) dX8_isWordAt_2 (fun c2 => ?_) (fun c2 => ?_)
  · replace h := iF c2 h
    refine V_iconst (v := 4) (pc2 := 10) dX8_isWordAt_9 (by decide) ?_
    have e1 := inj1 h
    subst e1
    exact hJ10
  · replace h := iT c2 h
    refine V_iconst (v := 3) (pc2 := 6) dX8_isWordAt_5 (by decide) ?_
    refine V_goto (tgt := 10) dX8_isWordAt_6 ?_
    have e1 := inj1 h
    subst e1
    exact hJ10
noncomputable def fX8_key (a0 : Nat) (m : Mem) : Option (Int32) :=
  (cV m a0 8 (fX8_isWordAt a0 (104 : Int32) (111 : Int32) (108 : Int32) (100 : Int32) m)).bind fun b1 =>
  if b1 = true then
    some (0 : Int32)
  else
    (cV m a0 8 (fX8_isWordAt a0 (115 : Int32) (116 : Int32) (111 : Int32) (112 : Int32) m)).bind fun b2 =>
    if b2 = true then
      some (1 : Int32)
    else
      (cV m a0 8 (fX8_isWordAt a0 (102 : Int32) (105 : Int32) (110 : Int32) (101 : Int32) m)).bind fun b3 =>
      if b3 = true then
        some (2 : Int32)
      else
        some (-1 : Int32)
set_option maxRecDepth 20000 in
theorem tX8_key {D : Dat} {a0 : Nat} {m : Mem} {rR : Int32} (h : fX8_key a0 m = some rR) : T D 1 IX8_key [.ref a0] m 0 0 (Qi rR m) := by
  refine T_of_V (by decide) (Nat.le_of_ble_eq_true rfl) ?_
  show V D 1 IX8_key 0 [(0, .ref a0)] [] m 0 0 (Qi rR m)
  unfold fX8_key at h
  refine V_aload_n (pc2 := 1) dX8_key_0 0 rfl rfl ?_
  refine V_bipush (v := 104) (pc2 := 3) dX8_key_1 (by decide) ?_
  refine V_bipush (v := 111) (pc2 := 5) dX8_key_3 (by decide) ?_
  refine V_bipush (v := 108) (pc2 := 7) dX8_key_5 (by decide) ?_
  refine V_bipush (v := 100) (pc2 := 9) dX8_key_7 (by decide) ?_
  obtain ⟨b1, e_b1, h⟩ := bS h
  obtain ⟨⟨fs_b1, o_b1⟩, e_b1⟩ := cV_of e_b1
  refine V_cVi (pc2 := 12) [.int (104 : Int32), .int (111 : Int32), .int (108 : Int32), .int (100 : Int32)] (st := []) o_b1 (tX8_isWordAt e_b1) dX8_key_9 wV_8_228 (by decide) rfl (Nat.le_of_ble_eq_true rfl) ?_
  refine V_ifb_eq (pc2 := 15) (tgt := 17) dX8_key_12 (fun c12 => ?_) (fun c12 => ?_)
  · replace h := iF c12 h
    refine V_aload_n (pc2 := 18) dX8_key_17 0 rfl rfl ?_
    refine V_bipush (v := 115) (pc2 := 20) dX8_key_18 (by decide) ?_
    refine V_bipush (v := 116) (pc2 := 22) dX8_key_20 (by decide) ?_
    refine V_bipush (v := 111) (pc2 := 24) dX8_key_22 (by decide) ?_
    refine V_bipush (v := 112) (pc2 := 26) dX8_key_24 (by decide) ?_
    obtain ⟨b2, e_b2, h⟩ := bS h
    obtain ⟨⟨fs_b2, o_b2⟩, e_b2⟩ := cV_of e_b2
    refine V_cVi (pc2 := 29) [.int (115 : Int32), .int (116 : Int32), .int (111 : Int32), .int (112 : Int32)] (st := []) o_b2 (tX8_isWordAt e_b2) dX8_key_26 wV_8_228 (by decide) rfl (Nat.le_of_ble_eq_true rfl) ?_
    refine V_ifb_eq (pc2 := 32) (tgt := 34) dX8_key_29 (fun c29 => ?_) (fun c29 => ?_)
    · replace h := iF c29 h
      refine V_aload_n (pc2 := 35) dX8_key_34 0 rfl rfl ?_
      refine V_bipush (v := 102) (pc2 := 37) dX8_key_35 (by decide) ?_
      refine V_bipush (v := 105) (pc2 := 39) dX8_key_37 (by decide) ?_
      refine V_bipush (v := 110) (pc2 := 41) dX8_key_39 (by decide) ?_
      refine V_bipush (v := 101) (pc2 := 43) dX8_key_41 (by decide) ?_
      obtain ⟨b3, e_b3, h⟩ := bS h
      obtain ⟨⟨fs_b3, o_b3⟩, e_b3⟩ := cV_of e_b3
      refine V_cVi (pc2 := 46) [.int (102 : Int32), .int (105 : Int32), .int (110 : Int32), .int (101 : Int32)] (st := []) o_b3 (tX8_isWordAt e_b3) dX8_key_43 wV_8_228 (by decide) rfl (Nat.le_of_ble_eq_true rfl) ?_
      refine V_ifb_eq (pc2 := 49) (tgt := 53) dX8_key_46 (fun c46 => ?_) (fun c46 => ?_)
      · replace h := iF c46 h
        refine V_iconst (v := -1) (pc2 := 54) dX8_key_53 (by decide) ?_
        have e1 := inj1 h
        subst e1
        exact V_iret dX8_key_54 rfl ⟨rfl, rfl⟩
      · replace h := iT c46 h
        refine V_iconst (v := 2) (pc2 := 50) dX8_key_49 (by decide) ?_
        refine V_goto (tgt := 54) dX8_key_50 ?_
        have e1 := inj1 h
        subst e1
        exact V_iret dX8_key_54 rfl ⟨rfl, rfl⟩
    · replace h := iT c29 h
      refine V_iconst (v := 1) (pc2 := 33) dX8_key_32 (by decide) ?_
      have e1 := inj1 h
      subst e1
      exact V_iret dX8_key_33 rfl ⟨rfl, rfl⟩
  · replace h := iT c12 h
    refine V_iconst (v := 0) (pc2 := 16) dX8_key_15 (by decide) ?_
    have e1 := inj1 h
    subst e1
    exact V_iret dX8_key_16 rfl ⟨rfl, rfl⟩
noncomputable def fX8_step (a0 : Nat) (p0 : Int32) (p1 : Int32) (m : Mem) : Option (Mem) :=
  (gR m a0 8 0).bind fun r1 =>
  (gI m a0 8 23).bind fun x2 =>
  (gI m a0 8 22).bind fun x3 =>
  (stI m r1 (x2 + ((2 : Int32) * x3)) p0).bind fun m4 =>
  (gR m4 a0 8 0).bind fun r5 =>
  (gI m4 a0 8 23).bind fun x6 =>
  (gI m4 a0 8 22).bind fun x7 =>
  (stI m4 r5 ((x6 + ((2 : Int32) * x7)) + (1 : Int32)) p1).bind fun m8 =>
  (gI m8 a0 8 22).bind fun x9 =>
  (pI m8 a0 8 22 (x9 + (1 : Int32))).bind fun m10 =>
  some m10
set_option maxRecDepth 20000 in
theorem tX8_step {D : Dat} {a0 : Nat} {p0 : Int32} {p1 : Int32} {m : Mem} {mR : Mem} (h : fX8_step a0 p0 p1 m = some mR) : T D 0 IX8_step [.ref a0, .int p0, .int p1] m 0 0 (Qv mR) := by
  refine T_of_V (by decide) (Nat.le_of_ble_eq_true rfl) ?_
  show V D 0 IX8_step 0 [(0, .ref a0), (1, .int p0), (2, .int p1)] [] m 0 0 (Qv mR)
  unfold fX8_step at h
  refine V_aload_n (pc2 := 1) dX8_step_0 0 rfl rfl ?_
  obtain ⟨r1, e_r1, h⟩ := bS h
  refine V_gR (pc2 := 4) e_r1 dX8_step_1 wF_8_7 ?_
  refine V_aload_n (pc2 := 5) dX8_step_4 0 rfl rfl ?_
  obtain ⟨x2, e_x2, h⟩ := bS h
  refine V_gI (pc2 := 8) e_x2 dX8_step_5 wF_8_232 ?_
  refine V_iconst (v := 2) (pc2 := 9) dX8_step_8 (by decide) ?_
  refine V_aload_n (pc2 := 10) dX8_step_9 0 rfl rfl ?_
  obtain ⟨x3, e_x3, h⟩ := bS h
  refine V_gI (pc2 := 13) e_x3 dX8_step_10 wF_8_235 ?_
  refine V_imul (pc2 := 14) dX8_step_13 ?_
  refine V_iadd (pc2 := 15) dX8_step_14 ?_
  refine V_iload_n (pc2 := 16) dX8_step_15 1 rfl rfl ?_
  obtain ⟨m4, e_m4, h⟩ := bS h
  refine V_stI (pc2 := 17) e_m4 dX8_step_16 ?_
  refine V_aload_n (pc2 := 18) dX8_step_17 0 rfl rfl ?_
  obtain ⟨r5, e_r5, h⟩ := bS h
  refine V_gR (pc2 := 21) e_r5 dX8_step_18 wF_8_7 ?_
  refine V_aload_n (pc2 := 22) dX8_step_21 0 rfl rfl ?_
  obtain ⟨x6, e_x6, h⟩ := bS h
  refine V_gI (pc2 := 25) e_x6 dX8_step_22 wF_8_232 ?_
  refine V_iconst (v := 2) (pc2 := 26) dX8_step_25 (by decide) ?_
  refine V_aload_n (pc2 := 27) dX8_step_26 0 rfl rfl ?_
  obtain ⟨x7, e_x7, h⟩ := bS h
  refine V_gI (pc2 := 30) e_x7 dX8_step_27 wF_8_235 ?_
  refine V_imul (pc2 := 31) dX8_step_30 ?_
  refine V_iadd (pc2 := 32) dX8_step_31 ?_
  refine V_iconst (v := 1) (pc2 := 33) dX8_step_32 (by decide) ?_
  refine V_iadd (pc2 := 34) dX8_step_33 ?_
  refine V_iload_n (pc2 := 35) dX8_step_34 2 rfl rfl ?_
  obtain ⟨m8, e_m8, h⟩ := bS h
  refine V_stI (pc2 := 36) e_m8 dX8_step_35 ?_
  refine V_aload_n (pc2 := 37) dX8_step_36 0 rfl rfl ?_
  refine V_dup (pc2 := 38) dX8_step_37 rfl ?_
  obtain ⟨x9, e_x9, h⟩ := bS h
  refine V_gI (pc2 := 41) e_x9 dX8_step_38 wF_8_235 ?_
  refine V_iconst (v := 1) (pc2 := 42) dX8_step_41 (by decide) ?_
  refine V_iadd (pc2 := 43) dX8_step_42 ?_
  obtain ⟨m10, e_m10, h⟩ := bS h
  refine V_pI (pc2 := 46) e_m10 dX8_step_43 wP_8_235 rfl rfl ?_
  have e1 := inj1 h
  subst e1
  exact V_vret dX8_step_46 rfl ⟨rfl, rfl⟩
noncomputable def fX8_isName (p0 : Int32) (p1 : Int32) (m : Mem) : Option (Bool) :=
  if p0 = (0 : Int32) then
    if p1 = (104 : Int32) then
      some true
    else
      if p1 = (97 : Int32) then
        some true
      else
        if p1 = (102 : Int32) then
          some true
        else
          some false
  else if p0 = (1 : Int32) then
    if p1 = (115 : Int32) then
      some true
    else
      if p1 = (112 : Int32) then
        some true
      else
        if p1 = (116 : Int32) then
          some true
        else
          some false
  else 
    if p1 = (97 : Int32) then
      some true
    else
      if p1 = (112 : Int32) then
        some true
      else
        some false
set_option maxRecDepth 20000 in
theorem tX8_isName {D : Dat} {p0 : Int32} {p1 : Int32} {m : Mem} {rR : Bool} (h : fX8_isName p0 p1 m = some rR) : T D 0 IX8_isName [.int p0, .int p1] m 0 0 (Qi (zb rR) m) := by
  refine T_of_V (by decide) (Nat.le_of_ble_eq_true rfl) ?_
  show V D 0 IX8_isName 0 [(0, .int p0), (1, .int p1)] [] m 0 0 (Qi (zb rR) m)
  unfold fX8_isName at h
  refine V_iload_n (pc2 := 1) dX8_isName_0 0 rfl rfl ?_
  by_cases c1_0 : p0 = (0 : Int32)
  · replace h := iT c1_0 h
    refine V_lookup (off := 27) (tgt := 28) dX8_isName_1 (by decide) (by rw [c1_0]; rfl) ?_
    refine V_iload_n (pc2 := 29) dX8_isName_28 1 rfl rfl ?_
    refine V_bipush (v := 104) (pc2 := 31) dX8_isName_29 (by decide) ?_
    refine V_icmp_eq (pc2 := 34) (tgt := 46) dX8_isName_31 (fun c31 => ?_) (fun c31 => ?_)
    · replace h := iT c31 h
      refine V_iconst (v := 1) (pc2 := 47) dX8_isName_46 (by decide) ?_
      refine V_goto (tgt := 51) dX8_isName_47 ?_
      have e1 := inj1 h
      subst e1
      exact V_bret (b := true) dX8_isName_51 rfl ⟨rfl, rfl⟩
    · replace h := iF c31 h
      refine V_iload_n (pc2 := 35) dX8_isName_34 1 rfl rfl ?_
      refine V_bipush (v := 97) (pc2 := 37) dX8_isName_35 (by decide) ?_
      refine V_icmp_eq (pc2 := 40) (tgt := 46) dX8_isName_37 (fun c37 => ?_) (fun c37 => ?_)
      · replace h := iT c37 h
        refine V_iconst (v := 1) (pc2 := 47) dX8_isName_46 (by decide) ?_
        refine V_goto (tgt := 51) dX8_isName_47 ?_
        have e1 := inj1 h
        subst e1
        exact V_bret (b := true) dX8_isName_51 rfl ⟨rfl, rfl⟩
      · replace h := iF c37 h
        refine V_iload_n (pc2 := 41) dX8_isName_40 1 rfl rfl ?_
        refine V_bipush (v := 102) (pc2 := 43) dX8_isName_41 (by decide) ?_
        refine V_icmp_ne (pc2 := 46) (tgt := 50) dX8_isName_43 (fun c43 => ?_) (fun c43 => ?_)
        · replace h := iF c43 h
          refine V_iconst (v := 0) (pc2 := 51) dX8_isName_50 (by decide) ?_
          have e1 := inj1 h
          subst e1
          exact V_bret (b := false) dX8_isName_51 rfl ⟨rfl, rfl⟩
        · replace h := iT c43 h
          refine V_iconst (v := 1) (pc2 := 47) dX8_isName_46 (by decide) ?_
          refine V_goto (tgt := 51) dX8_isName_47 ?_
          have e1 := inj1 h
          subst e1
          exact V_bret (b := true) dX8_isName_51 rfl ⟨rfl, rfl⟩
  replace h := iF c1_0 h
  by_cases c1_1 : p0 = (1 : Int32)
  · replace h := iT c1_1 h
    refine V_lookup (off := 51) (tgt := 52) dX8_isName_1 (by decide) (by rw [c1_1]; rfl) ?_
    refine V_iload_n (pc2 := 53) dX8_isName_52 1 rfl rfl ?_
    refine V_bipush (v := 115) (pc2 := 55) dX8_isName_53 (by decide) ?_
    refine V_icmp_eq (pc2 := 58) (tgt := 70) dX8_isName_55 (fun c55 => ?_) (fun c55 => ?_)
    · replace h := iT c55 h
      refine V_iconst (v := 1) (pc2 := 71) dX8_isName_70 (by decide) ?_
      refine V_goto (tgt := 75) dX8_isName_71 ?_
      have e1 := inj1 h
      subst e1
      exact V_bret (b := true) dX8_isName_75 rfl ⟨rfl, rfl⟩
    · replace h := iF c55 h
      refine V_iload_n (pc2 := 59) dX8_isName_58 1 rfl rfl ?_
      refine V_bipush (v := 112) (pc2 := 61) dX8_isName_59 (by decide) ?_
      refine V_icmp_eq (pc2 := 64) (tgt := 70) dX8_isName_61 (fun c61 => ?_) (fun c61 => ?_)
      · replace h := iT c61 h
        refine V_iconst (v := 1) (pc2 := 71) dX8_isName_70 (by decide) ?_
        refine V_goto (tgt := 75) dX8_isName_71 ?_
        have e1 := inj1 h
        subst e1
        exact V_bret (b := true) dX8_isName_75 rfl ⟨rfl, rfl⟩
      · replace h := iF c61 h
        refine V_iload_n (pc2 := 65) dX8_isName_64 1 rfl rfl ?_
        refine V_bipush (v := 116) (pc2 := 67) dX8_isName_65 (by decide) ?_
        refine V_icmp_ne (pc2 := 70) (tgt := 74) dX8_isName_67 (fun c67 => ?_) (fun c67 => ?_)
        · replace h := iF c67 h
          refine V_iconst (v := 0) (pc2 := 75) dX8_isName_74 (by decide) ?_
          have e1 := inj1 h
          subst e1
          exact V_bret (b := false) dX8_isName_75 rfl ⟨rfl, rfl⟩
        · replace h := iT c67 h
          refine V_iconst (v := 1) (pc2 := 71) dX8_isName_70 (by decide) ?_
          refine V_goto (tgt := 75) dX8_isName_71 ?_
          have e1 := inj1 h
          subst e1
          exact V_bret (b := true) dX8_isName_75 rfl ⟨rfl, rfl⟩
  replace h := iF c1_1 h
  refine V_lookup (off := 75) (tgt := 76) dX8_isName_1 (by decide) ((lv_osw c1_0 (by decide)).trans ((lv_osw c1_1 (by decide)).trans (rfl))) ?_
  refine V_iload_n (pc2 := 77) dX8_isName_76 1 rfl rfl ?_
  refine V_bipush (v := 97) (pc2 := 79) dX8_isName_77 (by decide) ?_
  refine V_icmp_eq (pc2 := 82) (tgt := 88) dX8_isName_79 (fun c79 => ?_) (fun c79 => ?_)
  · replace h := iT c79 h
    refine V_iconst (v := 1) (pc2 := 89) dX8_isName_88 (by decide) ?_
    refine V_goto (tgt := 93) dX8_isName_89 ?_
    have e1 := inj1 h
    subst e1
    exact V_bret (b := true) dX8_isName_93 rfl ⟨rfl, rfl⟩
  · replace h := iF c79 h
    refine V_iload_n (pc2 := 83) dX8_isName_82 1 rfl rfl ?_
    refine V_bipush (v := 112) (pc2 := 85) dX8_isName_83 (by decide) ?_
    refine V_icmp_ne (pc2 := 88) (tgt := 92) dX8_isName_85 (fun c85 => ?_) (fun c85 => ?_)
    · replace h := iF c85 h
      refine V_iconst (v := 0) (pc2 := 93) dX8_isName_92 (by decide) ?_
      have e1 := inj1 h
      subst e1
      exact V_bret (b := false) dX8_isName_93 rfl ⟨rfl, rfl⟩
    · replace h := iT c85 h
      refine V_iconst (v := 1) (pc2 := 89) dX8_isName_88 (by decide) ?_
      refine V_goto (tgt := 93) dX8_isName_89 ?_
      have e1 := inj1 h
      subst e1
      exact V_bret (b := true) dX8_isName_93 rfl ⟨rfl, rfl⟩
noncomputable def fX8_isSign (a0 : Nat) (p0 : Int32) (m : Mem) : Option (Bool) :=
  (gI m a0 8 17).bind fun x1 =>
  if x1 = (3 : Int32) then
    (gI m a0 8 19).bind fun x2 =>
    if x2 = p0 then
      some true
    else
      some false
  else
    some false
set_option maxRecDepth 20000 in
theorem tX8_isSign {D : Dat} {a0 : Nat} {p0 : Int32} {m : Mem} {rR : Bool} (h : fX8_isSign a0 p0 m = some rR) : T D 0 IX8_isSign [.ref a0, .int p0] m 0 0 (Qi (zb rR) m) := by
  refine T_of_V (by decide) (Nat.le_of_ble_eq_true rfl) ?_
  show V D 0 IX8_isSign 0 [(0, .ref a0), (1, .int p0)] [] m 0 0 (Qi (zb rR) m)
  unfold fX8_isSign at h
  refine V_aload_n (pc2 := 1) dX8_isSign_0 0 rfl rfl ?_
  obtain ⟨x1, e_x1, h⟩ := bS h
  refine V_gI (pc2 := 4) e_x1 dX8_isSign_1 wF_8_210 ?_
  refine V_iconst (v := 3) (pc2 := 5) dX8_isSign_4 (by decide) ?_
  refine V_icmp_ne (pc2 := 8) (tgt := 20) dX8_isSign_5 (fun c5 => ?_) (fun c5 => ?_)
  · replace h := iF c5 h
    refine V_iconst (v := 0) (pc2 := 21) dX8_isSign_20 (by decide) ?_
    have e1 := inj1 h
    subst e1
    exact V_bret (b := false) dX8_isSign_21 rfl ⟨rfl, rfl⟩
  · replace h := iT c5 h
    refine V_aload_n (pc2 := 9) dX8_isSign_8 0 rfl rfl ?_
    obtain ⟨x2, e_x2, h⟩ := bS h
    refine V_gI (pc2 := 12) e_x2 dX8_isSign_9 wF_8_219 ?_
    refine V_iload_n (pc2 := 13) dX8_isSign_12 1 rfl rfl ?_
    refine V_icmp_ne (pc2 := 16) (tgt := 20) dX8_isSign_13 (fun c13 => ?_) (fun c13 => ?_)
    · replace h := iF c13 h
      refine V_iconst (v := 0) (pc2 := 21) dX8_isSign_20 (by decide) ?_
      have e1 := inj1 h
      subst e1
      exact V_bret (b := false) dX8_isSign_21 rfl ⟨rfl, rfl⟩
    · replace h := iT c13 h
      refine V_iconst (v := 1) (pc2 := 17) dX8_isSign_16 (by decide) ?_
      refine V_goto (tgt := 21) dX8_isSign_17 ?_
      have e1 := inj1 h
      subst e1
      exact V_bret (b := true) dX8_isSign_21 rfl ⟨rfl, rfl⟩
noncomputable def fX8_isText (a0 : Nat) (p0 : Int32) (m : Mem) : Option (Bool) :=
  (gR m a0 8 0).bind fun r1 =>
  (ldI m r1 (3 : Int32)).bind fun x2 =>
  (fX8_isIn p0.toInt64 (0 : Int64) ((x2 - (1 : Int32)).toInt64) m).bind fun b3 =>
  some b3
set_option maxRecDepth 20000 in
theorem tX8_isText {D : Dat} {a0 : Nat} {p0 : Int32} {m : Mem} {rR : Bool} (h : fX8_isText a0 p0 m = some rR) : T D 1 IX8_isText [.ref a0, .int p0] m 0 0 (Qi (zb rR) m) := by
  refine T_of_V (by decide) (Nat.le_of_ble_eq_true rfl) ?_
  show V D 1 IX8_isText 0 [(0, .ref a0), (1, .int p0)] [] m 0 0 (Qi (zb rR) m)
  unfold fX8_isText at h
  refine V_iload_n (pc2 := 1) dX8_isText_0 1 rfl rfl ?_
  refine V_i2l (pc2 := 2) dX8_isText_1 rfl ?_
  refine V_lconst (v := 0) (pc2 := 3) dX8_isText_2 (by decide) ?_
  refine V_aload_n (pc2 := 4) dX8_isText_3 0 rfl rfl ?_
  obtain ⟨r1, e_r1, h⟩ := bS h
  refine V_gR (pc2 := 7) e_r1 dX8_isText_4 wF_8_7 ?_
  refine V_iconst (v := 3) (pc2 := 8) dX8_isText_7 (by decide) ?_
  obtain ⟨x2, e_x2, h⟩ := bS h
  refine V_ldI (pc2 := 9) e_x2 dX8_isText_8 ?_
  refine V_iconst (v := 1) (pc2 := 10) dX8_isText_9 (by decide) ?_
  refine V_isub (pc2 := 11) dX8_isText_10 ?_
  refine V_i2l (pc2 := 12) dX8_isText_11 rfl ?_
  obtain ⟨b3, e_b3, h⟩ := bS h
  refine V_cSi (pc2 := 15) [.long p0.toInt64, .long (0 : Int64), .long ((x2 - (1 : Int32)).toInt64)] (st := []) (tX8_isIn e_b3) dX8_isText_12 wS_8_65 (by decide) rfl (Nat.le_of_ble_eq_true rfl) ?_
  have e1 := inj1 h
  subst e1
  exact V_bret (b := b3) dX8_isText_15 rfl ⟨rfl, rfl⟩
noncomputable def fX8_textTold (a0 : Nat) (p0 : Int32) (p1 : Int32) (m : Mem) : Option (Int32) :=
  (cV m a0 8 (fX8_isText a0 p0 m)).bind fun b1 =>
  if b1 = true then
    (fX8_isIn p1.toInt64 (0 : Int64) (1 : Int64) m).bind fun b2 =>
    if b2 = true then
      (gR m a0 8 0).bind fun r3 =>
      (cV m a0 8 (fX8_textAt a0 p0 m)).bind fun x4 =>
      (ldI m r3 (x4 + p1)).bind fun x5 =>
      some x5
    else
      some (-1000000001 : Int32)
  else
    some (-1000000001 : Int32)
set_option maxRecDepth 20000 in
theorem tX8_textTold {D : Dat} {a0 : Nat} {p0 : Int32} {p1 : Int32} {m : Mem} {rR : Int32} (h : fX8_textTold a0 p0 p1 m = some rR) : T D 2 IX8_textTold [.ref a0, .int p0, .int p1] m 0 0 (Qi rR m) := by
  refine T_of_V (by decide) (Nat.le_of_ble_eq_true rfl) ?_
  show V D 2 IX8_textTold 0 [(0, .ref a0), (1, .int p0), (2, .int p1)] [] m 0 0 (Qi rR m)
  unfold fX8_textTold at h
  refine V_aload_n (pc2 := 1) dX8_textTold_0 0 rfl rfl ?_
  refine V_iload_n (pc2 := 2) dX8_textTold_1 1 rfl rfl ?_
  obtain ⟨b1, e_b1, h⟩ := bS h
  obtain ⟨⟨fs_b1, o_b1⟩, e_b1⟩ := cV_of e_b1
  refine V_cVi (pc2 := 5) [.int p0] (st := []) o_b1 (tX8_isText e_b1) dX8_textTold_2 wV_8_287 (by decide) rfl (Nat.le_of_ble_eq_true rfl) ?_
  refine V_ifb_eq (pc2 := 8) (tgt := 18) dX8_textTold_5 (fun c5 => ?_) (fun c5 => ?_)
  · replace h := iF c5 h
    refine V_ldc (v := -1000000001) (pc2 := 20) dX8_textTold_18 wconstant_8_72 ?_
    have e1 := inj1 h
    subst e1
    exact V_iret dX8_textTold_20 rfl ⟨rfl, rfl⟩
  · replace h := iT c5 h
    refine V_iload_n (pc2 := 9) dX8_textTold_8 2 rfl rfl ?_
    refine V_i2l (pc2 := 10) dX8_textTold_9 rfl ?_
    refine V_lconst (v := 0) (pc2 := 11) dX8_textTold_10 (by decide) ?_
    refine V_lconst (v := 1) (pc2 := 12) dX8_textTold_11 (by decide) ?_
    obtain ⟨b2, e_b2, h⟩ := bS h
    refine V_cSi (pc2 := 15) [.long p1.toInt64, .long (0 : Int64), .long (1 : Int64)] (st := []) (tX8_isIn e_b2) dX8_textTold_12 wS_8_65 (by decide) rfl (Nat.le_of_ble_eq_true rfl) ?_
    refine V_ifb_ne (pc2 := 18) (tgt := 21) dX8_textTold_15 (fun c15 => ?_) (fun c15 => ?_)
    · replace h := iT c15 h
      refine V_aload_n (pc2 := 22) dX8_textTold_21 0 rfl rfl ?_
      obtain ⟨r3, e_r3, h⟩ := bS h
      refine V_gR (pc2 := 25) e_r3 dX8_textTold_22 wF_8_7 ?_
      refine V_aload_n (pc2 := 26) dX8_textTold_25 0 rfl rfl ?_
      refine V_iload_n (pc2 := 27) dX8_textTold_26 1 rfl rfl ?_
      obtain ⟨x4, e_x4, h⟩ := bS h
      obtain ⟨⟨fs_x4, o_x4⟩, e_x4⟩ := cV_of e_x4
      refine V_cVi (pc2 := 30) [.int p0] (st := [.ref r3]) o_x4 (tX8_textAt e_x4) dX8_textTold_27 wV_8_278 (by decide) rfl (Nat.le_of_ble_eq_true rfl) ?_
      refine V_iload_n (pc2 := 31) dX8_textTold_30 2 rfl rfl ?_
      refine V_iadd (pc2 := 32) dX8_textTold_31 ?_
      obtain ⟨x5, e_x5, h⟩ := bS h
      refine V_ldI (pc2 := 33) e_x5 dX8_textTold_32 ?_
      have e1 := inj1 h
      subst e1
      exact V_iret dX8_textTold_33 rfl ⟨rfl, rfl⟩
    · replace h := iF c15 h
      refine V_ldc (v := -1000000001) (pc2 := 20) dX8_textTold_18 wconstant_8_72 ?_
      have e1 := inj1 h
      subst e1
      exact V_iret dX8_textTold_20 rfl ⟨rfl, rfl⟩
noncomputable def fX8_why (a0 : Nat) (p0 : Int32) (m : Mem) : Option (Int32) :=
  (fX8_isIn p0.toInt64 (0 : Int64) (2 : Int64) m).bind fun b1 =>
  if b1 = true then
    (cV m a0 8 (fX8_counts a0 p0 m)).bind fun x2 =>
    (fX8_orNone x2 m).bind fun x3 =>
    some x3
  else
    some (-1000000001 : Int32)
set_option maxRecDepth 20000 in
theorem tX8_why {D : Dat} {a0 : Nat} {p0 : Int32} {m : Mem} {rR : Int32} (h : fX8_why a0 p0 m = some rR) : T D 2 IX8_why [.ref a0, .int p0] m 0 0 (Qi rR m) := by
  refine T_of_V (by decide) (Nat.le_of_ble_eq_true rfl) ?_
  show V D 2 IX8_why 0 [(0, .ref a0), (1, .int p0)] [] m 0 0 (Qi rR m)
  unfold fX8_why at h
  refine V_iload_n (pc2 := 1) dX8_why_0 1 rfl rfl ?_
  refine V_i2l (pc2 := 2) dX8_why_1 rfl ?_
  refine V_lconst (v := 0) (pc2 := 3) dX8_why_2 (by decide) ?_
  refine V_ldc2 (v := 2) (pc2 := 6) dX8_why_3 wconstantLong_8_108 ?_
  obtain ⟨b1, e_b1, h⟩ := bS h
  refine V_cSi (pc2 := 9) [.long p0.toInt64, .long (0 : Int64), .long (2 : Int64)] (st := []) (tX8_isIn e_b1) dX8_why_6 wS_8_65 (by decide) rfl (Nat.le_of_ble_eq_true rfl) ?_
  refine V_ifb_eq (pc2 := 12) (tgt := 23) dX8_why_9 (fun c9 => ?_) (fun c9 => ?_)
  · replace h := iF c9 h
    refine V_ldc (v := -1000000001) (pc2 := 25) dX8_why_23 wconstant_8_72 ?_
    have e1 := inj1 h
    subst e1
    exact V_iret dX8_why_25 rfl ⟨rfl, rfl⟩
  · replace h := iT c9 h
    refine V_aload_n (pc2 := 13) dX8_why_12 0 rfl rfl ?_
    refine V_iload_n (pc2 := 14) dX8_why_13 1 rfl rfl ?_
    obtain ⟨x2, e_x2, h⟩ := bS h
    obtain ⟨⟨fs_x2, o_x2⟩, e_x2⟩ := cV_of e_x2
    refine V_cVi (pc2 := 17) [.int p0] (st := []) o_x2 (tX8_counts e_x2) dX8_why_14 wV_8_81 (by decide) rfl (Nat.le_of_ble_eq_true rfl) ?_
    obtain ⟨x3, e_x3, h⟩ := bS h
    refine V_cSi (pc2 := 20) [.int x2] (st := []) (tX8_orNone e_x3) dX8_why_17 wS_8_105 (by decide) rfl (Nat.le_of_ble_eq_true rfl) ?_
    refine V_goto (tgt := 25) dX8_why_20 ?_
    have e1 := inj1 h
    subst e1
    exact V_iret dX8_why_25 rfl ⟨rfl, rfl⟩
noncomputable def fX8_isSheet (p0 : Int32) (m : Mem) : Option (Bool) :=
  (fX8_isIn p0.toInt64 (0 : Int64) (3 : Int64) m).bind fun b1 =>
  some b1
set_option maxRecDepth 20000 in
theorem tX8_isSheet {D : Dat} {p0 : Int32} {m : Mem} {rR : Bool} (h : fX8_isSheet p0 m = some rR) : T D 1 IX8_isSheet [.int p0] m 0 0 (Qi (zb rR) m) := by
  refine T_of_V (by decide) (Nat.le_of_ble_eq_true rfl) ?_
  show V D 1 IX8_isSheet 0 [(0, .int p0)] [] m 0 0 (Qi (zb rR) m)
  unfold fX8_isSheet at h
  refine V_iload_n (pc2 := 1) dX8_isSheet_0 0 rfl rfl ?_
  refine V_i2l (pc2 := 2) dX8_isSheet_1 rfl ?_
  refine V_lconst (v := 0) (pc2 := 3) dX8_isSheet_2 (by decide) ?_
  refine V_ldc2 (v := 3) (pc2 := 6) dX8_isSheet_3 wconstantLong_8_293 ?_
  obtain ⟨b1, e_b1, h⟩ := bS h
  refine V_cSi (pc2 := 9) [.long p0.toInt64, .long (0 : Int64), .long (3 : Int64)] (st := []) (tX8_isIn e_b1) dX8_isSheet_6 wS_8_65 (by decide) rfl (Nat.le_of_ble_eq_true rfl) ?_
  have e1 := inj1 h
  subst e1
  exact V_bret (b := b1) dX8_isSheet_9 rfl ⟨rfl, rfl⟩
noncomputable def fX8_sheet_b0 (a0 : Nat) (p0 : Int32) : Int32 × Mem → Option ((Int32 × Mem) ⊕ Mem) := fun (y8, m9) =>
  if (24 : Int32) ≤ y8 then
    some (.inr m9)
  else
    (gR m9 a0 8 6).bind fun r10 =>
    (stI m9 r10 (((24 : Int32) * p0) + y8) (0 : Int32)).bind fun m11 =>
    some (.inl (y8 + (1 : Int32), m11))
noncomputable def fX8_sheet_b1 (a0 : Nat) (p0 : Int32) : Int32 × Mem → Option ((Int32 × Mem) ⊕ Mem) := fun (y20, m21) =>
  if (24 : Int32) ≤ y20 then
    some (.inr m21)
  else
    (gR m21 a0 8 6).bind fun r22 =>
    (stI m21 r22 (((24 : Int32) * p0) + y20) (0 : Int32)).bind fun m23 =>
    some (.inl (y20 + (1 : Int32), m23))
noncomputable def fX8_sheet_b2 (a0 : Nat) (p0 : Int32) : Int32 × Mem → Option ((Int32 × Mem) ⊕ Mem) := fun (y32, m33) =>
  if (24 : Int32) ≤ y32 then
    some (.inr m33)
  else
    (gR m33 a0 8 6).bind fun r34 =>
    (stI m33 r34 (((24 : Int32) * p0) + y32) (0 : Int32)).bind fun m35 =>
    some (.inl (y32 + (1 : Int32), m35))
noncomputable def fX8_sheet_b3 (a0 : Nat) (p0 : Int32) : Int32 × Mem → Option ((Int32 × Mem) ⊕ Mem) := fun (y44, m45) =>
  if (24 : Int32) ≤ y44 then
    some (.inr m45)
  else
    (gR m45 a0 8 6).bind fun r46 =>
    (stI m45 r46 (((24 : Int32) * p0) + y44) (0 : Int32)).bind fun m47 =>
    some (.inl (y44 + (1 : Int32), m47))
noncomputable def fX8_sheet (a0 : Nat) (p0 : Int32) (p1 : Int32) (p2 : Int32) (m : Mem) : Option (Int32 × Mem) :=
  (fX8_isSheet p0 m).bind fun b1 =>
  if b1 = true then
    (fX8_isIn p1.toInt64 (-1 : Int64) (1 : Int64) m).bind fun b2 =>
    if b2 = true then
      if p1 < 0 then
        if p1 < 0 then
          (gR m a0 8 4).bind fun r3 =>
          (stI m r3 p0 p1).bind fun m4 =>
          (gR m4 a0 8 5).bind fun r5 =>
          (
            if 0 ≤ p1 then
              some p2
            else
              some (0 : Int32)).bind fun y6 =>
          (stI m4 r5 p0 y6).bind fun m7 =>
          (loopF (fX8_sheet_b0 a0 p0) bigN ((0 : Int32), m7)).bind fun m12 =>
          (gR m12 a0 8 5).bind fun r13 =>
          (ldI m12 r13 p0).bind fun x14 =>
          some (x14, m12)
        else
          if 0 ≤ p2 then
            (gR m a0 8 4).bind fun r15 =>
            (stI m r15 p0 p1).bind fun m16 =>
            (gR m16 a0 8 5).bind fun r17 =>
            (
              if 0 ≤ p1 then
                some p2
              else
                some (0 : Int32)).bind fun y18 =>
            (stI m16 r17 p0 y18).bind fun m19 =>
            (loopF (fX8_sheet_b1 a0 p0) bigN ((0 : Int32), m19)).bind fun m24 =>
            (gR m24 a0 8 5).bind fun r25 =>
            (ldI m24 r25 p0).bind fun x26 =>
            some (x26, m24)
          else
            some ((-1000000014 : Int32), m)
      else
        if p2 ≤ (24 : Int32) then
          if p1 < 0 then
            (gR m a0 8 4).bind fun r27 =>
            (stI m r27 p0 p1).bind fun m28 =>
            (gR m28 a0 8 5).bind fun r29 =>
            (
              if 0 ≤ p1 then
                some p2
              else
                some (0 : Int32)).bind fun y30 =>
            (stI m28 r29 p0 y30).bind fun m31 =>
            (loopF (fX8_sheet_b2 a0 p0) bigN ((0 : Int32), m31)).bind fun m36 =>
            (gR m36 a0 8 5).bind fun r37 =>
            (ldI m36 r37 p0).bind fun x38 =>
            some (x38, m36)
          else
            if 0 ≤ p2 then
              (gR m a0 8 4).bind fun r39 =>
              (stI m r39 p0 p1).bind fun m40 =>
              (gR m40 a0 8 5).bind fun r41 =>
              (
                if 0 ≤ p1 then
                  some p2
                else
                  some (0 : Int32)).bind fun y42 =>
              (stI m40 r41 p0 y42).bind fun m43 =>
              (loopF (fX8_sheet_b3 a0 p0) bigN ((0 : Int32), m43)).bind fun m48 =>
              (gR m48 a0 8 5).bind fun r49 =>
              (ldI m48 r49 p0).bind fun x50 =>
              some (x50, m48)
            else
              some ((-1000000014 : Int32), m)
        else
          some ((-1000000001 : Int32), m)
    else
      some ((-1000000001 : Int32), m)
  else
    some ((-1000000001 : Int32), m)
set_option maxRecDepth 20000 in
theorem tX8_sheet {D : Dat} {a0 : Nat} {p0 : Int32} {p1 : Int32} {p2 : Int32} {m : Mem} {rR : Int32} {mR : Mem} (h : fX8_sheet a0 p0 p1 p2 m = some (rR, mR)) : T D 2 IX8_sheet [.ref a0, .int p0, .int p1, .int p2] m 0 0 (Qi rR mR) := by
  refine T_of_V (by decide) (Nat.le_of_ble_eq_true rfl) ?_
  show V D 2 IX8_sheet 0 [(0, .ref a0), (1, .int p0), (2, .int p1), (3, .int p2)] [] m 0 0 (Qi rR mR)
  unfold fX8_sheet at h
  refine V_iload_n (pc2 := 1) dX8_sheet_0 1 rfl rfl ?_
  obtain ⟨b1, e_b1, h⟩ := bS h
  refine V_cSi (pc2 := 4) [.int p0] (st := []) (tX8_isSheet e_b1) dX8_sheet_1 wS_8_295 (by decide) rfl (Nat.le_of_ble_eq_true rfl) ?_
  refine V_ifb_eq (pc2 := 7) (tgt := 29) dX8_sheet_4 (fun c4 => ?_) (fun c4 => ?_)
  · replace h := iF c4 h
    refine V_ldc (v := -1000000001) (pc2 := 31) dX8_sheet_29 wconstant_8_72 ?_
    obtain ⟨e1, e2⟩ := inj2 h
    subst e1
    subst e2
    exact V_iret dX8_sheet_31 rfl ⟨rfl, rfl⟩
  · replace h := iT c4 h
    refine V_iload_n (pc2 := 8) dX8_sheet_7 2 rfl rfl ?_
    refine V_i2l (pc2 := 9) dX8_sheet_8 rfl ?_
    refine V_ldc2 (v := -1) (pc2 := 12) dX8_sheet_9 wconstantLong_8_298 ?_
    refine V_lconst (v := 1) (pc2 := 13) dX8_sheet_12 (by decide) ?_
    obtain ⟨b2, e_b2, h⟩ := bS h
    refine V_cSi (pc2 := 16) [.long p1.toInt64, .long (-1 : Int64), .long (1 : Int64)] (st := []) (tX8_isIn e_b2) dX8_sheet_13 wS_8_65 (by decide) rfl (Nat.le_of_ble_eq_true rfl) ?_
    refine V_ifb_eq (pc2 := 19) (tgt := 29) dX8_sheet_16 (fun c16 => ?_) (fun c16 => ?_)
    · replace h := iF c16 h
      refine V_ldc (v := -1000000001) (pc2 := 31) dX8_sheet_29 wconstant_8_72 ?_
      obtain ⟨e1, e2⟩ := inj2 h
      subst e1
      subst e2
      exact V_iret dX8_sheet_31 rfl ⟨rfl, rfl⟩
    · replace h := iT c16 h
      refine V_iload_n (pc2 := 20) dX8_sheet_19 2 rfl rfl ?_
      refine V_if_lt (pc2 := 23) (tgt := 32) dX8_sheet_20 (fun c20 => ?_) (fun c20 => ?_)
      · replace h := iT c20 h
        refine V_iload_n (pc2 := 33) dX8_sheet_32 2 rfl rfl ?_
        refine V_if_lt (pc2 := 36) (tgt := 44) dX8_sheet_33 (fun c33 => ?_) (fun c33 => ?_)
        · replace h := iT c33 h
          refine V_aload_n (pc2 := 45) dX8_sheet_44 0 rfl rfl ?_
          obtain ⟨r3, e_r3, h⟩ := bS h
          refine V_gR (pc2 := 48) e_r3 dX8_sheet_45 wF_8_19 ?_
          refine V_iload_n (pc2 := 49) dX8_sheet_48 1 rfl rfl ?_
          refine V_iload_n (pc2 := 50) dX8_sheet_49 2 rfl rfl ?_
          obtain ⟨m4, e_m4, h⟩ := bS h
          refine V_stI (pc2 := 51) e_m4 dX8_sheet_50 ?_
          refine V_aload_n (pc2 := 52) dX8_sheet_51 0 rfl rfl ?_
          obtain ⟨r5, e_r5, h⟩ := bS h
          refine V_gR (pc2 := 55) e_r5 dX8_sheet_52 wF_8_22 ?_
          refine V_iload_n (pc2 := 56) dX8_sheet_55 1 rfl rfl ?_
          refine V_iload_n (pc2 := 57) dX8_sheet_56 2 rfl rfl ?_
          obtain ⟨y6, hb, h⟩ := bS h
          have hJ65 : V D 2 IX8_sheet 65 [(0, .ref a0), (1, .int p0)] [.int y6, .int p0, .ref r5] m4 0 0 (Qi rR mR) := by
            obtain ⟨m7, e_m7, h⟩ := bS h
            refine V_stI (pc2 := 66) e_m7 dX8_sheet_65 ?_
            refine V_iconst (v := 0) (pc2 := 67) dX8_sheet_66 (by decide) ?_
            refine V_istore (pc2 := 69) (L2 := [(4, .int (0 : Int32)), (0, .ref a0), (1, .int p0)]) dX8_sheet_67 ?_ rfl rfl
            obtain ⟨m12, hl, h⟩ := bS h
            have hJ95 : V D 2 IX8_sheet 95 [(0, .ref a0), (1, .int p0)] [] m12 0 0 (Qi rR mR) := by
              refine V_aload_n (pc2 := 96) dX8_sheet_95 0 rfl rfl ?_
              obtain ⟨r13, e_r13, h⟩ := bS h
              refine V_gR (pc2 := 99) e_r13 dX8_sheet_96 wF_8_22 ?_
              refine V_iload_n (pc2 := 100) dX8_sheet_99 1 rfl rfl ?_
              obtain ⟨x14, e_x14, h⟩ := bS h
              refine V_ldI (pc2 := 101) e_x14 dX8_sheet_100 ?_
              obtain ⟨e1, e2⟩ := inj2 h
              subst e1
              subst e2
              exact V_iret dX8_sheet_101 rfl ⟨rfl, rfl⟩
            clear h
            have key69 : ∀ (n : Nat) (y8 : Int32) (m9 : Mem), loopF (fX8_sheet_b0 a0 p0) n (y8, m9) = some m12 → V D 2 IX8_sheet 69 [(0, .ref a0), (1, .int p0), (4, .int y8)] [] m9 0 0 (Qi rR mR) := by
              intro n
              induction n with
              | zero => intro y8 m9 h; cases h
              | succ n ih =>
                intro y8 m9 h
                obtain ⟨o, h, ho⟩ := loopF_inv h
                dsimp only [fX8_sheet_b0] at h
                refine V_iload (pc2 := 71) dX8_sheet_69 2 rfl ?_
                refine V_bipush (v := 24) (pc2 := 73) dX8_sheet_71 (by decide) ?_
                refine V_icmp_ge (pc2 := 76) (tgt := 95) dX8_sheet_73 (fun c73 => ?_) (fun c73 => ?_)
                · replace h := iT c73 h
                  have ee := inj1 h
                  subst ee
                  have e1 := pinj1 (loopF_e ho)
                  subst e1
                  exact V_lv hJ95 [0, 1] rfl
                · replace h := iF c73 h
                  refine V_aload_n (pc2 := 77) dX8_sheet_76 0 rfl rfl ?_
                  obtain ⟨r10, e_r10, h⟩ := bS h
                  refine V_gR (pc2 := 80) e_r10 dX8_sheet_77 wF_8_25 ?_
                  refine V_bipush (v := 24) (pc2 := 82) dX8_sheet_80 (by decide) ?_
                  refine V_iload_n (pc2 := 83) dX8_sheet_82 1 rfl rfl ?_
                  refine V_imul (pc2 := 84) dX8_sheet_83 ?_
                  refine V_iload (pc2 := 86) dX8_sheet_84 2 rfl ?_
                  refine V_iadd (pc2 := 87) dX8_sheet_86 ?_
                  refine V_iconst (v := 0) (pc2 := 88) dX8_sheet_87 (by decide) ?_
                  obtain ⟨m11, e_m11, h⟩ := bS h
                  refine V_stI (pc2 := 89) e_m11 dX8_sheet_88 ?_
                  refine V_iinc (pc2 := 92) (v := y8 + (1 : Int32)) (L2 := [(4, .int (y8 + (1 : Int32))), (0, .ref a0), (1, .int p0)]) dX8_sheet_89 2 rfl (by rfl) ?_ rfl rfl
                  refine V_goto (tgt := 69) dX8_sheet_92 ?_
                  have ee := inj1 h
                  subst ee
                  exact V_lv (ih _ _ (loopF_c ho)) [1, 2, 0] rfl
            exact V_lv (key69 _ _ _ hl) [1, 2, 0] rfl
          clear h
          have h := hb
          clear hb
          refine V_if_ge (pc2 := 60) (tgt := 64) dX8_sheet_57 (fun c57 => ?_) (fun c57 => ?_)
          · replace h := iT c57 h
            refine V_iload_n (pc2 := 65) dX8_sheet_64 3 rfl rfl ?_
            have e1 := inj1 h
            subst e1
            exact V_lv hJ65 [0, 1] rfl
          · replace h := iF c57 h
            refine V_iconst (v := 0) (pc2 := 61) dX8_sheet_60 (by decide) ?_
            refine V_goto (tgt := 65) dX8_sheet_61 ?_
            have e1 := inj1 h
            subst e1
            exact V_lv hJ65 [0, 1] rfl
        · replace h := iF c33 h
          refine V_iload_n (pc2 := 37) dX8_sheet_36 3 rfl rfl ?_
          refine V_if_ge (pc2 := 40) (tgt := 44) dX8_sheet_37 (fun c37 => ?_) (fun c37 => ?_)
          · replace h := iT c37 h
            refine V_aload_n (pc2 := 45) dX8_sheet_44 0 rfl rfl ?_
            obtain ⟨r15, e_r15, h⟩ := bS h
            refine V_gR (pc2 := 48) e_r15 dX8_sheet_45 wF_8_19 ?_
            refine V_iload_n (pc2 := 49) dX8_sheet_48 1 rfl rfl ?_
            refine V_iload_n (pc2 := 50) dX8_sheet_49 2 rfl rfl ?_
            obtain ⟨m16, e_m16, h⟩ := bS h
            refine V_stI (pc2 := 51) e_m16 dX8_sheet_50 ?_
            refine V_aload_n (pc2 := 52) dX8_sheet_51 0 rfl rfl ?_
            obtain ⟨r17, e_r17, h⟩ := bS h
            refine V_gR (pc2 := 55) e_r17 dX8_sheet_52 wF_8_22 ?_
            refine V_iload_n (pc2 := 56) dX8_sheet_55 1 rfl rfl ?_
            refine V_iload_n (pc2 := 57) dX8_sheet_56 2 rfl rfl ?_
            obtain ⟨y18, hb, h⟩ := bS h
            have hJ65 : V D 2 IX8_sheet 65 [(0, .ref a0), (1, .int p0)] [.int y18, .int p0, .ref r17] m16 0 0 (Qi rR mR) := by
              obtain ⟨m19, e_m19, h⟩ := bS h
              refine V_stI (pc2 := 66) e_m19 dX8_sheet_65 ?_
              refine V_iconst (v := 0) (pc2 := 67) dX8_sheet_66 (by decide) ?_
              refine V_istore (pc2 := 69) (L2 := [(4, .int (0 : Int32)), (0, .ref a0), (1, .int p0)]) dX8_sheet_67 ?_ rfl rfl
              obtain ⟨m24, hl, h⟩ := bS h
              have hJ95 : V D 2 IX8_sheet 95 [(0, .ref a0), (1, .int p0)] [] m24 0 0 (Qi rR mR) := by
                refine V_aload_n (pc2 := 96) dX8_sheet_95 0 rfl rfl ?_
                obtain ⟨r25, e_r25, h⟩ := bS h
                refine V_gR (pc2 := 99) e_r25 dX8_sheet_96 wF_8_22 ?_
                refine V_iload_n (pc2 := 100) dX8_sheet_99 1 rfl rfl ?_
                obtain ⟨x26, e_x26, h⟩ := bS h
                refine V_ldI (pc2 := 101) e_x26 dX8_sheet_100 ?_
                obtain ⟨e1, e2⟩ := inj2 h
                subst e1
                subst e2
                exact V_iret dX8_sheet_101 rfl ⟨rfl, rfl⟩
              clear h
              have key69 : ∀ (n : Nat) (y20 : Int32) (m21 : Mem), loopF (fX8_sheet_b1 a0 p0) n (y20, m21) = some m24 → V D 2 IX8_sheet 69 [(0, .ref a0), (1, .int p0), (4, .int y20)] [] m21 0 0 (Qi rR mR) := by
                intro n
                induction n with
                | zero => intro y20 m21 h; cases h
                | succ n ih =>
                  intro y20 m21 h
                  obtain ⟨o, h, ho⟩ := loopF_inv h
                  dsimp only [fX8_sheet_b1] at h
                  refine V_iload (pc2 := 71) dX8_sheet_69 2 rfl ?_
                  refine V_bipush (v := 24) (pc2 := 73) dX8_sheet_71 (by decide) ?_
                  refine V_icmp_ge (pc2 := 76) (tgt := 95) dX8_sheet_73 (fun c73 => ?_) (fun c73 => ?_)
                  · replace h := iT c73 h
                    have ee := inj1 h
                    subst ee
                    have e1 := pinj1 (loopF_e ho)
                    subst e1
                    exact V_lv hJ95 [0, 1] rfl
                  · replace h := iF c73 h
                    refine V_aload_n (pc2 := 77) dX8_sheet_76 0 rfl rfl ?_
                    obtain ⟨r22, e_r22, h⟩ := bS h
                    refine V_gR (pc2 := 80) e_r22 dX8_sheet_77 wF_8_25 ?_
                    refine V_bipush (v := 24) (pc2 := 82) dX8_sheet_80 (by decide) ?_
                    refine V_iload_n (pc2 := 83) dX8_sheet_82 1 rfl rfl ?_
                    refine V_imul (pc2 := 84) dX8_sheet_83 ?_
                    refine V_iload (pc2 := 86) dX8_sheet_84 2 rfl ?_
                    refine V_iadd (pc2 := 87) dX8_sheet_86 ?_
                    refine V_iconst (v := 0) (pc2 := 88) dX8_sheet_87 (by decide) ?_
                    obtain ⟨m23, e_m23, h⟩ := bS h
                    refine V_stI (pc2 := 89) e_m23 dX8_sheet_88 ?_
                    refine V_iinc (pc2 := 92) (v := y20 + (1 : Int32)) (L2 := [(4, .int (y20 + (1 : Int32))), (0, .ref a0), (1, .int p0)]) dX8_sheet_89 2 rfl (by rfl) ?_ rfl rfl
                    refine V_goto (tgt := 69) dX8_sheet_92 ?_
                    have ee := inj1 h
                    subst ee
                    exact V_lv (ih _ _ (loopF_c ho)) [1, 2, 0] rfl
              exact V_lv (key69 _ _ _ hl) [1, 2, 0] rfl
            clear h
            have h := hb
            clear hb
            refine V_if_ge (pc2 := 60) (tgt := 64) dX8_sheet_57 (fun c57 => ?_) (fun c57 => ?_)
            · replace h := iT c57 h
              refine V_iload_n (pc2 := 65) dX8_sheet_64 3 rfl rfl ?_
              have e1 := inj1 h
              subst e1
              exact V_lv hJ65 [0, 1] rfl
            · replace h := iF c57 h
              refine V_iconst (v := 0) (pc2 := 61) dX8_sheet_60 (by decide) ?_
              refine V_goto (tgt := 65) dX8_sheet_61 ?_
              have e1 := inj1 h
              subst e1
              exact V_lv hJ65 [0, 1] rfl
          · replace h := iF c37 h
            refine V_ldcw (v := -1000000014) (pc2 := 43) dX8_sheet_40 wconstant_8_300 ?_
            obtain ⟨e1, e2⟩ := inj2 h
            subst e1
            subst e2
            exact V_iret dX8_sheet_43 rfl ⟨rfl, rfl⟩
      · replace h := iF c20 h
        refine V_iload_n (pc2 := 24) dX8_sheet_23 3 rfl rfl ?_
        refine V_bipush (v := 24) (pc2 := 26) dX8_sheet_24 (by decide) ?_
        refine V_icmp_le (pc2 := 29) (tgt := 32) dX8_sheet_26 (fun c26 => ?_) (fun c26 => ?_)
        · replace h := iT c26 h
          refine V_iload_n (pc2 := 33) dX8_sheet_32 2 rfl rfl ?_
          refine V_if_lt (pc2 := 36) (tgt := 44) dX8_sheet_33 (fun c33 => ?_) (fun c33 => ?_)
          · replace h := iT c33 h
            refine V_aload_n (pc2 := 45) dX8_sheet_44 0 rfl rfl ?_
            obtain ⟨r27, e_r27, h⟩ := bS h
            refine V_gR (pc2 := 48) e_r27 dX8_sheet_45 wF_8_19 ?_
            refine V_iload_n (pc2 := 49) dX8_sheet_48 1 rfl rfl ?_
            refine V_iload_n (pc2 := 50) dX8_sheet_49 2 rfl rfl ?_
            obtain ⟨m28, e_m28, h⟩ := bS h
            refine V_stI (pc2 := 51) e_m28 dX8_sheet_50 ?_
            refine V_aload_n (pc2 := 52) dX8_sheet_51 0 rfl rfl ?_
            obtain ⟨r29, e_r29, h⟩ := bS h
            refine V_gR (pc2 := 55) e_r29 dX8_sheet_52 wF_8_22 ?_
            refine V_iload_n (pc2 := 56) dX8_sheet_55 1 rfl rfl ?_
            refine V_iload_n (pc2 := 57) dX8_sheet_56 2 rfl rfl ?_
            obtain ⟨y30, hb, h⟩ := bS h
            have hJ65 : V D 2 IX8_sheet 65 [(0, .ref a0), (1, .int p0)] [.int y30, .int p0, .ref r29] m28 0 0 (Qi rR mR) := by
              obtain ⟨m31, e_m31, h⟩ := bS h
              refine V_stI (pc2 := 66) e_m31 dX8_sheet_65 ?_
              refine V_iconst (v := 0) (pc2 := 67) dX8_sheet_66 (by decide) ?_
              refine V_istore (pc2 := 69) (L2 := [(4, .int (0 : Int32)), (0, .ref a0), (1, .int p0)]) dX8_sheet_67 ?_ rfl rfl
              obtain ⟨m36, hl, h⟩ := bS h
              have hJ95 : V D 2 IX8_sheet 95 [(0, .ref a0), (1, .int p0)] [] m36 0 0 (Qi rR mR) := by
                refine V_aload_n (pc2 := 96) dX8_sheet_95 0 rfl rfl ?_
                obtain ⟨r37, e_r37, h⟩ := bS h
                refine V_gR (pc2 := 99) e_r37 dX8_sheet_96 wF_8_22 ?_
                refine V_iload_n (pc2 := 100) dX8_sheet_99 1 rfl rfl ?_
                obtain ⟨x38, e_x38, h⟩ := bS h
                refine V_ldI (pc2 := 101) e_x38 dX8_sheet_100 ?_
                obtain ⟨e1, e2⟩ := inj2 h
                subst e1
                subst e2
                exact V_iret dX8_sheet_101 rfl ⟨rfl, rfl⟩
              clear h
              have key69 : ∀ (n : Nat) (y32 : Int32) (m33 : Mem), loopF (fX8_sheet_b2 a0 p0) n (y32, m33) = some m36 → V D 2 IX8_sheet 69 [(0, .ref a0), (1, .int p0), (4, .int y32)] [] m33 0 0 (Qi rR mR) := by
                intro n
                induction n with
                | zero => intro y32 m33 h; cases h
                | succ n ih =>
                  intro y32 m33 h
                  obtain ⟨o, h, ho⟩ := loopF_inv h
                  dsimp only [fX8_sheet_b2] at h
                  refine V_iload (pc2 := 71) dX8_sheet_69 2 rfl ?_
                  refine V_bipush (v := 24) (pc2 := 73) dX8_sheet_71 (by decide) ?_
                  refine V_icmp_ge (pc2 := 76) (tgt := 95) dX8_sheet_73 (fun c73 => ?_) (fun c73 => ?_)
                  · replace h := iT c73 h
                    have ee := inj1 h
                    subst ee
                    have e1 := pinj1 (loopF_e ho)
                    subst e1
                    exact V_lv hJ95 [0, 1] rfl
                  · replace h := iF c73 h
                    refine V_aload_n (pc2 := 77) dX8_sheet_76 0 rfl rfl ?_
                    obtain ⟨r34, e_r34, h⟩ := bS h
                    refine V_gR (pc2 := 80) e_r34 dX8_sheet_77 wF_8_25 ?_
                    refine V_bipush (v := 24) (pc2 := 82) dX8_sheet_80 (by decide) ?_
                    refine V_iload_n (pc2 := 83) dX8_sheet_82 1 rfl rfl ?_
                    refine V_imul (pc2 := 84) dX8_sheet_83 ?_
                    refine V_iload (pc2 := 86) dX8_sheet_84 2 rfl ?_
                    refine V_iadd (pc2 := 87) dX8_sheet_86 ?_
                    refine V_iconst (v := 0) (pc2 := 88) dX8_sheet_87 (by decide) ?_
                    obtain ⟨m35, e_m35, h⟩ := bS h
                    refine V_stI (pc2 := 89) e_m35 dX8_sheet_88 ?_
                    refine V_iinc (pc2 := 92) (v := y32 + (1 : Int32)) (L2 := [(4, .int (y32 + (1 : Int32))), (0, .ref a0), (1, .int p0)]) dX8_sheet_89 2 rfl (by rfl) ?_ rfl rfl
                    refine V_goto (tgt := 69) dX8_sheet_92 ?_
                    have ee := inj1 h
                    subst ee
                    exact V_lv (ih _ _ (loopF_c ho)) [1, 2, 0] rfl
              exact V_lv (key69 _ _ _ hl) [1, 2, 0] rfl
            clear h
            have h := hb
            clear hb
            refine V_if_ge (pc2 := 60) (tgt := 64) dX8_sheet_57 (fun c57 => ?_) (fun c57 => ?_)
            · replace h := iT c57 h
              refine V_iload_n (pc2 := 65) dX8_sheet_64 3 rfl rfl ?_
              have e1 := inj1 h
              subst e1
              exact V_lv hJ65 [0, 1] rfl
            · replace h := iF c57 h
              refine V_iconst (v := 0) (pc2 := 61) dX8_sheet_60 (by decide) ?_
              refine V_goto (tgt := 65) dX8_sheet_61 ?_
              have e1 := inj1 h
              subst e1
              exact V_lv hJ65 [0, 1] rfl
          · replace h := iF c33 h
            refine V_iload_n (pc2 := 37) dX8_sheet_36 3 rfl rfl ?_
            refine V_if_ge (pc2 := 40) (tgt := 44) dX8_sheet_37 (fun c37 => ?_) (fun c37 => ?_)
            · replace h := iT c37 h
              refine V_aload_n (pc2 := 45) dX8_sheet_44 0 rfl rfl ?_
              obtain ⟨r39, e_r39, h⟩ := bS h
              refine V_gR (pc2 := 48) e_r39 dX8_sheet_45 wF_8_19 ?_
              refine V_iload_n (pc2 := 49) dX8_sheet_48 1 rfl rfl ?_
              refine V_iload_n (pc2 := 50) dX8_sheet_49 2 rfl rfl ?_
              obtain ⟨m40, e_m40, h⟩ := bS h
              refine V_stI (pc2 := 51) e_m40 dX8_sheet_50 ?_
              refine V_aload_n (pc2 := 52) dX8_sheet_51 0 rfl rfl ?_
              obtain ⟨r41, e_r41, h⟩ := bS h
              refine V_gR (pc2 := 55) e_r41 dX8_sheet_52 wF_8_22 ?_
              refine V_iload_n (pc2 := 56) dX8_sheet_55 1 rfl rfl ?_
              refine V_iload_n (pc2 := 57) dX8_sheet_56 2 rfl rfl ?_
              obtain ⟨y42, hb, h⟩ := bS h
              have hJ65 : V D 2 IX8_sheet 65 [(0, .ref a0), (1, .int p0)] [.int y42, .int p0, .ref r41] m40 0 0 (Qi rR mR) := by
                obtain ⟨m43, e_m43, h⟩ := bS h
                refine V_stI (pc2 := 66) e_m43 dX8_sheet_65 ?_
                refine V_iconst (v := 0) (pc2 := 67) dX8_sheet_66 (by decide) ?_
                refine V_istore (pc2 := 69) (L2 := [(4, .int (0 : Int32)), (0, .ref a0), (1, .int p0)]) dX8_sheet_67 ?_ rfl rfl
                obtain ⟨m48, hl, h⟩ := bS h
                have hJ95 : V D 2 IX8_sheet 95 [(0, .ref a0), (1, .int p0)] [] m48 0 0 (Qi rR mR) := by
                  refine V_aload_n (pc2 := 96) dX8_sheet_95 0 rfl rfl ?_
                  obtain ⟨r49, e_r49, h⟩ := bS h
                  refine V_gR (pc2 := 99) e_r49 dX8_sheet_96 wF_8_22 ?_
                  refine V_iload_n (pc2 := 100) dX8_sheet_99 1 rfl rfl ?_
                  obtain ⟨x50, e_x50, h⟩ := bS h
                  refine V_ldI (pc2 := 101) e_x50 dX8_sheet_100 ?_
                  obtain ⟨e1, e2⟩ := inj2 h
                  subst e1
                  subst e2
                  exact V_iret dX8_sheet_101 rfl ⟨rfl, rfl⟩
                clear h
                have key69 : ∀ (n : Nat) (y44 : Int32) (m45 : Mem), loopF (fX8_sheet_b3 a0 p0) n (y44, m45) = some m48 → V D 2 IX8_sheet 69 [(0, .ref a0), (1, .int p0), (4, .int y44)] [] m45 0 0 (Qi rR mR) := by
                  intro n
                  induction n with
                  | zero => intro y44 m45 h; cases h
                  | succ n ih =>
                    intro y44 m45 h
                    obtain ⟨o, h, ho⟩ := loopF_inv h
                    dsimp only [fX8_sheet_b3] at h
                    refine V_iload (pc2 := 71) dX8_sheet_69 2 rfl ?_
                    refine V_bipush (v := 24) (pc2 := 73) dX8_sheet_71 (by decide) ?_
                    refine V_icmp_ge (pc2 := 76) (tgt := 95) dX8_sheet_73 (fun c73 => ?_) (fun c73 => ?_)
                    · replace h := iT c73 h
                      have ee := inj1 h
                      subst ee
                      have e1 := pinj1 (loopF_e ho)
                      subst e1
                      exact V_lv hJ95 [0, 1] rfl
                    · replace h := iF c73 h
                      refine V_aload_n (pc2 := 77) dX8_sheet_76 0 rfl rfl ?_
                      obtain ⟨r46, e_r46, h⟩ := bS h
                      refine V_gR (pc2 := 80) e_r46 dX8_sheet_77 wF_8_25 ?_
                      refine V_bipush (v := 24) (pc2 := 82) dX8_sheet_80 (by decide) ?_
                      refine V_iload_n (pc2 := 83) dX8_sheet_82 1 rfl rfl ?_
                      refine V_imul (pc2 := 84) dX8_sheet_83 ?_
                      refine V_iload (pc2 := 86) dX8_sheet_84 2 rfl ?_
                      refine V_iadd (pc2 := 87) dX8_sheet_86 ?_
                      refine V_iconst (v := 0) (pc2 := 88) dX8_sheet_87 (by decide) ?_
                      obtain ⟨m47, e_m47, h⟩ := bS h
                      refine V_stI (pc2 := 89) e_m47 dX8_sheet_88 ?_
                      refine V_iinc (pc2 := 92) (v := y44 + (1 : Int32)) (L2 := [(4, .int (y44 + (1 : Int32))), (0, .ref a0), (1, .int p0)]) dX8_sheet_89 2 rfl (by rfl) ?_ rfl rfl
                      refine V_goto (tgt := 69) dX8_sheet_92 ?_
                      have ee := inj1 h
                      subst ee
                      exact V_lv (ih _ _ (loopF_c ho)) [1, 2, 0] rfl
                exact V_lv (key69 _ _ _ hl) [1, 2, 0] rfl
              clear h
              have h := hb
              clear hb
              refine V_if_ge (pc2 := 60) (tgt := 64) dX8_sheet_57 (fun c57 => ?_) (fun c57 => ?_)
              · replace h := iT c57 h
                refine V_iload_n (pc2 := 65) dX8_sheet_64 3 rfl rfl ?_
                have e1 := inj1 h
                subst e1
                exact V_lv hJ65 [0, 1] rfl
              · replace h := iF c57 h
                refine V_iconst (v := 0) (pc2 := 61) dX8_sheet_60 (by decide) ?_
                refine V_goto (tgt := 65) dX8_sheet_61 ?_
                have e1 := inj1 h
                subst e1
                exact V_lv hJ65 [0, 1] rfl
            · replace h := iF c37 h
              refine V_ldcw (v := -1000000014) (pc2 := 43) dX8_sheet_40 wconstant_8_300 ?_
              obtain ⟨e1, e2⟩ := inj2 h
              subst e1
              subst e2
              exact V_iret dX8_sheet_43 rfl ⟨rfl, rfl⟩
        · replace h := iF c26 h
          refine V_ldc (v := -1000000001) (pc2 := 31) dX8_sheet_29 wconstant_8_72 ?_
          obtain ⟨e1, e2⟩ := inj2 h
          subst e1
          subst e2
          exact V_iret dX8_sheet_31 rfl ⟨rfl, rfl⟩
noncomputable def fX8_mark (a0 : Nat) (p0 : Int32) (p1 : Int32) (p2 : Int32) (m : Mem) : Option (Int32 × Mem) :=
  (fX8_isSheet p0 m).bind fun b1 =>
  if b1 = true then
    (gR m a0 8 4).bind fun r2 =>
    (ldI m r2 p0).bind fun x3 =>
    if 0 ≤ x3 then
      (gR m a0 8 5).bind fun r4 =>
      (ldI m r4 p0).bind fun x5 =>
      (fX8_isIn p1.toInt64 (0 : Int64) ((x5 - (1 : Int32)).toInt64) m).bind fun b6 =>
      if b6 = true then
        (gR m a0 8 4).bind fun r7 =>
        (ldI m r7 p0).bind fun x8 =>
        if x8 = 0 then
          if p2 = (-1000000005 : Int32) then
            some ((-1000000012 : Int32), m)
          else
            (gR m a0 8 4).bind fun r27 =>
            (ldI m r27 p0).bind fun x28 =>
            if x28 = (1 : Int32) then
              if p2 = (-1000000005 : Int32) then
                (gR m a0 8 6).bind fun r34 =>
                (gR m a0 8 4).bind fun r35 =>
                (ldI m r35 p0).bind fun x36 =>
                (
                  if x36 = 0 then
                    some ((p2 <<< ((16 : Int32) &&& 31)) >>> ((16 : Int32) &&& 31))
                  else
                    some p2).bind fun y37 =>
                (stI m r34 (((24 : Int32) * p0) + p1) y37).bind fun m38 =>
                some ((1 : Int32), m38)
              else
                (fX8_isIn p2.toInt64 (-99999 : Int64) (99999 : Int64) m).bind fun b39 =>
                if b39 = true then
                  (gR m a0 8 6).bind fun r40 =>
                  (gR m a0 8 4).bind fun r41 =>
                  (ldI m r41 p0).bind fun x42 =>
                  (
                    if x42 = 0 then
                      some ((p2 <<< ((16 : Int32) &&& 31)) >>> ((16 : Int32) &&& 31))
                    else
                      some p2).bind fun y43 =>
                  (stI m r40 (((24 : Int32) * p0) + p1) y43).bind fun m44 =>
                  some ((1 : Int32), m44)
                else
                  some ((-1000000001 : Int32), m)
            else
              (gR m a0 8 6).bind fun r29 =>
              (gR m a0 8 4).bind fun r30 =>
              (ldI m r30 p0).bind fun x31 =>
              (
                if x31 = 0 then
                  some ((p2 <<< ((16 : Int32) &&& 31)) >>> ((16 : Int32) &&& 31))
                else
                  some p2).bind fun y32 =>
              (stI m r29 (((24 : Int32) * p0) + p1) y32).bind fun m33 =>
              some ((1 : Int32), m33)
        else
          (gR m a0 8 4).bind fun r9 =>
          (ldI m r9 p0).bind fun x10 =>
          if x10 = (1 : Int32) then
            if p2 = (-1000000005 : Int32) then
              (gR m a0 8 6).bind fun r16 =>
              (gR m a0 8 4).bind fun r17 =>
              (ldI m r17 p0).bind fun x18 =>
              (
                if x18 = 0 then
                  some ((p2 <<< ((16 : Int32) &&& 31)) >>> ((16 : Int32) &&& 31))
                else
                  some p2).bind fun y19 =>
              (stI m r16 (((24 : Int32) * p0) + p1) y19).bind fun m20 =>
              some ((1 : Int32), m20)
            else
              (fX8_isIn p2.toInt64 (-99999 : Int64) (99999 : Int64) m).bind fun b21 =>
              if b21 = true then
                (gR m a0 8 6).bind fun r22 =>
                (gR m a0 8 4).bind fun r23 =>
                (ldI m r23 p0).bind fun x24 =>
                (
                  if x24 = 0 then
                    some ((p2 <<< ((16 : Int32) &&& 31)) >>> ((16 : Int32) &&& 31))
                  else
                    some p2).bind fun y25 =>
                (stI m r22 (((24 : Int32) * p0) + p1) y25).bind fun m26 =>
                some ((1 : Int32), m26)
              else
                some ((-1000000001 : Int32), m)
          else
            (gR m a0 8 6).bind fun r11 =>
            (gR m a0 8 4).bind fun r12 =>
            (ldI m r12 p0).bind fun x13 =>
            (
              if x13 = 0 then
                some ((p2 <<< ((16 : Int32) &&& 31)) >>> ((16 : Int32) &&& 31))
              else
                some p2).bind fun y14 =>
            (stI m r11 (((24 : Int32) * p0) + p1) y14).bind fun m15 =>
            some ((1 : Int32), m15)
      else
        some ((-1000000013 : Int32), m)
    else
      some ((-1000000011 : Int32), m)
  else
    some ((-1000000001 : Int32), m)
set_option maxRecDepth 20000 in
theorem tX8_mark {D : Dat} {a0 : Nat} {p0 : Int32} {p1 : Int32} {p2 : Int32} {m : Mem} {rR : Int32} {mR : Mem} (h : fX8_mark a0 p0 p1 p2 m = some (rR, mR)) : T D 2 IX8_mark [.ref a0, .int p0, .int p1, .int p2] m 0 0 (Qi rR mR) := by
  refine T_of_V (by decide) (Nat.le_of_ble_eq_true rfl) ?_
  show V D 2 IX8_mark 0 [(0, .ref a0), (1, .int p0), (2, .int p1), (3, .int p2)] [] m 0 0 (Qi rR mR)
  unfold fX8_mark at h
  refine V_iload_n (pc2 := 1) dX8_mark_0 1 rfl rfl ?_
  obtain ⟨b1, e_b1, h⟩ := bS h
  refine V_cSi (pc2 := 4) [.int p0] (st := []) (tX8_isSheet e_b1) dX8_mark_1 wS_8_295 (by decide) rfl (Nat.le_of_ble_eq_true rfl) ?_
  refine V_ifb_ne (pc2 := 7) (tgt := 10) dX8_mark_4 (fun c4 => ?_) (fun c4 => ?_)
  · replace h := iT c4 h
    refine V_aload_n (pc2 := 11) dX8_mark_10 0 rfl rfl ?_
    obtain ⟨r2, e_r2, h⟩ := bS h
    refine V_gR (pc2 := 14) e_r2 dX8_mark_11 wF_8_19 ?_
    refine V_iload_n (pc2 := 15) dX8_mark_14 1 rfl rfl ?_
    obtain ⟨x3, e_x3, h⟩ := bS h
    refine V_ldI (pc2 := 16) e_x3 dX8_mark_15 ?_
    refine V_if_ge (pc2 := 19) (tgt := 23) dX8_mark_16 (fun c16 => ?_) (fun c16 => ?_)
    · replace h := iT c16 h
      refine V_iload_n (pc2 := 24) dX8_mark_23 2 rfl rfl ?_
      refine V_i2l (pc2 := 25) dX8_mark_24 rfl ?_
      refine V_lconst (v := 0) (pc2 := 26) dX8_mark_25 (by decide) ?_
      refine V_aload_n (pc2 := 27) dX8_mark_26 0 rfl rfl ?_
      obtain ⟨r4, e_r4, h⟩ := bS h
      refine V_gR (pc2 := 30) e_r4 dX8_mark_27 wF_8_22 ?_
      refine V_iload_n (pc2 := 31) dX8_mark_30 1 rfl rfl ?_
      obtain ⟨x5, e_x5, h⟩ := bS h
      refine V_ldI (pc2 := 32) e_x5 dX8_mark_31 ?_
      refine V_iconst (v := 1) (pc2 := 33) dX8_mark_32 (by decide) ?_
      refine V_isub (pc2 := 34) dX8_mark_33 ?_
      refine V_i2l (pc2 := 35) dX8_mark_34 rfl ?_
      obtain ⟨b6, e_b6, h⟩ := bS h
      refine V_cSi (pc2 := 38) [.long p1.toInt64, .long (0 : Int64), .long ((x5 - (1 : Int32)).toInt64)] (st := []) (tX8_isIn e_b6) dX8_mark_35 wS_8_65 (by decide) rfl (Nat.le_of_ble_eq_true rfl) ?_
      refine V_ifb_ne (pc2 := 41) (tgt := 45) dX8_mark_38 (fun c38 => ?_) (fun c38 => ?_)
      · replace h := iT c38 h
        refine V_aload_n (pc2 := 46) dX8_mark_45 0 rfl rfl ?_
        obtain ⟨r7, e_r7, h⟩ := bS h
        refine V_gR (pc2 := 49) e_r7 dX8_mark_46 wF_8_19 ?_
        refine V_iload_n (pc2 := 50) dX8_mark_49 1 rfl rfl ?_
        obtain ⟨x8, e_x8, h⟩ := bS h
        refine V_ldI (pc2 := 51) e_x8 dX8_mark_50 ?_
        refine V_if_ne (pc2 := 54) (tgt := 63) dX8_mark_51 (fun c51 => ?_) (fun c51 => ?_)
        · replace h := iF c51 h
          refine V_aload_n (pc2 := 64) dX8_mark_63 0 rfl rfl ?_
          obtain ⟨r9, e_r9, h⟩ := bS h
          refine V_gR (pc2 := 67) e_r9 dX8_mark_64 wF_8_19 ?_
          refine V_iload_n (pc2 := 68) dX8_mark_67 1 rfl rfl ?_
          obtain ⟨x10, e_x10, h⟩ := bS h
          refine V_ldI (pc2 := 69) e_x10 dX8_mark_68 ?_
          refine V_iconst (v := 1) (pc2 := 70) dX8_mark_69 (by decide) ?_
          refine V_icmp_ne (pc2 := 73) (tgt := 96) dX8_mark_70 (fun c70 => ?_) (fun c70 => ?_)
          · replace h := iF c70 h
            refine V_aload_n (pc2 := 97) dX8_mark_96 0 rfl rfl ?_
            obtain ⟨r11, e_r11, h⟩ := bS h
            refine V_gR (pc2 := 100) e_r11 dX8_mark_97 wF_8_25 ?_
            refine V_bipush (v := 24) (pc2 := 102) dX8_mark_100 (by decide) ?_
            refine V_iload_n (pc2 := 103) dX8_mark_102 1 rfl rfl ?_
            refine V_imul (pc2 := 104) dX8_mark_103 ?_
            refine V_iload_n (pc2 := 105) dX8_mark_104 2 rfl rfl ?_
            refine V_iadd (pc2 := 106) dX8_mark_105 ?_
            refine V_aload_n (pc2 := 107) dX8_mark_106 0 rfl rfl ?_
            obtain ⟨r12, e_r12, h⟩ := bS h
            refine V_gR (pc2 := 110) e_r12 dX8_mark_107 wF_8_19 ?_
            refine V_iload_n (pc2 := 111) dX8_mark_110 1 rfl rfl ?_
            obtain ⟨x13, e_x13, h⟩ := bS h
            refine V_ldI (pc2 := 112) e_x13 dX8_mark_111 ?_
            obtain ⟨y14, hb, h⟩ := bS h
            have hJ126 : V D 2 IX8_mark 126 [] [.int y14, .int (((24 : Int32) * p0) + p1), .ref r11] m 0 0 (Qi rR mR) := by
              obtain ⟨m15, e_m15, h⟩ := bS h
              refine V_stI (pc2 := 127) e_m15 dX8_mark_126 ?_
              refine V_iconst (v := 1) (pc2 := 128) dX8_mark_127 (by decide) ?_
              obtain ⟨e1, e2⟩ := inj2 h
              subst e1
              subst e2
              exact V_iret dX8_mark_128 rfl ⟨rfl, rfl⟩
            clear h
            have h := hb
            clear hb
            refine V_if_ne (pc2 := 115) (tgt := 125) dX8_mark_112 (fun c112 => ?_) (fun c112 => ?_)
            · replace h := iF c112 h
              refine V_iload_n (pc2 := 126) dX8_mark_125 3 rfl rfl ?_
              have e1 := inj1 h
              subst e1
              exact V_lv hJ126 [] rfl
            · replace h := iT c112 h
              refine V_iload_n (pc2 := 116) dX8_mark_115 3 rfl rfl ?_
              refine V_bipush (v := 16) (pc2 := 118) dX8_mark_116 (by decide) ?_
              refine V_ishl (pc2 := 119) dX8_mark_118 ?_
              refine V_bipush (v := 16) (pc2 := 121) dX8_mark_119 (by decide) ?_
              refine V_ishr (pc2 := 122) dX8_mark_121 ?_
              refine V_goto (tgt := 126) dX8_mark_122 ?_
              have e1 := inj1 h
              subst e1
              exact V_lv hJ126 [] rfl
          · replace h := iT c70 h
            refine V_iload_n (pc2 := 74) dX8_mark_73 3 rfl rfl ?_
            refine V_ldc (v := -1000000005) (pc2 := 76) dX8_mark_74 wconstant_8_64 ?_
            refine V_icmp_eq (pc2 := 79) (tgt := 96) dX8_mark_76 (fun c76 => ?_) (fun c76 => ?_)
            · replace h := iT c76 h
              refine V_aload_n (pc2 := 97) dX8_mark_96 0 rfl rfl ?_
              obtain ⟨r16, e_r16, h⟩ := bS h
              refine V_gR (pc2 := 100) e_r16 dX8_mark_97 wF_8_25 ?_
              refine V_bipush (v := 24) (pc2 := 102) dX8_mark_100 (by decide) ?_
              refine V_iload_n (pc2 := 103) dX8_mark_102 1 rfl rfl ?_
              refine V_imul (pc2 := 104) dX8_mark_103 ?_
              refine V_iload_n (pc2 := 105) dX8_mark_104 2 rfl rfl ?_
              refine V_iadd (pc2 := 106) dX8_mark_105 ?_
              refine V_aload_n (pc2 := 107) dX8_mark_106 0 rfl rfl ?_
              obtain ⟨r17, e_r17, h⟩ := bS h
              refine V_gR (pc2 := 110) e_r17 dX8_mark_107 wF_8_19 ?_
              refine V_iload_n (pc2 := 111) dX8_mark_110 1 rfl rfl ?_
              obtain ⟨x18, e_x18, h⟩ := bS h
              refine V_ldI (pc2 := 112) e_x18 dX8_mark_111 ?_
              obtain ⟨y19, hb, h⟩ := bS h
              have hJ126 : V D 2 IX8_mark 126 [] [.int y19, .int (((24 : Int32) * p0) + p1), .ref r16] m 0 0 (Qi rR mR) := by
                obtain ⟨m20, e_m20, h⟩ := bS h
                refine V_stI (pc2 := 127) e_m20 dX8_mark_126 ?_
                refine V_iconst (v := 1) (pc2 := 128) dX8_mark_127 (by decide) ?_
                obtain ⟨e1, e2⟩ := inj2 h
                subst e1
                subst e2
                exact V_iret dX8_mark_128 rfl ⟨rfl, rfl⟩
              clear h
              have h := hb
              clear hb
              refine V_if_ne (pc2 := 115) (tgt := 125) dX8_mark_112 (fun c112 => ?_) (fun c112 => ?_)
              · replace h := iF c112 h
                refine V_iload_n (pc2 := 126) dX8_mark_125 3 rfl rfl ?_
                have e1 := inj1 h
                subst e1
                exact V_lv hJ126 [] rfl
              · replace h := iT c112 h
                refine V_iload_n (pc2 := 116) dX8_mark_115 3 rfl rfl ?_
                refine V_bipush (v := 16) (pc2 := 118) dX8_mark_116 (by decide) ?_
                refine V_ishl (pc2 := 119) dX8_mark_118 ?_
                refine V_bipush (v := 16) (pc2 := 121) dX8_mark_119 (by decide) ?_
                refine V_ishr (pc2 := 122) dX8_mark_121 ?_
                refine V_goto (tgt := 126) dX8_mark_122 ?_
                have e1 := inj1 h
                subst e1
                exact V_lv hJ126 [] rfl
            · replace h := iF c76 h
              refine V_iload_n (pc2 := 80) dX8_mark_79 3 rfl rfl ?_
              refine V_i2l (pc2 := 81) dX8_mark_80 rfl ?_
              refine V_ldc2 (v := -99999) (pc2 := 84) dX8_mark_81 wconstantLong_8_303 ?_
              refine V_ldc2 (v := 99999) (pc2 := 87) dX8_mark_84 wconstantLong_8_305 ?_
              obtain ⟨b21, e_b21, h⟩ := bS h
              refine V_cSi (pc2 := 90) [.long p2.toInt64, .long (-99999 : Int64), .long (99999 : Int64)] (st := []) (tX8_isIn e_b21) dX8_mark_87 wS_8_65 (by decide) rfl (Nat.le_of_ble_eq_true rfl) ?_
              refine V_ifb_ne (pc2 := 93) (tgt := 96) dX8_mark_90 (fun c90 => ?_) (fun c90 => ?_)
              · replace h := iT c90 h
                refine V_aload_n (pc2 := 97) dX8_mark_96 0 rfl rfl ?_
                obtain ⟨r22, e_r22, h⟩ := bS h
                refine V_gR (pc2 := 100) e_r22 dX8_mark_97 wF_8_25 ?_
                refine V_bipush (v := 24) (pc2 := 102) dX8_mark_100 (by decide) ?_
                refine V_iload_n (pc2 := 103) dX8_mark_102 1 rfl rfl ?_
                refine V_imul (pc2 := 104) dX8_mark_103 ?_
                refine V_iload_n (pc2 := 105) dX8_mark_104 2 rfl rfl ?_
                refine V_iadd (pc2 := 106) dX8_mark_105 ?_
                refine V_aload_n (pc2 := 107) dX8_mark_106 0 rfl rfl ?_
                obtain ⟨r23, e_r23, h⟩ := bS h
                refine V_gR (pc2 := 110) e_r23 dX8_mark_107 wF_8_19 ?_
                refine V_iload_n (pc2 := 111) dX8_mark_110 1 rfl rfl ?_
                obtain ⟨x24, e_x24, h⟩ := bS h
                refine V_ldI (pc2 := 112) e_x24 dX8_mark_111 ?_
                obtain ⟨y25, hb, h⟩ := bS h
                have hJ126 : V D 2 IX8_mark 126 [] [.int y25, .int (((24 : Int32) * p0) + p1), .ref r22] m 0 0 (Qi rR mR) := by
                  obtain ⟨m26, e_m26, h⟩ := bS h
                  refine V_stI (pc2 := 127) e_m26 dX8_mark_126 ?_
                  refine V_iconst (v := 1) (pc2 := 128) dX8_mark_127 (by decide) ?_
                  obtain ⟨e1, e2⟩ := inj2 h
                  subst e1
                  subst e2
                  exact V_iret dX8_mark_128 rfl ⟨rfl, rfl⟩
                clear h
                have h := hb
                clear hb
                refine V_if_ne (pc2 := 115) (tgt := 125) dX8_mark_112 (fun c112 => ?_) (fun c112 => ?_)
                · replace h := iF c112 h
                  refine V_iload_n (pc2 := 126) dX8_mark_125 3 rfl rfl ?_
                  have e1 := inj1 h
                  subst e1
                  exact V_lv hJ126 [] rfl
                · replace h := iT c112 h
                  refine V_iload_n (pc2 := 116) dX8_mark_115 3 rfl rfl ?_
                  refine V_bipush (v := 16) (pc2 := 118) dX8_mark_116 (by decide) ?_
                  refine V_ishl (pc2 := 119) dX8_mark_118 ?_
                  refine V_bipush (v := 16) (pc2 := 121) dX8_mark_119 (by decide) ?_
                  refine V_ishr (pc2 := 122) dX8_mark_121 ?_
                  refine V_goto (tgt := 126) dX8_mark_122 ?_
                  have e1 := inj1 h
                  subst e1
                  exact V_lv hJ126 [] rfl
              · replace h := iF c90 h
                refine V_ldc (v := -1000000001) (pc2 := 95) dX8_mark_93 wconstant_8_72 ?_
                obtain ⟨e1, e2⟩ := inj2 h
                subst e1
                subst e2
                exact V_iret dX8_mark_95 rfl ⟨rfl, rfl⟩
        · replace h := iT c51 h
          refine V_iload_n (pc2 := 55) dX8_mark_54 3 rfl rfl ?_
          refine V_ldc (v := -1000000005) (pc2 := 57) dX8_mark_55 wconstant_8_64 ?_
          refine V_icmp_ne (pc2 := 60) (tgt := 63) dX8_mark_57 (fun c57 => ?_) (fun c57 => ?_)
          · replace h := iF c57 h
            refine V_aload_n (pc2 := 64) dX8_mark_63 0 rfl rfl ?_
            obtain ⟨r27, e_r27, h⟩ := bS h
            refine V_gR (pc2 := 67) e_r27 dX8_mark_64 wF_8_19 ?_
            refine V_iload_n (pc2 := 68) dX8_mark_67 1 rfl rfl ?_
            obtain ⟨x28, e_x28, h⟩ := bS h
            refine V_ldI (pc2 := 69) e_x28 dX8_mark_68 ?_
            refine V_iconst (v := 1) (pc2 := 70) dX8_mark_69 (by decide) ?_
            refine V_icmp_ne (pc2 := 73) (tgt := 96) dX8_mark_70 (fun c70 => ?_) (fun c70 => ?_)
            · replace h := iF c70 h
              refine V_aload_n (pc2 := 97) dX8_mark_96 0 rfl rfl ?_
              obtain ⟨r29, e_r29, h⟩ := bS h
              refine V_gR (pc2 := 100) e_r29 dX8_mark_97 wF_8_25 ?_
              refine V_bipush (v := 24) (pc2 := 102) dX8_mark_100 (by decide) ?_
              refine V_iload_n (pc2 := 103) dX8_mark_102 1 rfl rfl ?_
              refine V_imul (pc2 := 104) dX8_mark_103 ?_
              refine V_iload_n (pc2 := 105) dX8_mark_104 2 rfl rfl ?_
              refine V_iadd (pc2 := 106) dX8_mark_105 ?_
              refine V_aload_n (pc2 := 107) dX8_mark_106 0 rfl rfl ?_
              obtain ⟨r30, e_r30, h⟩ := bS h
              refine V_gR (pc2 := 110) e_r30 dX8_mark_107 wF_8_19 ?_
              refine V_iload_n (pc2 := 111) dX8_mark_110 1 rfl rfl ?_
              obtain ⟨x31, e_x31, h⟩ := bS h
              refine V_ldI (pc2 := 112) e_x31 dX8_mark_111 ?_
              obtain ⟨y32, hb, h⟩ := bS h
              have hJ126 : V D 2 IX8_mark 126 [] [.int y32, .int (((24 : Int32) * p0) + p1), .ref r29] m 0 0 (Qi rR mR) := by
                obtain ⟨m33, e_m33, h⟩ := bS h
                refine V_stI (pc2 := 127) e_m33 dX8_mark_126 ?_
                refine V_iconst (v := 1) (pc2 := 128) dX8_mark_127 (by decide) ?_
                obtain ⟨e1, e2⟩ := inj2 h
                subst e1
                subst e2
                exact V_iret dX8_mark_128 rfl ⟨rfl, rfl⟩
              clear h
              have h := hb
              clear hb
              refine V_if_ne (pc2 := 115) (tgt := 125) dX8_mark_112 (fun c112 => ?_) (fun c112 => ?_)
              · replace h := iF c112 h
                refine V_iload_n (pc2 := 126) dX8_mark_125 3 rfl rfl ?_
                have e1 := inj1 h
                subst e1
                exact V_lv hJ126 [] rfl
              · replace h := iT c112 h
                refine V_iload_n (pc2 := 116) dX8_mark_115 3 rfl rfl ?_
                refine V_bipush (v := 16) (pc2 := 118) dX8_mark_116 (by decide) ?_
                refine V_ishl (pc2 := 119) dX8_mark_118 ?_
                refine V_bipush (v := 16) (pc2 := 121) dX8_mark_119 (by decide) ?_
                refine V_ishr (pc2 := 122) dX8_mark_121 ?_
                refine V_goto (tgt := 126) dX8_mark_122 ?_
                have e1 := inj1 h
                subst e1
                exact V_lv hJ126 [] rfl
            · replace h := iT c70 h
              refine V_iload_n (pc2 := 74) dX8_mark_73 3 rfl rfl ?_
              refine V_ldc (v := -1000000005) (pc2 := 76) dX8_mark_74 wconstant_8_64 ?_
              refine V_icmp_eq (pc2 := 79) (tgt := 96) dX8_mark_76 (fun c76 => ?_) (fun c76 => ?_)
              · replace h := iT c76 h
                refine V_aload_n (pc2 := 97) dX8_mark_96 0 rfl rfl ?_
                obtain ⟨r34, e_r34, h⟩ := bS h
                refine V_gR (pc2 := 100) e_r34 dX8_mark_97 wF_8_25 ?_
                refine V_bipush (v := 24) (pc2 := 102) dX8_mark_100 (by decide) ?_
                refine V_iload_n (pc2 := 103) dX8_mark_102 1 rfl rfl ?_
                refine V_imul (pc2 := 104) dX8_mark_103 ?_
                refine V_iload_n (pc2 := 105) dX8_mark_104 2 rfl rfl ?_
                refine V_iadd (pc2 := 106) dX8_mark_105 ?_
                refine V_aload_n (pc2 := 107) dX8_mark_106 0 rfl rfl ?_
                obtain ⟨r35, e_r35, h⟩ := bS h
                refine V_gR (pc2 := 110) e_r35 dX8_mark_107 wF_8_19 ?_
                refine V_iload_n (pc2 := 111) dX8_mark_110 1 rfl rfl ?_
                obtain ⟨x36, e_x36, h⟩ := bS h
                refine V_ldI (pc2 := 112) e_x36 dX8_mark_111 ?_
                obtain ⟨y37, hb, h⟩ := bS h
                have hJ126 : V D 2 IX8_mark 126 [] [.int y37, .int (((24 : Int32) * p0) + p1), .ref r34] m 0 0 (Qi rR mR) := by
                  obtain ⟨m38, e_m38, h⟩ := bS h
                  refine V_stI (pc2 := 127) e_m38 dX8_mark_126 ?_
                  refine V_iconst (v := 1) (pc2 := 128) dX8_mark_127 (by decide) ?_
                  obtain ⟨e1, e2⟩ := inj2 h
                  subst e1
                  subst e2
                  exact V_iret dX8_mark_128 rfl ⟨rfl, rfl⟩
                clear h
                have h := hb
                clear hb
                refine V_if_ne (pc2 := 115) (tgt := 125) dX8_mark_112 (fun c112 => ?_) (fun c112 => ?_)
                · replace h := iF c112 h
                  refine V_iload_n (pc2 := 126) dX8_mark_125 3 rfl rfl ?_
                  have e1 := inj1 h
                  subst e1
                  exact V_lv hJ126 [] rfl
                · replace h := iT c112 h
                  refine V_iload_n (pc2 := 116) dX8_mark_115 3 rfl rfl ?_
                  refine V_bipush (v := 16) (pc2 := 118) dX8_mark_116 (by decide) ?_
                  refine V_ishl (pc2 := 119) dX8_mark_118 ?_
                  refine V_bipush (v := 16) (pc2 := 121) dX8_mark_119 (by decide) ?_
                  refine V_ishr (pc2 := 122) dX8_mark_121 ?_
                  refine V_goto (tgt := 126) dX8_mark_122 ?_
                  have e1 := inj1 h
                  subst e1
                  exact V_lv hJ126 [] rfl
              · replace h := iF c76 h
                refine V_iload_n (pc2 := 80) dX8_mark_79 3 rfl rfl ?_
                refine V_i2l (pc2 := 81) dX8_mark_80 rfl ?_
                refine V_ldc2 (v := -99999) (pc2 := 84) dX8_mark_81 wconstantLong_8_303 ?_
                refine V_ldc2 (v := 99999) (pc2 := 87) dX8_mark_84 wconstantLong_8_305 ?_
                obtain ⟨b39, e_b39, h⟩ := bS h
                refine V_cSi (pc2 := 90) [.long p2.toInt64, .long (-99999 : Int64), .long (99999 : Int64)] (st := []) (tX8_isIn e_b39) dX8_mark_87 wS_8_65 (by decide) rfl (Nat.le_of_ble_eq_true rfl) ?_
                refine V_ifb_ne (pc2 := 93) (tgt := 96) dX8_mark_90 (fun c90 => ?_) (fun c90 => ?_)
                · replace h := iT c90 h
                  refine V_aload_n (pc2 := 97) dX8_mark_96 0 rfl rfl ?_
                  obtain ⟨r40, e_r40, h⟩ := bS h
                  refine V_gR (pc2 := 100) e_r40 dX8_mark_97 wF_8_25 ?_
                  refine V_bipush (v := 24) (pc2 := 102) dX8_mark_100 (by decide) ?_
                  refine V_iload_n (pc2 := 103) dX8_mark_102 1 rfl rfl ?_
                  refine V_imul (pc2 := 104) dX8_mark_103 ?_
                  refine V_iload_n (pc2 := 105) dX8_mark_104 2 rfl rfl ?_
                  refine V_iadd (pc2 := 106) dX8_mark_105 ?_
                  refine V_aload_n (pc2 := 107) dX8_mark_106 0 rfl rfl ?_
                  obtain ⟨r41, e_r41, h⟩ := bS h
                  refine V_gR (pc2 := 110) e_r41 dX8_mark_107 wF_8_19 ?_
                  refine V_iload_n (pc2 := 111) dX8_mark_110 1 rfl rfl ?_
                  obtain ⟨x42, e_x42, h⟩ := bS h
                  refine V_ldI (pc2 := 112) e_x42 dX8_mark_111 ?_
                  obtain ⟨y43, hb, h⟩ := bS h
                  have hJ126 : V D 2 IX8_mark 126 [] [.int y43, .int (((24 : Int32) * p0) + p1), .ref r40] m 0 0 (Qi rR mR) := by
                    obtain ⟨m44, e_m44, h⟩ := bS h
                    refine V_stI (pc2 := 127) e_m44 dX8_mark_126 ?_
                    refine V_iconst (v := 1) (pc2 := 128) dX8_mark_127 (by decide) ?_
                    obtain ⟨e1, e2⟩ := inj2 h
                    subst e1
                    subst e2
                    exact V_iret dX8_mark_128 rfl ⟨rfl, rfl⟩
                  clear h
                  have h := hb
                  clear hb
                  refine V_if_ne (pc2 := 115) (tgt := 125) dX8_mark_112 (fun c112 => ?_) (fun c112 => ?_)
                  · replace h := iF c112 h
                    refine V_iload_n (pc2 := 126) dX8_mark_125 3 rfl rfl ?_
                    have e1 := inj1 h
                    subst e1
                    exact V_lv hJ126 [] rfl
                  · replace h := iT c112 h
                    refine V_iload_n (pc2 := 116) dX8_mark_115 3 rfl rfl ?_
                    refine V_bipush (v := 16) (pc2 := 118) dX8_mark_116 (by decide) ?_
                    refine V_ishl (pc2 := 119) dX8_mark_118 ?_
                    refine V_bipush (v := 16) (pc2 := 121) dX8_mark_119 (by decide) ?_
                    refine V_ishr (pc2 := 122) dX8_mark_121 ?_
                    refine V_goto (tgt := 126) dX8_mark_122 ?_
                    have e1 := inj1 h
                    subst e1
                    exact V_lv hJ126 [] rfl
                · replace h := iF c90 h
                  refine V_ldc (v := -1000000001) (pc2 := 95) dX8_mark_93 wconstant_8_72 ?_
                  obtain ⟨e1, e2⟩ := inj2 h
                  subst e1
                  subst e2
                  exact V_iret dX8_mark_95 rfl ⟨rfl, rfl⟩
          · replace h := iT c57 h
            refine V_ldc (v := -1000000012) (pc2 := 62) dX8_mark_60 wconstant_8_140 ?_
            obtain ⟨e1, e2⟩ := inj2 h
            subst e1
            subst e2
            exact V_iret dX8_mark_62 rfl ⟨rfl, rfl⟩
      · replace h := iF c38 h
        refine V_ldcw (v := -1000000013) (pc2 := 44) dX8_mark_41 wconstant_8_302 ?_
        obtain ⟨e1, e2⟩ := inj2 h
        subst e1
        subst e2
        exact V_iret dX8_mark_44 rfl ⟨rfl, rfl⟩
    · replace h := iF c16 h
      refine V_ldcw (v := -1000000011) (pc2 := 22) dX8_mark_19 wconstant_8_301 ?_
      obtain ⟨e1, e2⟩ := inj2 h
      subst e1
      subst e2
      exact V_iret dX8_mark_22 rfl ⟨rfl, rfl⟩
  · replace h := iF c4 h
    refine V_ldc (v := -1000000001) (pc2 := 9) dX8_mark_7 wconstant_8_72 ?_
    obtain ⟨e1, e2⟩ := inj2 h
    subst e1
    subst e2
    exact V_iret dX8_mark_9 rfl ⟨rfl, rfl⟩
