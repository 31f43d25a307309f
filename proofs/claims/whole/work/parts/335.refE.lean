/-! congruences -/
theorem dpS_cg {s u : Nat → Int32} {t : Nat} (h : ∀ j, 92 ≤ j → u j = s j) : ∀ k, dpS u t k = dpS s t k := by
  intro k
  induction k with
  | zero => rfl
  | succ k ih =>
    have e3 : whS u t k = whS s t k := h _ (by omega)
    have e4 : vlS u t k = vlS s t k := h _ (by omega)
    rw [dpS_s, dpS_s, ih, e3, e4]
theorem TxOK_cg {s u : Nat → Int32} {t : Nat} (h : ∀ j, 92 ≤ j → u j = s j) (hx : TxOK s t) : TxOK u t := by
  obtain ⟨h1, h2, h3, h4⟩ := hx
  have e1 : u (92 + 200 * t) = s (92 + 200 * t) := h _ (by omega)
  have e2 : u (94 + 200 * t) = s (94 + 200 * t) := h _ (by omega)
  refine ⟨by rw [e1]; exact h1, by rw [e2]; exact h2, fun k hk => ?_, ?_⟩
  · unfold stOK
    have e3 : whS u t k = whS s t k := h _ (by omega)
    have e4 : vlS u t k = vlS s t k := h _ (by omega)
    rw [e1, e3, e4, dpS_cg h]
    exact h3 k (by unfold cnS at hk ⊢; rw [e2] at hk; exact hk)
  · rw [dpS_cg h]; unfold cnS; rw [e2]; exact h4
theorem Wf_cg {s u : Nat → Int32} (h8 : ∀ j, j < 8 → u j = s j) (h12 : ∀ j, 12 ≤ j → u j = s j) (hw : Wf s) : Wf u := by
  obtain ⟨a0, a1, a2, a3, a4, a5, a6, a7, b1, b2, b3, b4⟩ := hw
  refine ⟨by rw [h8 0 (by omega)]; exact a0, by rw [h8 1 (by omega)]; exact a1, by rw [h8 2 (by omega)]; exact a2, by rw [h8 3 (by omega)]; exact a3, by rw [h8 4 (by omega)]; exact a4, by rw [h8 5 (by omega)]; exact a5, by rw [h8 6 (by omega), h8 0 (by omega)]; exact a6, by rw [h8 7 (by omega)]; exact a7, fun c hc => ?_, fun k hk => ?_, fun p hp => ?_, fun t ht => ?_⟩
  · rw [h8 0 (by omega)] at hc
    rw [h12 _ (by omega), h12 _ (by omega), h12 _ (by omega)]
    exact b1 c hc
  · rw [h8 1 (by omega)] at hk
    rw [h12 _ (by omega), h12 _ (by omega), h12 _ (by omega)]
    exact b2 k hk
  · rw [h8 2 (by omega)] at hp
    rw [h12 _ (by omega)]
    exact b3 p hp
  · rw [h8 3 (by omega)] at ht
    exact TxOK_cg (fun j hj => h12 j (by omega)) (b4 t ht)
theorem cntS_cg {s u : Nat → Int32} : ∀ {n : Nat}, (∀ c, c < n → u (14 + 3 * c) = s (14 + 3 * c)) → cntS u n = cntS s n := by
  intro n
  induction n with
  | zero => intro _; rfl
  | succ n ih =>
    intro h
    rw [cntS_s, cntS_s, ih (fun c hc => h c (by omega))]
    unfold inS
    rw [h n (by omega)]
theorem drwO_in (z : Int32) : ∃ j, drwO z = nI j ∧ j < 2 ^ 24 := by
  have h := pk_ushr z 8 8 (by decide)
  refine ⟨z.toBitVec.toNat / 2 ^ 8, ?_, ?_⟩
  · apply Int32.toBitVec_inj.mp
    apply BitVec.eq_of_toNat_eq
    have e : (drwO z).toBitVec.toNat = z.toBitVec.toNat / 2 ^ 8 := h
    rw [e, pk_tn (by have := z.toBitVec.isLt; omega)]
  · have := z.toBitVec.isLt
    omega
theorem turnS_f {s : Nat → Int32} (h : ¬ goS s = true) : turnS s = (-1, upd s 4 (s 4 + 1)) := by unfold turnS; rw [if_neg h]
theorem turnS_t {s : Nat → Int32} (h : goS s = true) : turnS s =
    (nI (goesS (if isLotS s (stopS s) then upd s 11 (drwS (s 11)) else s) (stopS s) (if isLotS s (stopS s) then nI ((drwO (drwS (s 11))).toNatClampNeg % 10) else 0)),
     give (if isLotS s (stopS s) then upd s 11 (drwS (s 11)) else s) (goesS (if isLotS s (stopS s) then upd s 11 (drwS (s 11)) else s) (stopS s) (if isLotS s (stopS s) then nI ((drwO (drwS (s 11))).toNatClampNeg % 10) else 0)) (lastS (if isLotS s (stopS s) then upd s 11 (drwS (s 11)) else s) (stopS s) (if isLotS s (stopS s) then nI ((drwO (drwS (s 11))).toNatClampNeg % 10) else 0))) := by unfold turnS; rw [if_pos h]
section RE
variable {nd : Nat → Option Nat} {ad : Nat → Nat} {fi : Nat → Int32} {fa : Nat → Nat → Int32}
theorem R_goes (hL : Lay nd ad KR) (hw : Wf (fa 0)) : fX8_goes (ad 31) (MR nd ad fi fa) = some (goS (fa 0)) := by
  obtain ⟨n, h1, h2, h3⟩ := hw.n1
  obtain ⟨n0, g1, g2, g3⟩ := hw.n0
  have hcm : manyS (fa 0) ≤ 10 := by
    have : ∀ n, cntS (fa 0) n ≤ n := by
      intro n
      induction n with
      | zero => exact Nat.le_refl 0
      | succ n ih => rw [cntS_s]; split <;> omega
    have := this (nt (fa 0 0))
    unfold manyS; omega
  unfold fX8_goes goS
  simp only [rg0 hL, rk1 hL, rcv hL, R_many hL hw, Option.bind_some, h1]
  rw [nt_nI (by omega)]
  by_cases h : 0 < n
  · rw [if_neg (nI_nle h (by omega))]
    by_cases hm : 0 < manyS (fa 0)
    · rw [if_neg (nI_nle hm (by omega))]; simp [h, hm]
    · have : manyS (fa 0) = 0 := by omega
      rw [this]; simp [nI_0]
  · have : n = 0 := by omega
    subst this
    simp [nI_0]
theorem manyS_le {s : Nat → Int32} (hw : Wf s) : manyS s ≤ 10 := by
  obtain ⟨n0, g1, g2, g3⟩ := hw.n0
  have : ∀ n, cntS s n ≤ n := by
    intro n
    induction n with
    | zero => exact Nat.le_refl 0
    | succ n ih => rw [cntS_s]; split <;> omega
  have := this (nt (s 0))
  unfold manyS; omega
theorem R_drawn (hL : Lay nd ad KR) : fX8_drawn (ad 31) (MR nd ad fi fa) = some (drwO (drwS (fa 0 11)), MR nd ad fi (upF fa 0 (upd (fa 0) 11 (drwS (fa 0 11))))) := by
  unfold fX8_drawn
  simp only [rg0 hL, rk11 hL, Option.bind_some, wk11 hL, upF_s, upd_s]
  rfl
/-- the part of a turn behind the draw -/
theorem R_turn1 (hL : Lay nd ad KR) (hw : Wf (fa 0)) (hm : 0 < manyS (fa 0)) {k x : Nat} {v : Int32} (hv : v = nI x) (hk : k < nt (fa 0 1)) (hx : x ≤ 9) : ∃ fb, ((cV (MR nd ad fi fa) (ad 31) 8 (fX8_goesTo (ad 31) (nI k) v (MR nd ad fi fa))).bind fun (x9, m10) =>
    (cV m10 (ad 31) 8 (fX8_sortNow (ad 31) m10)).bind fun x11 =>
    (gR m10 (ad 31) 8 0).bind fun r12 =>
    (ldI m10 r12 (7 : Int32)).bind fun x13 =>
    (
      if x13 = (1 : Int32) then
        (cV m10 (ad 31) 8 (fX8_many (ad 31) m10)).bind fun x14 =>
        if x14 ≤ (2 : Int32) then
          some (0 : Int32)
        else
          some (1 : Int32)
      else
        some (0 : Int32)).bind fun y15 =>
    (gR m10 (ad 31) 8 0).bind fun r16 =>
    (ldI m10 r16 (8 : Int32)).bind fun x17 =>
    (cV m10 (ad 31) 8 (fX8_lasts (ad 31) (nI k) v m10)).bind fun (x18, m19) =>
    (stI m19 r16 (8 : Int32) (x17 + x18)).bind fun m20 =>
    (gR m20 (ad 31) 8 0).bind fun r21 =>
    (gR m20 (ad 31) 8 0).bind fun r22 =>
    (ldI m20 r22 (((12 : Int32) + ((3 : Int32) * x9)) + (1 : Int32))).bind fun x23 =>
    (fX8_held (x23 + (1 : Int32)) (0 : Int32) (99 : Int32) m20).bind fun x24 =>
    (stI m20 r21 (((12 : Int32) + ((3 : Int32) * x9)) + (1 : Int32)) x24).bind fun m25 =>
    (gR m25 (ad 31) 8 0).bind fun r26 =>
    (stI m25 r26 (6 : Int32) x9).bind fun m27 =>
    (gR m27 (ad 31) 8 0).bind fun r28 =>
    (ldI m27 r28 (9 : Int32)).bind fun x29 =>
    (
      if x11 = (1 : Int32) then
        some (1 : Int32)
      else
        some (0 : Int32)).bind fun y30 =>
    (stI m27 r28 (9 : Int32) (x29 + y30)).bind fun m31 =>
    (gR m31 (ad 31) 8 0).bind fun r32 =>
    (ldI m31 r32 (10 : Int32)).bind fun x33 =>
    (
      if x11 = (2 : Int32) then
        some (1 : Int32)
      else
        some (0 : Int32)).bind fun y34 =>
    (stI m31 r32 (10 : Int32) (x33 + y34)).bind fun m35 =>
    (gR m35 (ad 31) 8 0).bind fun r36 =>
    (
      if x11 = (2 : Int32) then
        (gR m35 (ad 31) 8 0).bind fun r39 =>
        (ldI m35 r39 (5 : Int32)).bind fun x40 =>
        some ((1 : Int32) - x40)
      else
        (gR m35 (ad 31) 8 0).bind fun r37 =>
        (ldI m35 r37 (5 : Int32)).bind fun x38 =>
        some x38).bind fun y41 =>
    (stI m35 r36 (5 : Int32) y41).bind fun m42 =>
    (gR m42 (ad 31) 8 0).bind fun r43 =>
    (
      if y15 = 0 then
        some (0 : Int32)
      else
        some (1 : Int32)).bind fun y44 =>
    (stI m42 r43 (((12 : Int32) + ((3 : Int32) * x9)) + (2 : Int32)) y44).bind fun m45 =>
    (gR m45 (ad 31) 8 0).bind fun r46 =>
    (ldI m45 r46 (4 : Int32)).bind fun x47 =>
    (stI m45 r46 (4 : Int32) (x47 + (1 : Int32))).bind fun m48 =>
    some (x9, m48)) = some (nI (goesS (fa 0) k v), MR nd ad fi fb) ∧ Sc (upF fa 0 (give (fa 0) (goesS (fa 0) k v) (lastS (fa 0) k v))) fb := by
  subst hv
  obtain ⟨fb, e1, e2⟩ := R_goesTo (fi := fi) hL hw hm hk hx
  have hz := e2.z
  obtain ⟨fc, e3, e4⟩ := R_lasts (fi := fi) (fa := fb) hL (by rw [hz]; exact hw) (by rw [hz]; exact hk) (nI x)
  have hz2 := (e2.tr e4).z
  rw [hz] at e3
  have hgi : goesS (fa 0) k (nI x) < 1000 := by
    obtain ⟨n0, g1, g2, g3⟩ := hw.n0
    obtain ⟨hl1, hl2⟩ := landS_in hw hm (nt (lastS (fa 0) k (nI x)))
    unfold goesS goesC
    split
    · have := (evenS_in hl1 hl2).1; omega
    · split
      · obtain ⟨d, t1, t2, t3⟩ := nx_some hl1 hl1 hl2
        rw [t1]; show d < 1000; omega
      · split
        · split
          · next h => omega
          · have := (evenS_in hl1 hl2).1; omega
        · omega
  generalize goesS (fa 0) k (nI x) = c at *
  have hso := R_sortNow (fi := fi) (fa := fb) hL (by rw [hz]; exact hw)
  have hmn := R_many (fi := fi) (fa := fb) hL (by rw [hz]; exact hw)
  rw [hz] at hso hmn
  have hy : (if fa 0 7 = 1 then (if nI (manyS (fa 0)) ≤ 2 then some (0 : Int32) else some 1) else some 0) = some (if fa 0 7 = 1 ∧ 2 < manyS (fa 0) then 1 else 0) := by
    have := manyS_le hw
    by_cases h7 : fa 0 7 = 1
    · rw [if_pos h7]
      by_cases hm2 : 2 < manyS (fa 0)
      · rw [if_neg (show ¬ nI (manyS (fa 0)) ≤ 2 from nI_ge (b := manyS (fa 0)) (a := 2) hm2 (by omega)), if_pos ⟨h7, hm2⟩]
      · rw [if_pos (show nI (manyS (fa 0)) ≤ 2 from nI_le (b := 2) (a := manyS (fa 0)) (by omega) (by omega)), if_neg (fun z => hm2 z.2)]
    · rw [if_neg h7, if_neg (fun z => h7 z.1)]
  have hy2 : (if (if fa 0 7 = 1 ∧ 2 < manyS (fa 0) then (1 : Int32) else 0) = 0 then some (0 : Int32) else some 1) = some (if fa 0 7 = 1 ∧ 2 < manyS (fa 0) then 1 else 0) := by
    split <;> rfl
  simp only [rcv hL, e1, Option.bind_some, hso, rg0 hL, rk7 hL, hz, hmn, hy, rk8 hL, e3, wk8 hL, hz2]
  simp only [ix12, ixp1, ixp2]
  rw [rl0 hL (by omega)]
  simp only [Option.bind_some, R_held, upF_s]
  rw [rs0 hL (by omega)]
  simp only [Option.bind_some, rg0 hL, upF_s, upF_2, wk6 hL, rk9 hL, ite_some, wk9 hL, rk10 hL, wk10 hL, rk5 hL, wk5 hL, hy2]
  rw [rs0 hL (by omega)]
  simp only [Option.bind_some, rg0 hL, upF_s, upF_2, rk4 hL, wk4 hL]
  refine ⟨_, rfl, ?_⟩
  intro j h25 h26
  by_cases hj : j = 0
  · subst hj
    rw [upF_s, upF_s]
    unfold give
    rw [show 12 + 3 * c + 1 = 13 + 3 * c by omega, show 12 + 3 * c + 2 = 14 + 3 * c by omega]
  · rw [upF_n hj, upF_n hj]
    exact (e2.tr e4) j h25 h26
theorem R_turn (hL : Lay nd ad KR) (hw : Wf (fa 0)) : ∃ fb, fX8_turn (ad 31) (MR nd ad fi fa) = some ((turnS (fa 0)).1, MR nd ad fi fb) ∧ Sc (upF fa 0 (turnS (fa 0)).2) fb := by
  obtain ⟨n, h1, h2, h3⟩ := hw.n1
  obtain ⟨tk, g1, g2, g3⟩ := hw.n4
  unfold fX8_turn
  simp only [rcv hL, R_goes hL hw, Option.bind_some]
  by_cases hg : goS (fa 0) = true
  · have hg2 : 0 < nt (fa 0 1) ∧ 0 < manyS (fa 0) := by simpa [goS] using hg
    have hstop : fX8_stopNow (ad 31) (MR nd ad fi fa) = some (nI (stopS (fa 0))) := by
      unfold fX8_stopNow stopS
      simp only [rg0 hL, rk4 hL, rk1 hL, Option.bind_some, h1, g1]
      rw [nt_nI (by omega), nt_nI (by omega), rmI_nI (by omega) (by omega) (by omega)]
      rfl
    have hk : stopS (fa 0) < nt (fa 0 1) := Nat.mod_lt _ hg2.1
    rw [if_pos hg, turnS_t hg]
    simp only [hstop, Option.bind_some, R_isLot hL (show stopS (fa 0) < 1000 by omega)]
    by_cases hl : isLotS (fa 0) (stopS (fa 0)) = true
    · simp only [if_pos hl, R_drawn hL, Option.bind_some]
      obtain ⟨j, j1, j2⟩ := drwO_in (drwS (fa 0 11))
      have hr : rmI (nI j) 10 = some (nI (j % 10)) := rmI_nI (d := 10) (by omega) (by omega) (by omega)
      rw [j1, hr]
      simp only [Option.bind_some, nI_clamp (show j < 2 ^ 31 by omega)]
      have hw1 : Wf (upd (fa 0) 11 (drwS (fa 0 11))) := Wf_cg (fun i hi => upd_n (by omega)) (fun i hi => upd_n (by omega)) hw
      have hm1 : 0 < manyS (upd (fa 0) 11 (drwS (fa 0 11))) := by
        unfold manyS
        rw [upd_n (by decide), cntS_cg (fun c _ => upd_n (by omega))]
        exact hg2.2
      obtain ⟨fb, e1, e2⟩ := R_turn1 (fi := fi) (fa := upF fa 0 (upd (fa 0) 11 (drwS (fa 0 11)))) (k := stopS (fa 0)) (x := j % 10) (v := nI (j % 10)) (hv := rfl) hL (by rw [upF_s]; exact hw1) (by rw [upF_s]; exact hm1) (by rw [upF_s, upd_n (by decide)]; exact hk) (by have := Nat.mod_lt j (show 0 < 10 by decide); omega)
      simp only [upF_s, upF_2] at e1 e2
      exact ⟨fb, e1, e2⟩
    · simp only [if_neg hl, Option.bind_some]
      obtain ⟨fb, e1, e2⟩ := R_turn1 (fi := fi) (k := stopS (fa 0)) (x := 0) (v := 0) (hv := rfl) hL hw hg2.2 hk (by omega)
      exact ⟨fb, e1, e2⟩
  · rw [if_neg hg, turnS_f hg]
    simp only [rg0 hL, rk4 hL, wk4 hL, Option.bind_some]
    exact ⟨_, rfl, Sc.rf⟩
end RE
