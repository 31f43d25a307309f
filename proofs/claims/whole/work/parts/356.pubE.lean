section PE1
variable {nT B : Nat} {nd nd2 : Nat → Option Nat} {c : Nat → pE} {ad ad2 tx : Nat → Nat} {fi : Nat → Int32} {fa : Nat → Nat → Int32} {s : Nat → Int32}
theorem L_fine (hL : Lay nd ad (KC nT)) (hR : Lay nd2 ad2 KR) (h : Inv nT c ad fi fa) (x : Int32) : Sim nT nd nd2 ad ad2 c fi fa (fX7_fine (ad 0) x) (fX8_fine (ad2 31) x) := by
  obtain ⟨tx, r, w, h4⟩ := h.n
  have hC : fX2_isChild (ad 100) x (MM nd c) = some (chQ (fa 0) x) := C_isChild hL B1 r x
  cases hx : chQ (fa 0) x with
  | false =>
    refine Sim.same (r := -1000000001) h ?_ ?_
    · simp only [fX7_fine, o_n hL h.1, cv_R hL B1 r, hC, hx, Option.bind_some, Bool.false_eq_true, if_false]
    · simp only [fX8_fine, rcv hR, R_isC hR w, hx, Option.bind_some, Bool.false_eq_true, if_false]
  | true =>
    obtain ⟨i, i1, i2, i3⟩ := chQ_t w hx
    subst i1
    obtain ⟨e, p1, p2⟩ := C_fineOf hL B1 r w i2
    obtain ⟨fb, q1, q2⟩ := R_fine (fi := fi) hR w i2
    refine Sim.scr (r := fnS (fa 0) i) h ?_ q1 p2 q2.z (SX.sc q2)
    simp only [fX7_fine, o_n hL h.1, cv_R hL B1 r, hC, hx, Option.bind_some, if_true, cr_1 hL B1 r, cl_ch hL B1 r i3, p1]
theorem L_why (hL : Lay nd ad (KC nT)) (hR : Lay nd2 ad2 KR) (h : Inv nT c ad fi fa) (x : Int32) : Sim0 nd nd2 ad2 c fi fa (fX7_why (ad 0) x) (fX8_why (ad2 31) x) := by
  obtain ⟨tx, r, w, h4⟩ := h.n
  by_cases hx : 0 ≤ x ∧ x ≤ 2
  · obtain ⟨j, j1, -, j3⟩ := bt (a := 0) (b := 2) hx (by omega) (by omega)
    refine ⟨if 0 ≤ oI (lawS (fa 0) x) then oI (lawS (fa 0) x) else -1000000005, ?_, ?_⟩
    · simp only [fX7_why, C_within, decide_eq_true hx, Option.bind_some, if_true, o_n hL h.1, cr_5 hL B1 r]
      rw [j1, cl_lw hL B1 r (by omega)]
      simp only [Option.bind_some, fX7_orNone, ite_some]
    · simp only [fX8_why, isIn_t k64_0 k64_2, decide_eq_true hx, Option.bind_some, if_true, rcv hR, R_counts hR w, fX8_orNone, ite_some]
  · refine ⟨-1000000001, ?_, ?_⟩
    · simp only [fX7_why, C_within, decide_eq_false hx, Option.bind_some, Bool.false_eq_true, if_false]
    · simp only [fX8_why, isIn_t k64_0 k64_2, decide_eq_false hx, Option.bind_some, Bool.false_eq_true, if_false]
theorem L_textTold (hL : Lay nd ad (KC nT)) (hR : Lay nd2 ad2 KR) (h : Inv nT c ad fi fa) (x a : Int32) : Sim0 nd nd2 ad2 c fi fa (fX7_textTold (ad 0) x a) (fX8_textTold (ad2 31) x a) := by
  obtain ⟨tx, r, w, h4⟩ := h.n
  obtain ⟨n, n1, n2, n3⟩ := w.n3
  by_cases hx : 0 ≤ x ∧ x ≤ fa 0 3 - 1
  · by_cases ha : 0 ≤ a ∧ a ≤ 1
    · have hx2 := hx
      rw [n1] at hx2
      obtain ⟨j, j1, j2⟩ := bt_pred hx2 (by omega)
      have hj : j < nt (fa 0 3) := by omega
      obtain ⟨t1, t2⟩ := C_txt hL r hj
      have k0 : KC nT (1000 + 3 * tx j) := KC_tx (i := 0) t1 (by decide)
      have g0 : gI (MM nd c) (ad (1000 + 3 * tx j)) 6 0 = some (fa 0 (92 + 200 * j)) := gI_MM hL k0 t2.1 rfl
      have g1 : gI (MM nd c) (ad (1000 + 3 * tx j)) 6 1 = some (fa 0 (93 + 200 * j)) := gI_MM hL k0 t2.1 rfl
      refine ⟨if a = 0 then fa 0 (92 + 200 * j) else fa 0 (93 + 200 * j), ?_, ?_⟩
      · simp only [fX7_textTold, o_n hL h.1, cg_tn hL B1 r, C_within, decide_eq_true hx, decide_eq_true ha, Option.bind_some, if_true, cr_4 hL B1 r]
        rw [j1, cl_tx hL B1 r hj (by omega)]
        simp only [Option.bind_some, g0, g1, ite_some]
      · simp only [fX8_textTold, rcv hR, R_isText hR, decide_eq_true hx, isIn_t k64_0 k64_1, decide_eq_true ha, Option.bind_some, if_true, rg0 hR, fX8_textAt]
        rw [j1, ix92]
        rcases bt01 ha with e | e <;> subst e
        · rw [show nI (92 + 200 * j) + 0 = nI (92 + 200 * j) from nI_add _ 0, rl0 hR (by omega)]
          rfl
        · rw [ixp1, rl0 hR (by omega), if_neg (by decide), show 92 + 200 * j + 1 = 93 + 200 * j by omega]
          rfl
    · refine ⟨-1000000001, ?_, ?_⟩
      · simp only [fX7_textTold, o_n hL h.1, cg_tn hL B1 r, C_within, decide_eq_true hx, decide_eq_false ha, Option.bind_some, if_true, Bool.false_eq_true, if_false]
      · simp only [fX8_textTold, rcv hR, R_isText hR, decide_eq_true hx, isIn_t k64_0 k64_1, decide_eq_false ha, Option.bind_some, if_true, Bool.false_eq_true, if_false]
  · refine ⟨-1000000001, ?_, ?_⟩
    · simp only [fX7_textTold, o_n hL h.1, cg_tn hL B1 r, C_within, decide_eq_false hx, Option.bind_some, Bool.false_eq_true, if_false]
    · simp only [fX8_textTold, rcv hR, R_isText hR, decide_eq_false hx, Option.bind_some, Bool.false_eq_true, if_false]
theorem L_count (hL : Lay nd ad (KC nT)) (hR : Lay nd2 ad2 KR) (h : Inv nT c ad fi fa) (x : Int32) : Sim0 nd nd2 ad2 c fi fa (fX7_count (ad 0) x) (fX8_count (ad2 31) x) := by
  obtain ⟨tx, r, w, h4⟩ := h.n
  obtain ⟨⟨t, f, u, ft, ky, lv, sc, hrd⟩, -⟩ := h.1.2.1
  have hr : gI (MM nd c) (ad 400) 1 1 = some (fi 14) := gI_MM hL (by unfold KC; omega) hrd rfl
  unfold fX7_count fX8_count Sim0
  simp only [o_n hL h.1, cg_n hL B1 r, cv_R hL B1 r, C_inCount hL B1 r w, cg_sn hL B1 r, cg_pn hL B1 r, cg_4 hL B1 r, cg_5 hL B1 r, cg_6 hL B1 r, cg_7 hL B1 r, cg_8 hL B1 r, cg_9 hL B1 r, cg_10 hL B1 r, cg_11 hL B1 r, cg_tn hL B1 r, C_spread hL B1 r w, o_ws hL h.1, o_r hL h.1, hr, Option.bind_some, rg0 hR, rk0 hR, rk1 hR, rk2 hR, rk3 hR, rk4 hR, rk5 hR, rk6 hR, rk7 hR, rk8 hR, rk9 hR, rk10 hR, rk11 hR, rg14 hR, rg29 hR, rcv hR, R_many hR w, R_spread hR w, ite_some]
  exact ⟨_, rfl, rfl⟩
theorem L_round (hL : Lay nd ad (KC nT)) (hR : Lay nd2 ad2 KR) (h : Inv nT c ad fi fa) : Sim nT nd nd2 ad ad2 c fi fa (fX7_round (ad 0)) (fX8_round (ad2 31)) := by
  obtain ⟨tx, r, w, h4⟩ := h.n
  obtain ⟨e, p1, p2, -⟩ := C_measureRound hL B1 r w
  obtain ⟨fb, q1, q2⟩ := R_roundOf (fi := fi) hR w
  refine Sim.scr (r := nI (rndS (fa 0))) h ?_ ?_ p2 q2.z (SX.sc q2)
  · simp only [fX7_round, o_n hL h.1, cv_R hL B1 r, p1, Option.bind_some]
  · simp only [fX8_round, rcv hR, q1, Option.bind_some]
theorem L_lands (hL : Lay nd ad (KC nT)) (hR : Lay nd2 ad2 KR) (h : Inv nT c ad fi fa) (x : Int32) : Sim nT nd nd2 ad ad2 c fi fa (fX7_lands (ad 0) x) (fX8_lands (ad2 31) x) := by
  obtain ⟨tx, r, w, h4⟩ := h.n
  by_cases hx : 0 ≤ x ∧ x ≤ 9999
  · obtain ⟨j, j1, -, j3⟩ := bt (a := 0) (b := 9999) hx (by omega) (by omega)
    obtain ⟨e, p1, p2, g, p3, p4⟩ := C_measureRound hL B1 r w
    have r2 := r.sc B1 p2
    have p5 := C_landsBehind hL B1 r2 w p3 p4 (sec := j) (by omega)
    have hm9 := manyS_le w
    by_cases hm : 0 < manyS (fa 0)
    · rw [if_pos hm] at p5
      obtain ⟨fb, q1, q2⟩ := R_landsAt (fi := fi) hR w hm (sec := j) (by omega)
      have hl := (landS_in w hm j).1
      obtain ⟨n, n1, n2, n3⟩ := w.n0
      refine Sim.scr (r := nI (landS (fa 0) j)) h ?_ ?_ p2 q2.z (SX.sc q2)
      · simp only [fX7_lands, C_within, decide_eq_true hx, Option.bind_some, if_true, o_n hL h.1, cv_R hL B1 r, p1, cv_R hL B1 r2]
        rw [j1, p5]
        simp only [Option.bind_some, fX7_orNone, if_pos (nI_pos' (show landS (fa 0) j < 2 ^ 31 by omega))]
      · simp only [fX8_lands, isIn_t k64_0 k64_9999, decide_eq_true hx, Option.bind_some, if_true, rcv hR, R_many hR w, if_neg (nI_ne0 hm (by omega))]
        rw [j1, q1]
        rfl
    · rw [if_neg hm] at p5
      refine Sim.scr (r := -1000000005) (fb := fa) h ?_ ?_ p2 rfl SX.rf
      · simp only [fX7_lands, C_within, decide_eq_true hx, Option.bind_some, if_true, o_n hL h.1, cv_R hL B1 r, p1, cv_R hL B1 r2]
        rw [j1, p5]
        rfl
      · simp only [fX8_lands, isIn_t k64_0 k64_9999, decide_eq_true hx, Option.bind_some, if_true, rcv hR, R_many hR w]
        rw [show manyS (fa 0) = 0 by omega]
        rfl
  · refine Sim.same (r := -1000000001) h ?_ ?_
    · simp only [fX7_lands, C_within, decide_eq_false hx, Option.bind_some, Bool.false_eq_true, if_false]
    · simp only [fX8_lands, isIn_t k64_0 k64_9999, decide_eq_false hx, Option.bind_some, Bool.false_eq_true, if_false]
theorem min_nI {a b : Nat} (ha : a < 2 ^ 31) (hb : b < 2 ^ 31) (m : Mem) : fJ9_min_7cf53 (nI a) (nI b) m = some (nI (min a b)) := by
  rw [min_le]
  by_cases h : a ≤ b
  · rw [if_pos (nI_le h hb), Nat.min_eq_left h]
  · rw [if_neg (nI_ge (by omega) ha), Nat.min_eq_right (by omega)]
theorem L_go (hL : Lay nd ad (KC nT)) (hR : Lay nd2 ad2 KR) (h : Inv nT c ad fi fa) (x : Int32) : Sim nT nd nd2 ad ad2 c fi fa (fX7_go (ad 0) x) (fX8_go (ad2 31) x) := by
  obtain ⟨tx, r, w, h4⟩ := h.n
  by_cases hx : 1 ≤ x ∧ x ≤ 100
  · obtain ⟨n, j1, j2, j3⟩ := bt (a := 1) (b := 100) hx (by omega) (by omega)
    obtain ⟨k, k1, k2, k3⟩ := w.n4
    have hN : min n (9999 - k) < 5000 ∧ min n (9999 - k) ≤ 9999 - k ∧ min n (9999 - k) ≤ n ∧ (n ≤ min n (9999 - k) ∨ k + min n (9999 - k) = 9999) := by
      rcases Nat.le_total n (9999 - k) with q | q
      · rw [Nat.min_eq_left q]; omega
      · rw [Nat.min_eq_right q]; omega
    generalize hNe : min n (9999 - k) = N at hN
    obtain ⟨m, a1, e, rfl, a2, a3⟩ := loop_rel (b := fX7_go_b0 (ad 0) (nI N)) (s := ((0 : Int32), MM nd c))
      (fun i st => ∃ e, st = (nI i, MM nd e) ∧ RingOK nT e ad 100 (itT i (fa 0)) tx ∧ ChB 100 c e)
      (fun m => ∃ e, m = MM nd e ∧ RingOK nT e ad 100 (itT N (fa 0)) tx ∧ ChB 100 c e) N (by omega) ⟨c, rfl, r, ChB.rf⟩ (by
        rintro i st hi ⟨e, rfl, hr, hq⟩
        obtain ⟨wi, -, -⟩ := itT_ok w (n := i) (by omega)
        obtain ⟨e2, p2, r2, q2⟩ := C_takeTurn hL B1 hr wi
        have hrest := h.1.cg (hq.rest B1) SX.rf
        simp only [fX7_go_b0, if_neg (nI_ge hi (show N < 2 ^ 31 by omega)), o_n hL hrest, cv_R hL B1 hr, p2, Option.bind_some, ixp1]
        exact ⟨_, rfl, e2, rfl, r2, hq.tr q2⟩)
      (by
        rintro st ⟨e, rfl, hr, hq⟩
        simp only [fX7_go_b0, if_pos (nI_le (Nat.le_refl N) (show N < 2 ^ 31 by omega))]
        exact ⟨_, rfl, e, rfl, hr, hq⟩)
    obtain ⟨m, b1, fb, rfl, b2⟩ := loop_rel (b := fX8_go_b0 (ad2 31) (nI n)) (s := ((0 : Int32), MR nd2 ad2 fi fa))
      (fun i st => ∃ fb, st = (nI i, MR nd2 ad2 fi fb) ∧ Sc (upF fa 0 (itT i (fa 0))) fb)
      (fun m => ∃ fb, m = MR nd2 ad2 fi fb ∧ Sc (upF fa 0 (itT N (fa 0))) fb) N (by omega) ⟨fa, rfl, by rw [show itT 0 (fa 0) = fa 0 from rfl, upF_id]; exact Sc.rf⟩ (by
        rintro i st hi ⟨fb, rfl, hs⟩
        obtain ⟨wi, wi4, -⟩ := itT_ok w (n := i) (by omega)
        have hz : fb 0 = itT i (fa 0) := by rw [hs.z, upF_s]
        obtain ⟨fc, p1, p2⟩ := R_turn (fi := fi) (fa := fb) hR (by rw [hz]; exact wi)
        rw [hz] at p1 p2
        simp only [fX8_go_b0, if_neg (nI_ge (show i < n by omega) (show n < 2 ^ 31 by omega)), rg0 hR, rk4 hR, hz, wi4, rcv hR, p1, Option.bind_some, ixp1]
        rw [if_neg (show ¬ (9999 : Int32) ≤ nI (nt (fa 0 4) + i) from nI_ge (b := 9999) (by omega) (by omega))]
        refine ⟨_, rfl, fc, rfl, fun k h25 h26 => (p2 k h25 h26).trans ?_⟩
        by_cases hk : k = 0
        · subst hk; rw [upF_s, upF_s, itT_s]
        · rw [upF_n hk, upF_n hk, hs k h25 h26, upF_n hk])
      (by
        rintro st ⟨fb, rfl, hs⟩
        obtain ⟨wi, wi4, -⟩ := itT_ok w (n := N) (by omega)
        have hz : fb 0 = itT N (fa 0) := by rw [hs.z, upF_s]
        refine ⟨_, ?_, fb, rfl, hs⟩
        simp only [fX8_go_b0]
        by_cases hc : n ≤ N
        · rw [if_pos (nI_le hc (by omega))]
        · rw [if_neg (nI_ge (by omega) (by omega))]
          simp only [rg0 hR, rk4 hR, hz, wi4, Option.bind_some]
          rw [if_pos (show (9999 : Int32) ≤ nI (nt (fa 0 4) + N) from nI_le (a := 9999) (by omega) (by omega))])
    obtain ⟨wN, wN4, -⟩ := itT_ok w (n := N) (by omega)
    have hz : fb 0 = itT N (fa 0) := by rw [b2.z, upF_s]
    have hrest := h.1.cg (a3.rest B1) SX.rf
    refine Sim.now (r := itT N (fa 0) 6) h ?_ ?_ a3 a2 hz wN (by rw [wN4, nt_nI (by omega)]; omega) ((SX.up (Or.inl rfl)).tr (SX.sc b2))
    · have hsub : (9999 : Int32) - nI k = nI (9999 - k) := pk_sub (a := 9999) (by omega)
      simp only [fX7_go, C_within, decide_eq_true hx, Option.bind_some, if_true, o_n hL h.1, cg_4 hL B1 r, k1, hsub]
      rw [j1, min_nI (by omega) (by omega), hNe]
      simp only [Option.bind_some, a1, o_n hL hrest, cg_6 hL B1 a2]
    · simp only [fX8_go, isIn_t k64_1 k64_100, decide_eq_true hx, Option.bind_some, if_true]
      rw [j1, b1]
      simp only [Option.bind_some, rg0 hR, rk6 hR, hz]
  · refine Sim.same (r := -1000000001) h ?_ ?_
    · simp only [fX7_go, C_within, decide_eq_false hx, Option.bind_some, Bool.false_eq_true, if_false]
    · simp only [fX8_go, isIn_t k64_1 k64_100, decide_eq_false hx, Option.bind_some, Bool.false_eq_true, if_false]
end PE1
