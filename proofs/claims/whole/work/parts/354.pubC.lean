section PC
variable {nT B : Nat} {nd nd2 : Nat → Option Nat} {c : Nat → pE} {ad ad2 tx : Nat → Nat} {fi : Nat → Int32} {fa : Nat → Nat → Int32} {s : Nat → Int32}
theorem up3 {a b d : Nat} {x y z : Int32} (h1 : a ≠ b) (h2 : a ≠ d) (h3 : b ≠ d) : upd (upd (upd s a x) b y) d z a = x ∧ upd (upd (upd s a x) b y) d z b = y ∧ upd (upd (upd s a x) b y) d z d = z := ⟨by rw [upd_n h2, upd_n h1, upd_s], by rw [upd_n h3, upd_s], upd_s⟩
theorem eq_max {n b : Nat} (hn : n ≤ b) (hb : b < 2 ^ 31) {v : Int32} (hv : v = nI b) : (nI n = v ↔ n = b) ∧ (nI n < v ↔ n < b) := by
  subst hv
  exact ⟨nI_eq (by omega) hb, nI_ltI (by omega) hb⟩
theorem C_addC (hL : Lay nd ad (KC nT)) (hB : isB B) (h : RingOK nT c ad B s tx) (hw : Wf s) (hn : nt (s 0) < 10) (p : Int32) : ∃ e, ((pI (MM nd c) (ad (B + 10 + nt (s 0))) 0 0 p).bind fun m9 => (pI m9 (ad (B + 10 + nt (s 0))) 0 1 (0 : Int32)).bind fun m10 => (pI m10 (ad (B + 10 + nt (s 0))) 0 2 (0 : Int32))) = some (MM nd e) ∧ RingOK nT e ad B (upd (upd (upd s (12 + 3 * nt (s 0)) p) (13 + 3 * nt (s 0)) 0) (14 + 3 * nt (s 0)) 0) tx ∧ ChB B c e ∧ e (B + 10 + nt (s 0)) = .inr (0, [.int p, .int 0, .int 0]) := by
  obtain ⟨a, b, d, q, -⟩ := h.2.2.2.2.2.2.2.1 (nt (s 0)) hn
  have hk := KC_ch (nT := nT) hB hn
  rw [pI_MM (f := 0) hL hk q (by simp)]
  simp only [Option.bind_some]
  rw [pI_MM (f := 1) hL hk upC_s (by simp), upC_2]
  simp only [Option.bind_some]
  rw [pI_MM (f := 2) hL hk upC_s (by simp), upC_2]
  refine ⟨_, rfl, ?_, ChB.up (by rw [Nat.add_assoc]; exact own_B B (by omega)), upC_s⟩
  have := RingOK.chs (u := upd (upd (upd s (12 + 3 * nt (s 0)) p) (13 + 3 * nt (s 0)) 0) (14 + 3 * nt (s 0)) 0) hB h hn (fun j h1 h2 h3 => by rw [upd_n h3, upd_n h2, upd_n h1])
  obtain ⟨v1, v2, v3⟩ := up3 (s := s) (a := 12 + 3 * nt (s 0)) (b := 13 + 3 * nt (s 0)) (d := 14 + 3 * nt (s 0)) (x := p) (y := 0) (z := 0) (by omega) (by omega) (by omega)
  rw [v1, v2, v3] at this
  exact this
theorem L_child (hL : Lay nd ad (KC nT)) (hR : Lay nd2 ad2 KR) (h : Inv nT c ad fi fa) (v : Int32) : Sim nT nd nd2 ad ad2 c fi fa (fX7_child (ad 0) v) (fX8_child (ad2 31) v) := by
  obtain ⟨tx, r, w, h4⟩ := h.n
  obtain ⟨n, n1, n2, n3⟩ := w.n0
  by_cases hv : 1 ≤ v ∧ v ≤ 9
  · obtain ⟨i, i1, i2, i3⟩ := bt (a := 1) (b := 9) hv (by omega) (by omega)
    have em := eq_max n2 (by omega) (v := 10) rfl
    by_cases hn : n < 10
    · obtain ⟨e, p1, p2, p3, p4⟩ := C_addC hL B1 r w (by omega) v
      rw [n3] at p1 p2 p4
      have u0 : upd (upd (upd (fa 0) (12 + 3 * n) v) (13 + 3 * n) 0) (14 + 3 * n) 0 0 = nI n := by rw [upd_n (by omega), upd_n (by omega), upd_n (by omega), n1]
      have k := cnt0 (n := n) B1 p2 u0 hn (by
        obtain ⟨v1, v2, v3⟩ := up3 (s := fa 0) (a := 12 + 3 * n) (b := 13 + 3 * n) (d := 14 + 3 * n) (x := v) (y := 0) (z := 0) (by omega) (by omega) (by omega)
        rw [p4, v1, v2, v3])
      have hadC : adC (fa 0) v = upd (upd (upd (upd (fa 0) (12 + 3 * n) v) (13 + 3 * n) 0) (14 + 3 * n) 0) 0 (nI (n + 1)) := by unfold adC; rw [n3]
      have hp := pI_MM (f := 1) (v := nI n + 1) hL (KC_B0 B1) p2.1 (by simp [ringF])
      have hset : (ringF ad 100 (upd (upd (upd (fa 0) (12 + 3 * n) v) (13 + 3 * n) 0) (14 + 3 * n) 0)).set 1 (.int (nI n + 1)) = ringF ad 100 (upd (upd (upd (upd (fa 0) (12 + 3 * n) v) (13 + 3 * n) 0) (14 + 3 * n) 0) 0 (nI (n + 1))) := by rw [nI_1]; rfl
      rw [hset] at hp
      have hrest := h.1.cg (p3.rest B1) SX.rf
      have hrest2 := hrest.cg (ChB.rest B1 (ChB.up (c := e) (v := .inr (2, ringF ad 100 (upd (upd (upd (upd (fa 0) (12 + 3 * n) v) (13 + 3 * n) 0) (14 + 3 * n) 0) 0 (nI (n + 1))))) (own_B 100 (i := 0) (by omega)))) SX.rf
      refine Sim.now (r := nI n) (fb := upF fa 0 (adC (fa 0) v)) h ?_ ?_ (p3.tr (ChB.up (own_B 100 (i := 0) (by omega)))) k (by rw [upF_s, hadC]) (by rw [← hadC, i1]; exact w.nC i2 i3 (by omega)) (by rw [upd_n (by omega), upd_n (by omega), upd_n (by omega), upd_n (by omega)]; exact h4) (SX.up (Or.inl rfl))
      · simp only [fX7_child, C_within, decide_eq_true hv, Option.bind_some, if_true, o_n hL h.1, cg_n hL B1 r, n1, if_pos (em.2.mpr hn), cr_1 hL B1 r, cl_ch hL B1 r hn]
        cases q1 : pI (MM nd c) (ad (100 + 10 + n)) 0 0 v with
        | none => rw [q1] at p1; cases p1
        | some m9 =>
          rw [q1] at p1
          simp only [Option.bind_some] at p1 ⊢
          cases q2 : pI m9 (ad (100 + 10 + n)) 0 1 0 with
          | none => rw [q2] at p1; cases p1
          | some m10 =>
            rw [q2] at p1
            simp only [Option.bind_some] at p1 ⊢
            rw [p1]
            simp only [Option.bind_some, o_n hL hrest, cg_n hL B1 p2, u0, hp, o_n hL hrest2, cg_n hL B1 k, upd_s]
            rw [nI_pred]
      · simp only [fX8_child, isIn_t k64_1 k64_9, decide_eq_true hv, Option.bind_some, if_true, rg0 hR, rk0 hR, n1, if_neg (fun z => absurd (em.1.mp z) (by omega)), ix12, ixp1, ixp2]
        rw [rs0 hR (by omega)]
        simp only [Option.bind_some, rg0 hR, upF_s]
        rw [rs0 hR (by omega), upF_2, upF_s]
        simp only [Option.bind_some, rg0 hR, upF_s]
        rw [rs0 hR (by omega), upF_2, upF_s]
        simp only [Option.bind_some, rg0 hR, upF_s, rk0 hR, wk0 hR, upF_2]
        rw [show 12 + 3 * n + 1 = 13 + 3 * n by omega, show 12 + 3 * n + 2 = 14 + 3 * n by omega, u0, hadC, nI_1, upd_s, nI_pred]
    · refine Sim.same (r := -1000000003) h ?_ ?_
      · simp only [fX7_child, C_within, decide_eq_true hv, Option.bind_some, if_true, o_n hL h.1, cg_n hL B1 r, n1, if_neg (fun z => hn (em.2.mp z))]
      · simp only [fX8_child, isIn_t k64_1 k64_9, decide_eq_true hv, Option.bind_some, if_true, rg0 hR, rk0 hR, n1, if_pos (em.1.mpr (show n = 10 by omega))]
  · refine Sim.same (r := -1000000001) h ?_ ?_
    · simp only [fX7_child, C_within, decide_eq_false hv, Option.bind_some, Bool.false_eq_true, if_false]
    · simp only [fX8_child, isIn_t k64_1 k64_9, decide_eq_false hv, Option.bind_some, Bool.false_eq_true, if_false]
theorem L_paper (hL : Lay nd ad (KC nT)) (hR : Lay nd2 ad2 KR) (h : Inv nT c ad fi fa) (v : Int32) : Sim nT nd nd2 ad ad2 c fi fa (fX7_paper (ad 0) v) (fX8_paper (ad2 31) v) := by
  obtain ⟨tx, r, w, h4⟩ := h.n
  obtain ⟨n, n1, n2, n3⟩ := w.n2
  by_cases hv : 0 ≤ v ∧ v ≤ 2
  · obtain ⟨i, i1, i2, i3⟩ := bt (a := 0) (b := 2) hv (by omega) (by omega)
    have em := eq_max n2 (by omega) (v := 20) rfl
    by_cases hn : n < 20
    · obtain ⟨g, hg, -⟩ := r.2.2.1
      have k1 := RingOK.pps (v := v) B1 r hg hn
      have k2 := cnt2 (n := n) B1 k1 (by rw [upd_n (by omega), n1]) hn upC_s (by rw [upd_s, upd_s])
      have hadP : adP (fa 0) v = upd (upd (fa 0) (72 + n) v) 2 (nI (n + 1)) := by unfold adP; rw [n3]
      have c1 : ChB 100 c (upC c (100 + 2) (.inl (0, 20, .inl (upd g n v)))) := ChB.up (own_B 100 (i := 2) (by omega))
      have hp := pI_MM (f := 3) (v := nI n + 1) hL (KC_B0 B1) k1.1 (by simp [ringF])
      have hset : (ringF ad 100 (upd (fa 0) (72 + n) v)).set 3 (.int (nI n + 1)) = ringF ad 100 (upd (upd (fa 0) (72 + n) v) 2 (nI (n + 1))) := by rw [nI_1]; rfl
      rw [hset] at hp
      have hrest := h.1.cg (c1.rest B1) SX.rf
      have c2 := c1.tr (ChB.up (v := .inr (2, ringF ad 100 (upd (upd (fa 0) (72 + n) v) 2 (nI (n + 1))))) (own_B 100 (i := 0) (by omega)))
      have hrest2 := h.1.cg (c2.rest B1) SX.rf
      refine Sim.now (r := nI n) (fb := upF fa 0 (adP (fa 0) v)) h ?_ ?_ c2 k2 (by rw [upF_s, hadP]) (by rw [← hadP, i1]; exact w.nP i3 (by omega)) (by rw [upd_n (by omega), upd_n (by omega)]; exact h4) (SX.up (Or.inl rfl))
      · simp only [fX7_paper, C_within, decide_eq_true hv, Option.bind_some, if_true, o_n hL h.1, cg_pn hL B1 r, n1, if_pos (em.2.mpr hn), cr_2 hL B1 r]
        rw [stI_MM hL (KC_B B1 (by decide)) hg hn (by decide)]
        simp only [Option.bind_some, o_n hL hrest, cg_pn hL B1 k1, upd_n (show ¬ 2 = 72 + n by omega), n1, hp, o_n hL hrest2, cg_pn hL B1 k2, upd_s]
        rw [nI_pred]
      · simp only [fX8_paper, isIn_t k64_0 k64_2, decide_eq_true hv, Option.bind_some, if_true, rg0 hR, rk2 hR, n1, if_neg (fun z => absurd (em.1.mp z) (by omega)), ix72]
        rw [rs0 hR (by omega)]
        simp only [Option.bind_some, rg0 hR, upF_s, rk2 hR, wk2 hR, upF_2, upd_n (show ¬ 2 = 72 + n by omega), n1, upd_s]
        rw [hadP, nI_1, nI_pred]
    · refine Sim.same (r := -1000000003) h ?_ ?_
      · simp only [fX7_paper, C_within, decide_eq_true hv, Option.bind_some, if_true, o_n hL h.1, cg_pn hL B1 r, n1, if_neg (fun z => hn (em.2.mp z))]
      · simp only [fX8_paper, isIn_t k64_0 k64_2, decide_eq_true hv, Option.bind_some, if_true, rg0 hR, rk2 hR, n1, if_pos (em.1.mpr (show n = 20 by omega))]
  · refine Sim.same (r := -1000000001) h ?_ ?_
    · simp only [fX7_paper, C_within, decide_eq_false hv, Option.bind_some, Bool.false_eq_true, if_false]
    · simp only [fX8_paper, isIn_t k64_0 k64_2, decide_eq_false hv, Option.bind_some, Bool.false_eq_true, if_false]
theorem Wf.ppu {s : Nat → Int32} (hw : Wf s) {i h : Nat} (h2 : h ≤ 2) (hi : i < 20) : Wf (upd s (72 + i) (nI h)) := by
  obtain ⟨a0, a1, a2, a3, a4, a5, a6, a7, a8, a9, a10, a11⟩ := hw
  have m0 : nt (s 0) ≤ 10 := by obtain ⟨n, z1, z2⟩ := a0; rw [z1, nt_nI (by omega)]; exact z2
  have m1 : nt (s 1) ≤ 10 := by obtain ⟨n, z1, z2⟩ := a1; rw [z1, nt_nI (by omega)]; exact z2
  refine ⟨by rw [upd_n (by omega)]; exact a0, by rw [upd_n (by omega)]; exact a1, by rw [upd_n (by omega)]; exact a2, by rw [upd_n (by omega)]; exact a3, by rw [upd_n (by omega)]; exact a4, by rw [upd_n (by omega)]; exact a5, by rw [upd_n (by omega), upd_n (by omega)]; exact a6, by rw [upd_n (by omega)]; exact a7, ?_, ?_, ?_, ?_⟩
  · rw [upd_n (by omega)]
    intro c hc
    rw [upd_n (by omega), upd_n (by omega), upd_n (by omega)]
    exact a8 c hc
  · rw [upd_n (by omega)]
    intro k hk
    rw [upd_n (by omega), upd_n (by omega), upd_n (by omega)]
    exact a9 k hk
  · rw [upd_n (by omega)]
    intro p hp
    by_cases e : p = i
    · subst e; rw [upd_s]; exact ⟨h, rfl, h2⟩
    · rw [upd_n (by omega)]; exact a10 p hp
  · rw [upd_n (by omega)]
    intro t ht
    exact TxOK_cg (fun j hj => upd_n (by omega)) (a11 t ht)
theorem L_sorts (hL : Lay nd ad (KC nT)) (hR : Lay nd2 ad2 KR) (h : Inv nT c ad fi fa) (x v : Int32) : Sim nT nd nd2 ad ad2 c fi fa (fX7_sorts (ad 0) x v) (fX8_sorts (ad2 31) x v) := by
  obtain ⟨tx, r, w, h4⟩ := h.n
  obtain ⟨n, n1, n2, n3⟩ := w.n2
  by_cases hx : 0 ≤ x ∧ x ≤ fa 0 2 - 1
  · by_cases hv : 0 ≤ v ∧ v ≤ 2
    · obtain ⟨i, i1, i2, i3⟩ := bt (a := 0) (b := 2) hv (by omega) (by omega)
      have hx2 := hx
      rw [n1] at hx2
      obtain ⟨j, j1, j2⟩ := bt_pred hx2 (by omega)
      obtain ⟨g, hg, hg2⟩ := r.2.2.1
      have k1 := RingOK.pps (i := j) (v := v) B1 r hg (by omega)
      refine Sim.now (r := fa 0 (72 + j)) (fb := upF fa 0 (upd (fa 0) (72 + j) v)) h ?_ ?_ (ChB.up (own_B 100 (i := 2) (by omega))) k1 upF_s (by rw [i1]; exact w.ppu i3 (by omega)) (by rw [upd_n (by omega)]; exact h4) (SX.up (Or.inl rfl))
      · simp only [fX7_sorts, o_n hL h.1, cg_pn hL B1 r, C_within, decide_eq_true hx, decide_eq_true hv, Option.bind_some, if_true, cr_2 hL B1 r]
        rw [j1, cl_pp hL B1 r (by omega) (by omega)]
        simp only [Option.bind_some]
        rw [stI_MM hL (KC_B B1 (by decide)) hg (by omega) (by decide)]
        rfl
      · simp only [fX8_sorts, rg0 hR, rk2 hR, isIn_t k64_0 rfl, isIn_t k64_0 k64_2, decide_eq_true hx, decide_eq_true hv, Option.bind_some, if_true, rcv hR]
        rw [R_becomes hR (j := 72 + j) (by rw [j1, ix72]) (by omega)]
        rfl
    · refine Sim.same (r := -1000000001) h ?_ ?_
      · simp only [fX7_sorts, o_n hL h.1, cg_pn hL B1 r, C_within, decide_eq_true hx, decide_eq_false hv, Option.bind_some, if_true, Bool.false_eq_true, if_false]
      · simp only [fX8_sorts, rg0 hR, rk2 hR, isIn_t k64_0 rfl, isIn_t k64_0 k64_2, decide_eq_true hx, decide_eq_false hv, Option.bind_some, if_true, Bool.false_eq_true, if_false]
  · refine Sim.same (r := -1000000001) h ?_ ?_
    · simp only [fX7_sorts, o_n hL h.1, cg_pn hL B1 r, C_within, decide_eq_false hx, Option.bind_some, Bool.false_eq_true, if_false]
    · simp only [fX8_sorts, rg0 hR, rk2 hR, isIn_t k64_0 rfl, decide_eq_false hx, Option.bind_some, Bool.false_eq_true, if_false]
theorem C_addStop (hL : Lay nd ad (KC nT)) (hB : isB B) (h : RingOK nT c ad B s tx) (hw : Wf s) (hn : nt (s 1) < 10) (x y z : Int32) : ∃ e, fX2_addStop (ad B) x y z (MM nd c) = some (MM nd e) ∧ RingOK nT e ad B (adS s x y z) tx ∧ ChB B c e := by
  obtain ⟨n, n1, n2, n3⟩ := hw.n1
  obtain ⟨a, b, d, q, -⟩ := h.2.2.2.2.2.2.2.2 (nt (s 1)) hn
  rw [n3] at hn q
  have hk := KC_sp (nT := nT) hB hn
  have hb : B < 1000 - 30 := by unfold isB at hB; omega
  have em := eq_max (n := n) (by omega) (show 10 < 2 ^ 31 by omega) (v := 10) rfl
  have g0 : ¬ (10 : Int32) ≤ nI n := Int32.not_le.mpr (em.2.mpr hn)
  -- the ring's parts that are read between stand
  have rd : ∀ v, gR (MM nd (upC c (B + 20 + n) v)) (ad B) 2 4 = some (ad (B + 3)) ∧ gI (MM nd (upC c (B + 20 + n) v)) (ad B) 2 5 = some (nI n) ∧ ldR (MM nd (upC c (B + 20 + n) v)) (ad (B + 3)) 2 (nI n) = some (ad (B + 20 + n)) := by
    intro v
    obtain ⟨g, g1, g2⟩ := h.2.2.2.1
    have o : upC c (B + 20 + n) v B = .inr (2, ringF ad B s) := (upC_n (by omega)).trans h.1
    refine ⟨gR_MM hL (KC_B0 hB) o rfl, ?_, ldR_MM hL (KC_B hB (by decide)) ((upC_n (by omega)).trans g1) hn (by decide) (g2 n hn)⟩
    rw [← n1]
    exact gI_MM hL (KC_B0 hB) o rfl
  unfold fX2_addStop
  simp only [cg_sn hL hB h, cr_3 hL hB h, Option.bind_some, n1, if_neg g0, cl_sp hL hB h hn]
  rw [pI_MM (f := 0) hL hk q (by simp)]
  simp only [Option.bind_some, (rd _).1, (rd _).2.1, (rd _).2.2]
  rw [pI_MM (f := 1) hL hk upC_s (by simp), upC_2]
  simp only [Option.bind_some, (rd _).1, (rd _).2.1, (rd _).2.2]
  rw [pI_MM (f := 2) hL hk upC_s (by simp), upC_2]
  simp only [Option.bind_some, (rd _).2.1]
  have k1 := RingOK.sps (u := upd (upd (upd s (42 + 3 * n) x) (43 + 3 * n) y) (44 + 3 * n) z) hB h hn (fun j h1 h2 h3 => by rw [upd_n h3, upd_n h2, upd_n h1])
  obtain ⟨v1, v2, v3⟩ := up3 (s := s) (a := 42 + 3 * n) (b := 43 + 3 * n) (d := 44 + 3 * n) (x := x) (y := y) (z := z) (by omega) (by omega) (by omega)
  rw [v1, v2, v3] at k1
  have k2 := cnt1 (n := n) hB k1 (by rw [upd_n (by omega), upd_n (by omega), upd_n (by omega), n1]) hn (by
    rw [upC_s, v1, v2, v3])
  have hp := pI_MM (f := 5) (v := nI n + 1) hL (KC_B0 hB) k1.1 (by simp [ringF])
  have hset : (ringF ad B (upd (upd (upd s (42 + 3 * n) x) (43 + 3 * n) y) (44 + 3 * n) z)).set 5 (.int (nI n + 1)) = ringF ad B (upd (upd (upd (upd s (42 + 3 * n) x) (43 + 3 * n) y) (44 + 3 * n) z) 1 (nI (n + 1))) := by rw [nI_1]; rfl
  rw [hset] at hp
  have hadS : adS s x y z = upd (upd (upd (upd s (42 + 3 * n) x) (43 + 3 * n) y) (44 + 3 * n) z) 1 (nI (n + 1)) := by unfold adS; rw [n3]
  rw [hadS]
  refine ⟨_, ?_, k2, (ChB.up (by rw [Nat.add_assoc]; exact own_B B (by omega))).tr (ChB.up (own_B B (i := 0) (by omega)))⟩
  simp only [List.set_cons_zero, List.set_cons_succ] at hp ⊢
  rw [hp]
  rfl
theorem R_comes (hL : Lay nd ad KR) (hw : Wf (fa 0)) (hn : nt (fa 0 1) < 10) (x y z : Int32) : fX8_comes (ad 31) x y z (MR nd ad fi fa) = some (MR nd ad fi (upF fa 0 (adS (fa 0) x y z))) := by
  obtain ⟨n, n1, n2, n3⟩ := hw.n1
  have hadS : adS (fa 0) x y z = upd (upd (upd (upd (fa 0) (42 + 3 * n) x) (43 + 3 * n) y) (44 + 3 * n) z) 1 (nI (n + 1)) := by unfold adS; rw [n3]
  unfold fX8_comes
  simp only [rg0 hL, rk1 hL, Option.bind_some, n1, ix42, ixp1, ixp2]
  rw [rs0 hL (by omega)]
  simp only [Option.bind_some, rg0 hL, upF_s]
  rw [rs0 hL (by omega), upF_2, upF_s]
  simp only [Option.bind_some, rg0 hL, upF_s]
  rw [rs0 hL (by omega), upF_2, upF_s]
  simp only [Option.bind_some, rg0 hL, upF_s, rk1 hL, wk1 hL, upF_2]
  rw [show 42 + 3 * n + 1 = 43 + 3 * n by omega, show 42 + 3 * n + 2 = 44 + 3 * n by omega, upd_n (by omega), upd_n (by omega), upd_n (by omega), n1, nI_1, hadS]
end PC
