section PI1
variable {nT B : Nat} {nd nd2 : Nat → Option Nat} {c e : Nat → pE} {ad ad2 tx : Nat → Nat} {fi fj : Nat → Int32} {fa fb fc : Nat → Nat → Int32} {s u : Nat → Int32}
/-- a stop is dealt -/
def dz1 (s : Nat → Int32) : Nat → Int32 := upd s 11 (drwS (s 11))
def dmd (s : Nat → Int32) (d : Nat) : Int32 := nI (nt (drwO (drwS (s 11))) % d)
def dl1 (s : Nat → Int32) : Nat → Int32 := adS (dz1 (dz1 (dz1 s))) (dmd s 6) (dmd (dz1 s) 60) (dmd (dz1 (dz1 s)) 10)
def dlS (s : Nat → Int32) : Nat → Nat → Int32
  | 0 => s
  | k + 1 => dl1 (dlS s k)
theorem dlS_s (s : Nat → Int32) (k : Nat) : dlS s (k + 1) = dl1 (dlS s k) := rfl
theorem dmd_ok (s : Nat → Int32) {d : Nat} (h0 : 0 < d) (hd : d < 2 ^ 31) : rmI (drwO (drwS (s 11))) (nI d) = some (dmd s d) ∧ ∃ j, dmd s d = nI j ∧ j < d := by
  obtain ⟨j, j1, j2⟩ := drwO_in (drwS (s 11))
  unfold dmd
  rw [j1, nt_nI (by omega)]
  exact ⟨rmI_nI (by omega) h0 hd, _, rfl, Nat.mod_lt _ h0⟩
theorem dl1_ok (w : Wf s) (hn : nt (s 1) < 10) : Wf (dl1 s) ∧ nt (dl1 s 1) = nt (s 1) + 1 ∧ dl1 s 4 = s 4 := by
  have w3 : Wf (dz1 (dz1 (dz1 s))) := ((w.fr (by omega)).fr (by omega)).fr (by omega)
  have e : ∀ j, j ≠ 11 → dz1 (dz1 (dz1 s)) j = s j := by
    intro j hj
    unfold dz1
    rw [upd_n hj, upd_n hj, upd_n hj]
  obtain ⟨a, a1, a2⟩ := (dmd_ok s (d := 6) (by omega) (by omega)).2
  obtain ⟨b, b1, b2⟩ := (dmd_ok (dz1 s) (d := 60) (by omega) (by omega)).2
  obtain ⟨d, d1, d2⟩ := (dmd_ok (dz1 (dz1 s)) (d := 10) (by omega) (by omega)).2
  unfold dl1
  rw [a1, b1, d1]
  refine ⟨w3.nS (by omega) (by omega) (by omega) (by rw [e 1 (by omega)]; exact hn), ?_, ?_⟩
  · unfold adS
    rw [upd_s, e 1 (by omega), nt_nI (by omega)]
  · unfold adS
    rw [upd_n (by omega), upd_n (by omega), upd_n (by omega), upd_n (by omega), e 4 (by omega)]
theorem dlS_ok (w : Wf s) : ∀ {k : Nat}, nt (s 1) + k ≤ 10 → Wf (dlS s k) ∧ nt (dlS s k 1) = nt (s 1) + k ∧ dlS s k 4 = s 4 := by
  intro k
  induction k with
  | zero => intro _; exact ⟨w, rfl, rfl⟩
  | succ k ih =>
    intro h
    obtain ⟨h1, h2, h3⟩ := ih (by omega)
    obtain ⟨g1, g2, g3⟩ := dl1_ok h1 (by omega)
    rw [dlS_s]
    exact ⟨g1, by omega, g3.trans h3⟩
theorem L_deal (hL : Lay nd ad (KC nT)) (hR : Lay nd2 ad2 KR) (h : Inv nT c ad fi fa) (x : Int32) : Sim nT nd nd2 ad ad2 c fi fa (fX7_deal (ad 0) x) (fX8_deal (ad2 31) x) := by
  obtain ⟨tx, r, w, h4⟩ := h.n
  obtain ⟨m, v1, v2, v3⟩ := w.n1
  by_cases hx : 1 ≤ x ∧ x ≤ 10
  · obtain ⟨n, j1, j2, j3⟩ := bt (a := 1) (b := 10) hx (by omega) (by omega)
    have hN : min n (10 - m) ≤ 10 - m ∧ min n (10 - m) ≤ n ∧ (n ≤ min n (10 - m) ∨ m + min n (10 - m) = 10) := by
      rcases Nat.le_total n (10 - m) with q | q
      · rw [Nat.min_eq_left q]; omega
      · rw [Nat.min_eq_right q]; omega
    generalize hNe : min n (10 - m) = N at hN
    obtain ⟨res, a1, e, rfl, a2, a3⟩ := loop_rel (b := fX7_deal_b0 (ad 0) (nI N)) (s := ((0 : Int32), MM nd c))
      (fun i st => ∃ e, st = (nI i, MM nd e) ∧ RingOK nT e ad 100 (dlS (fa 0) i) tx ∧ ChB 100 c e)
      (fun m => ∃ e, m = MM nd e ∧ RingOK nT e ad 100 (dlS (fa 0) N) tx ∧ ChB 100 c e) N (by omega) ⟨c, rfl, r, ChB.rf⟩ (by
        rintro i st hi ⟨e, rfl, hr, hq⟩
        obtain ⟨wi, wi1, wi4⟩ := dlS_ok w (k := i) (by omega)
        obtain ⟨e1, p1, r1, q1⟩ := C_draw hL B1 hr
        obtain ⟨e2, p2, r2, q2⟩ := C_draw hL B1 r1
        obtain ⟨e3, p3, r3, q3⟩ := C_draw hL B1 r2
        have w3 : Wf (dz1 (dz1 (dz1 (dlS (fa 0) i)))) := ((wi.fr (by omega)).fr (by omega)).fr (by omega)
        have n3 : nt (dz1 (dz1 (dz1 (dlS (fa 0) i))) 1) < 10 := by
          unfold dz1
          rw [upd_n (by omega), upd_n (by omega), upd_n (by omega)]
          omega
        obtain ⟨e4, p4, r4, q4⟩ := C_addStop hL B1 r3 w3 n3 (dmd (dlS (fa 0) i) 6) (dmd (dz1 (dlS (fa 0) i)) 60) (dmd (dz1 (dz1 (dlS (fa 0) i))) 10)
        have t0 := h.1.cg (hq.rest B1) SX.rf
        have t1 := t0.cg (q1.rest B1) SX.rf
        have t2 := t1.cg (q2.rest B1) SX.rf
        have t3 := t2.cg (q3.rest B1) SX.rf
        have m6 : rmI (drwO (drwS (dlS (fa 0) i 11))) 6 = _ := (dmd_ok (dlS (fa 0) i) (d := 6) (by omega) (by omega)).1
        have m60 : rmI (drwO (drwS (dz1 (dlS (fa 0) i) 11))) 60 = _ := (dmd_ok (dz1 (dlS (fa 0) i)) (d := 60) (by omega) (by omega)).1
        have m10 : rmI (drwO (drwS (dz1 (dz1 (dlS (fa 0) i)) 11))) 10 = _ := (dmd_ok (dz1 (dz1 (dlS (fa 0) i))) (d := 10) (by omega) (by omega)).1
        unfold dz1 at m60 m10 p4
        simp only [fX7_deal_b0, if_neg (nI_ge hi (show N < 2 ^ 31 by omega)), o_n hL t0, cv_R hL B1 hr, p1, m6, o_n hL t1, cv_R hL B1 r1, p2, m60, o_n hL t2, cv_R hL B1 r2, p3, m10, o_n hL t3, cv_R hL B1 r3, p4, Option.bind_some, ixp1]
        exact ⟨_, rfl, e4, rfl, r4, (((hq.tr q1).tr q2).tr q3).tr q4⟩)
      (by
        rintro st ⟨e, rfl, hr, hq⟩
        simp only [fX7_deal_b0, if_pos (nI_le (Nat.le_refl N) (show N < 2 ^ 31 by omega))]
        exact ⟨_, rfl, e, rfl, hr, hq⟩)
    obtain ⟨res, b1, rfl⟩ := loop_rel (b := fX8_deal_b0 (ad2 31) (nI n)) (s := ((0 : Int32), MR nd2 ad2 fi fa))
      (fun i st => st = (nI i, MR nd2 ad2 fi (upF fa 0 (dlS (fa 0) i))))
      (fun res => res = (nI N, MR nd2 ad2 fi (upF fa 0 (dlS (fa 0) N)))) N (by omega) (by rw [show dlS (fa 0) 0 = fa 0 from rfl, upF_id]; rfl) (by
        rintro i st hi rfl
        obtain ⟨wi, wi1, wi4⟩ := dlS_ok w (k := i) (by omega)
        obtain ⟨mi, u1, u2, u3⟩ := wi.n1
        have w3 : Wf (dz1 (dz1 (dz1 (dlS (fa 0) i)))) := ((wi.fr (by omega)).fr (by omega)).fr (by omega)
        have n3 : nt (dz1 (dz1 (dz1 (dlS (fa 0) i))) 1) < 10 := by
          unfold dz1
          rw [upd_n (by omega), upd_n (by omega), upd_n (by omega)]
          omega
        have m6 : rmI (drwO (drwS (dlS (fa 0) i 11))) 6 = _ := (dmd_ok (dlS (fa 0) i) (d := 6) (by omega) (by omega)).1
        have m60 : rmI (drwO (drwS (dz1 (dlS (fa 0) i) 11))) 60 = _ := (dmd_ok (dz1 (dlS (fa 0) i)) (d := 60) (by omega) (by omega)).1
        have m10 : rmI (drwO (drwS (dz1 (dz1 (dlS (fa 0) i)) 11))) 10 = _ := (dmd_ok (dz1 (dz1 (dlS (fa 0) i))) (d := 10) (by omega) (by omega)).1
        have hc := R_comes (fi := fi) (fa := upF fa 0 (dz1 (dz1 (dz1 (dlS (fa 0) i))))) hR (by rw [upF_s]; exact w3) (by rw [upF_s]; exact n3) (dmd (dlS (fa 0) i) 6) (dmd (dz1 (dlS (fa 0) i)) 60) (dmd (dz1 (dz1 (dlS (fa 0) i))) 10)
        rw [upF_s, upF_2] at hc
        unfold dz1 at m60 m10 hc
        simp only [fX8_deal_b0, if_neg (nI_ge (show i < n by omega) (show n < 2 ^ 31 by omega)), rg0 hR, rk1 hR, upF_s, u1, Option.bind_some, if_neg (show ¬ (10 : Int32) ≤ nI mi from nI_ge (b := 10) (by omega) (by omega)), rcv hR, R_drawn hR, upF_2, m6, m60, m10, hc, ixp1]
        exact ⟨_, rfl, rfl⟩)
      (by
        rintro st rfl
        obtain ⟨wi, wi1, wi4⟩ := dlS_ok w (k := N) (by omega)
        obtain ⟨mi, u1, u2, u3⟩ := wi.n1
        refine ⟨_, ?_, rfl⟩
        simp only [fX8_deal_b0]
        by_cases hc : n ≤ N
        · rw [if_pos (nI_le hc (by omega))]
        · rw [if_neg (nI_ge (by omega) (by omega))]
          simp only [rg0 hR, rk1 hR, upF_s, u1, Option.bind_some]
          rw [if_pos (show (10 : Int32) ≤ nI mi from nI_le (a := 10) (by omega) (by omega))])
    obtain ⟨wN, wN1, wN4⟩ := dlS_ok w (k := N) (by omega)
    refine Sim.now (r := nI N) h ?_ ?_ a3 a2 upF_s wN (by rw [wN4]; exact h4) (SX.up (Or.inl rfl))
    · have hsub : (10 : Int32) - nI m = nI (10 - m) := pk_sub (a := 10) (by omega)
      simp only [fX7_deal, C_within, decide_eq_true hx, Option.bind_some, if_true, o_n hL h.1, cg_sn hL B1 r, v1, hsub]
      rw [j1, min_nI (by omega) (by omega), hNe]
      simp only [Option.bind_some, a1]
    · simp only [fX8_deal, isIn_t k64_1 k64_10, decide_eq_true hx, Option.bind_some, if_true]
      rw [j1, b1]
      rfl
  · refine Sim.same (r := -1000000001) h ?_ ?_
    · simp only [fX7_deal, C_within, decide_eq_false hx, Option.bind_some, Bool.false_eq_true, if_false]
    · simp only [fX8_deal, isIn_t k64_1 k64_10, decide_eq_false hx, Option.bind_some, Bool.false_eq_true, if_false]
/-- the rings stand, the rest changes -/
theorem Inv.rst (h : Inv nT c ad fi fa) (hc : ∀ k, k ≠ 0 → ¬ (400 ≤ k ∧ k < 1000) → e k = c k) (hr : Rest e ad fj fb) (h3 : fj 3 = fi 3) (h0 : fb 0 = fa 0) (h1 : fb 1 = fa 1) : Inv nT e ad fj fb := by
  obtain ⟨-, ⟨t1, a1, a2, a3⟩, ⟨s2, t2, b1⟩, s3, t3, d1, d2⟩ := h
  refine ⟨hr, ⟨t1, by rw [h0]; exact RingOK.cg (fun k hk => hc k (by omega) (by omega)) a1, by rw [h0]; exact a2, by rw [h0]; exact a3⟩, ⟨s2, t2, RingOK.cg (fun k hk => hc k (by omega) (by omega)) b1⟩, s3, t3, RingOK.cg (fun k hk => hc k (by omega) (by omega)) d1, ?_⟩
  rw [h3, h1]
  exact d2
theorem L_tell (hL : Lay nd ad (KC nT)) (hR : Lay nd2 ad2 KR) (h : Inv nT c ad fi fa) (v : Int32) : Sim nT nd nd2 ad ad2 c fi fa (fX7_tell (ad 0) v) (fX8_tell (ad2 31) v) := by
  obtain ⟨o, rd, sh, sl, ⟨g, g1, g2⟩, n, n1, n2⟩ := h.1
  have em := eq_max n2 (by omega) (v := 60) rfl
  have k490 : KC nT 490 := by unfold KC; omega
  by_cases hn : n < 60
  · have c1 : upC c 490 (.inl (0, 60, .inl (upd g n v))) 0 = .inr (7, objF ad (fi 3) (fi 29)) := (upC_n (by omega)).trans o
    have hp := pI_MM (f := 8) (v := nI n + 1) hL (KC_0 (nT := nT)) c1 (by simp [objF])
    have hset : (objF ad (fi 3) (fi 29)).set 8 (.int (nI n + 1)) = objF ad (fi 3) (nI (n + 1)) := by rw [nI_1]; rfl
    rw [hset] at hp
    have w1 : gI (MM nd (upC c 490 (.inl (0, 60, .inl (upd g n v))))) (ad 0) 7 8 = some (fi 29) := gI_MM hL KC_0 c1 rfl
    have w2 : gI (MM nd (upC (upC c 490 (.inl (0, 60, .inl (upd g n v)))) 0 (.inr (7, objF ad (fi 3) (nI (n + 1)))))) (ad 0) 7 8 = some (nI (n + 1)) := gI_MM hL KC_0 upC_s rfl
    refine ⟨nI (n + 1), upC (upC c 490 (.inl (0, 60, .inl (upd g n v)))) 0 (.inr (7, objF ad (fi 3) (nI (n + 1)))), upd fi 29 (nI (n + 1)), upF fa 28 (upd (fa 28) n v), ?_, ?_, ?_⟩
    · simp only [fX7_tell, o_ws hL h.1, n1, if_pos (em.2.mpr hn), o_w hL h.1, Option.bind_some]
      rw [stI_MM hL k490 g1 hn (by omega)]
      simp only [Option.bind_some, w1, n1, hp, w2]
    · simp only [fX8_tell, rg29 hR, n1, if_neg (fun z => absurd (em.1.mp z) (by omega)), rg28 hR, Option.bind_some, rs28 hR hn, rpu29 hR, nI_1, upd_s]
    · refine h.rst (fun k h1 h2 => by rw [upC_n h1, upC_n (by omega)]) ⟨upC_s, ?_, ?_, ?_, ?_⟩ (upd_n (by omega)) (upF_n (by omega)) (upF_n (by omega))
      · obtain ⟨⟨t, f, u, ft, ky, lv, sc, a1⟩, ⟨g3, a2, a3⟩, ⟨g4, a4⟩, a5⟩ := rd
        refine ⟨⟨t, f, u, ft, ky, lv, sc, ?_⟩, ⟨g3, ?_, ?_⟩, ⟨g4, ?_⟩, ?_⟩
        · rw [upC_n (by omega), upC_n (by omega), upd_n (by omega)]; exact a1
        · rw [upC_n (by omega), upC_n (by omega)]; exact a2
        · rw [upd_n (by omega), upF_n (by omega)]; exact a3
        · rw [upC_n (by omega), upC_n (by omega)]; exact a4
        · rw [upd_n (by omega)]; exact a5
      · refine ⟨by rw [upC_n (by omega), upC_n (by omega)]; exact sh.1, fun k hk => ?_⟩
        unfold SHok1
        rw [upC_n (by omega), upC_n (by omega), upC_n (by omega), upC_n (by omega), upF_n (by omega), upF_n (by omega), upF_n (by omega)]
        exact sh.2 k hk
      · refine ⟨by rw [upC_n (by omega), upC_n (by omega)]; exact sl.1, fun k hk => ?_⟩
        unfold SLok1
        rw [upC_n (by omega), upC_n (by omega), upC_n (by omega), upC_n (by omega), upC_n (by omega), upC_n (by omega), upC_n (by omega), upC_n (by omega), upF_n (by omega), upF_n (by omega), upF_n (by omega), upF_n (by omega), upF_n (by omega)]
        exact sl.2 k hk
      · refine ⟨⟨upd g n v, by rw [upC_n (by omega), upC_s], fun j hj => ?_⟩, n + 1, upd_s, by omega⟩
        rw [upd_s, nt_nI (by omega)] at hj
        rw [upF_s]
        by_cases ej : j = n
        · subst ej; rw [upd_s, upd_s]
        · rw [upd_n ej, upd_n ej]; exact g2 j (by rw [n1, nt_nI (by omega)]; omega)
  · refine Sim.same (r := -1000000003) h ?_ ?_
    · simp only [fX7_tell, o_ws hL h.1, n1, if_neg (fun z => hn (em.2.mp z)), Option.bind_some]
    · simp only [fX8_tell, rg29 hR, n1, if_pos (em.1.mpr (show n = 60 by omega)), Option.bind_some]
/-- rows that agree up to the texts' end -/
theorem TxOK.ev {t : Nat} (ht : t < 14) (hu : ∀ j, j < 2892 → u j = s j) (h : TxOK s t) : TxOK u t := by
  obtain ⟨h1, ⟨n, h2, h3⟩, h4, h5⟩ := h
  have hc : cnS u t = cnS s t := by unfold cnS; rw [hu _ (by omega)]
  have hn : cnS s t = n := by unfold cnS; rw [h2]; exact nt_nI (by omega)
  have hd : ∀ k, k ≤ n → dpS u t k = dpS s t k := by
    intro k
    induction k with
    | zero => intro _; rfl
    | succ k ih =>
      intro hk
      rw [dpS_s, dpS_s, ih (by omega)]
      unfold whS vlS
      rw [hu _ (by omega), hu _ (by omega)]
  refine ⟨by rw [hu _ (by omega)]; exact h1, ⟨n, by rw [hu _ (by omega)]; exact h2, h3⟩, fun k hk => ?_, by rw [hc, hd _ (by omega)]; exact h5⟩
  rw [hc] at hk
  have := h4 k hk
  unfold stOK whS vlS at this ⊢
  rw [hu _ (by omega), hu _ (by omega), hu _ (by omega), hd _ (by omega)]
  exact this
theorem Wf.ev (w : Wf s) (hu : ∀ j, j < 2892 → u j = s j) : Wf u := by
  obtain ⟨n0, p1, p2, p3⟩ := w.n0
  obtain ⟨n1, q1, q2, q3⟩ := w.n1
  obtain ⟨n2, r1, r2, r3⟩ := w.n2
  obtain ⟨n3, t1, t2, t3⟩ := w.n3
  obtain ⟨a0, a1, a2, a3, a4, a5, a6, a7, a8, a9, a10, a11⟩ := w
  refine ⟨by rw [hu _ (by omega)]; exact a0, by rw [hu _ (by omega)]; exact a1, by rw [hu _ (by omega)]; exact a2, by rw [hu _ (by omega)]; exact a3, by rw [hu _ (by omega)]; exact a4, by rw [hu _ (by omega)]; exact a5, by rw [hu 6 (by omega), hu 0 (by omega)]; exact a6, by rw [hu _ (by omega)]; exact a7, ?_, ?_, ?_, ?_⟩
  · rw [hu 0 (by omega)]
    intro c hc
    rw [hu _ (by omega), hu _ (by omega), hu _ (by omega)]
    exact a8 c hc
  · rw [hu 1 (by omega)]
    intro c hc
    rw [hu _ (by omega), hu _ (by omega), hu _ (by omega)]
    exact a9 c hc
  · rw [hu 2 (by omega)]
    intro c hc
    rw [hu _ (by omega)]
    exact a10 c hc
  · rw [hu 3 (by omega)]
    intro t ht
    exact TxOK.ev (by omega) hu (a11 t ht)
theorem TextOK.ev {x t : Nat} (ht : t < 14) (hX : TxOK s t) (hu : ∀ j, j < 2892 → u j = s j) (h : TextOK c ad x s t) : TextOK c ad x u t := by
  obtain ⟨-, ⟨n, h2, h3⟩, -⟩ := hX
  have hc : cnS u t = cnS s t := by unfold cnS; rw [hu _ (by omega)]
  have hn : cnS s t = n := by unfold cnS; rw [h2]; exact nt_nI (by omega)
  obtain ⟨a1, ⟨g, a2, a3⟩, p, a4⟩ := h
  refine ⟨by rw [hu _ (by omega), hu _ (by omega)]; exact a1, ⟨g, by rw [hc]; exact a2, fun k hk => ?_⟩, p, by rw [hc]; exact a4⟩
  rw [hc] at hk
  unfold whS vlS
  rw [hu _ (by omega), hu _ (by omega), hu _ (by omega)]
  exact a3 k hk
theorem RingOK.ev (w : Wf s) (hu : ∀ j, j < 2892 → u j = s j) (h : RingOK nT c ad B s tx) : RingOK nT c ad B u tx := by
  obtain ⟨n0, p1, p2, p3⟩ := w.n0
  obtain ⟨n1, q1, q2, q3⟩ := w.n1
  obtain ⟨n2, r1, r2, r3⟩ := w.n2
  obtain ⟨n3, t1, t2, t3⟩ := w.n3
  have er : ringF ad B u = ringF ad B s := by
    unfold ringF
    rw [hu 0 (by omega), hu 1 (by omega), hu 2 (by omega), hu 3 (by omega), hu 4 (by omega), hu 5 (by omega), hu 6 (by omega), hu 7 (by omega), hu 8 (by omega), hu 9 (by omega), hu 10 (by omega), hu 11 (by omega)]
  obtain ⟨a0, a1, ⟨g2, a2, a2'⟩, a3, ⟨g4, a4, a4'⟩, ⟨g5, a5, a5'⟩, a6, a7, a8⟩ := h
  refine ⟨by rw [er]; exact a0, a1, ⟨g2, a2, ?_⟩, a3, ⟨g4, a4, ?_⟩, ⟨g5, a5, fun k hk => ?_⟩, a6, fun i hi => ?_, fun i hi => ?_⟩
  · rw [hu 2 (by omega)]
    intro i hi
    rw [hu _ (by omega)]
    exact a2' i hi
  · rw [hu 3 (by omega)]
    intro t ht
    exact ⟨(a4' t ht).1, (a4' t ht).2.1, TextOK.ev (by omega) (w.tx ht) hu (a4' t ht).2.2⟩
  · have : lawS u (nI k) = lawS s (nI k) := by
      unfold lawS
      rw [hu 3 (by omega)]
      exact cnsF_cg (fun t ht => hu _ (by omega))
    rw [this]
    exact a5' k hk
  · obtain ⟨a, b, d, z1, z2⟩ := a7 i hi
    refine ⟨a, b, d, z1, ?_⟩
    rw [hu 0 (by omega), hu _ (by omega), hu _ (by omega), hu _ (by omega)]
    exact z2
  · obtain ⟨a, b, d, z1, z2⟩ := a8 i hi
    refine ⟨a, b, d, z1, ?_⟩
    rw [hu 1 (by omega), hu _ (by omega), hu _ (by omega), hu _ (by omega)]
    exact z2
end PI1
