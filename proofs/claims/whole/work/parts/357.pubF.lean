/-! what is only thought -/
def RT (fa fb : Nat → Nat → Int32) : Prop := fb 0 = fa 0 ∧ fb 12 = cpT 92 (fa 0) (fa 12) ∧ SX fa fb
section PF
variable {nT B : Nat} {nd nd2 : Nat → Option Nat} {c e : Nat → pE} {ad ad2 tx : Nat → Nat} {fi : Nat → Int32} {fa fb fc : Nat → Nat → Int32} {s : Nat → Int32}
/-- the thought ring, whatever it is -/
def Th (nT : Nat) (ad : Nat → Nat) (c e : Nat → pE) : Prop := ChB 200 c e ∧ ∃ u t, RingOK nT e ad 200 u t
theorem Th.of (hq : ChB 200 c e) {u : Nat → Int32} {t : Nat → Nat} (h : RingOK nT e ad 200 u t) : Th nT ad c e := ⟨hq, u, t, h⟩
theorem Inv.th (h : Inv nT c ad fi fa) : Th nT ad c c := ⟨ChB.rf, h.2.2.1⟩
theorem Inv.thR (h : Inv nT c ad fi fa) (ht : Th nT ad c e) : Rest e ad fi fa := h.1.cg (ht.1.rest B2') SX.rf
theorem C_think (hL : Lay nd ad (KC nT)) (r : RingOK nT c ad 100 s tx) (w : Wf s) (ht : Th nT ad c e) : ∃ f, cV (MM nd e) (ad 200) 2 (fX2_become (ad 200) (ad 100) (MM nd e)) = some (MM nd f) ∧ RingOK nT f ad 200 s tx ∧ ChB 200 c f := by
  obtain ⟨hq, u, t, hu⟩ := ht
  have r2 := RingOK.other B2' B1 (by decide) hq r
  obtain ⟨f, p1, p2, p3⟩ := C_become hL B2' B1 (by decide) r2 w hu
  exact ⟨f, by rw [cv_R hL B2' hu]; exact p1, p2, hq.tr p3⟩
theorem R_by (hR : Lay nd2 ad2 KR) : ∃ fb, fX8_laysBy (ad2 31) (MR nd2 ad2 fi fa) = some (MR nd2 ad2 fi fb) ∧ RT fa fb := by
  refine ⟨_, R_laysBy hR, upF_n (by decide), upF_s, SX.up (by omega)⟩
theorem R_back (hR : Lay nd2 ad2 KR) (h0 : ∀ j, 92 ≤ j → fc 0 j = fa 0 j) (h12 : fc 12 = cpT 92 (fa 0) (fa 12)) (hX : SX fa fc) : ∃ fd, fX8_laysBack (ad2 31) (MR nd2 ad2 fi fc) = some (MR nd2 ad2 fi fd) ∧ RT fa fd := by
  refine ⟨_, R_laysBack hR, ?_, by rw [upF_n (by decide)]; exact h12, hX.tr (SX.up (Or.inl rfl))⟩
  rw [upF_s, h12]
  exact cpT_back h0
theorem R_gm (hR : Lay nd2 ad2 KR) (w : Wf (fb 0)) {n : Nat} (hn : n < 5000) (h4 : nt (fb 0 4) + n < 2 ^ 30) : ∃ fc, fX8_goesMany (ad2 31) (nI n) (MR nd2 ad2 fi fb) = some (lsT n (fb 0), MR nd2 ad2 fi fc) ∧ fc 0 = itT n (fb 0) ∧ fc 12 = fb 12 ∧ SX fb fc := by
  obtain ⟨fc, p1, p2⟩ := R_goesMany (fi := fi) hR w hn h4
  refine ⟨fc, p1, by rw [p2.z, upF_s], by rw [p2 12 (by decide) (by decide), upF_n (by decide)], (SX.up (Or.inl rfl)).tr (SX.sc p2)⟩
theorem R_t1 (hR : Lay nd2 ad2 KR) (w : Wf (fb 0)) : ∃ fc, fX8_turn (ad2 31) (MR nd2 ad2 fi fb) = some ((turnS (fb 0)).1, MR nd2 ad2 fi fc) ∧ fc 0 = (turnS (fb 0)).2 ∧ fc 12 = fb 12 ∧ SX fb fc := by
  obtain ⟨fc, p1, p2⟩ := R_turn (fi := fi) hR w
  refine ⟨fc, p1, by rw [p2.z, upF_s], by rw [p2 12 (by decide) (by decide), upF_n (by decide)], (SX.up (Or.inl rfl)).tr (SX.sc p2)⟩
theorem L_behind (hL : Lay nd ad (KC nT)) (hR : Lay nd2 ad2 KR) (h : Inv nT c ad fi fa) (x a : Int32) : Sim nT nd nd2 ad ad2 c fi fa (fX7_behind (ad 0) x a) (fX8_behind (ad2 31) x a) := by
  obtain ⟨tx, r, w, h4⟩ := h.n
  by_cases hx : 0 ≤ x ∧ x ≤ 100
  · by_cases ha : 0 ≤ a ∧ a ≤ 5
    · obtain ⟨n, j1, -, j3⟩ := bt (a := 0) (b := 100) hx (by omega) (by omega)
      subst j1
      obtain ⟨f, p1, p2, p3⟩ := C_think hL r w h.th
      obtain ⟨e, q1, q2, q3⟩ := C_takeTurns hL B2' p2 w (n := n) (by omega) (by omega)
      have t1 := h.thR (Th.of p3 p2)
      have t2 := h.thR (Th.of (p3.tr q3) q2)
      obtain ⟨fb, a1, a2, a3, a4⟩ := R_by (fi := fi) (fa := fa) hR
      obtain ⟨fc, b1, b2, b3, b4⟩ := R_gm (fi := fi) (fb := fb) hR (by rw [a2]; exact w) (n := n) (by omega) (by rw [a2]; omega)
      rw [a2] at b1 b2
      obtain ⟨wN, -, wj⟩ := itT_ok w (n := n) (by omega)
      obtain ⟨fd, d1, d2, d3, d4⟩ := R_back (fi := fi) (fa := fa) (fc := fc) hR (fun j hj => by rw [b2]; exact wj j (by omega)) (by rw [b3]; exact a3) (a4.tr b4)
      have wN' : Wf (fc 0) := by rw [b2]; exact wN
      refine Sim.tht (r := if a = 0 then itT n (fa 0) 6 else if a = 1 then sprS (itT n (fa 0)) else if a = 2 then nI (wtS (itT n (fa 0))) else if a = 3 then itT n (fa 0) 8 else if a = 4 then itT n (fa 0) 9 else itT n (fa 0) 10) h ?_ ?_ (p3.tr q3) q2 d2 d4
      · simp only [fX7_behind, C_within, decide_eq_true hx, decide_eq_true ha, Option.bind_some, if_true, o_t hL h.1, o_n hL h.1, p1, o_t hL t1, cv_R hL B2' p2, q1, o_t hL t2, cg_6 hL B2' q2, cv_R hL B2' q2, C_spread hL B2' q2 wN, C_hadNone hL B2' q2 wN, cg_8 hL B2' q2, cg_9 hL B2' q2, cg_10 hL B2' q2, ite_some]
        (repeat' split) <;> rfl
      · simp only [fX8_behind, isIn_t k64_0 k64_100, isIn_t k64_0 k64_5, decide_eq_true hx, decide_eq_true ha, Option.bind_some, if_true, rcv hR, a1, b1, rg0 hR, rk6 hR, rk8 hR, rk9 hR, rk10 hR, R_spread hR wN', R_without hR wN', ite_some, d1, b2]
    · refine Sim.same (r := -1000000001) h ?_ ?_
      · simp only [fX7_behind, C_within, decide_eq_true hx, decide_eq_false ha, Option.bind_some, if_true, Bool.false_eq_true, if_false]
      · simp only [fX8_behind, isIn_t k64_0 k64_100, isIn_t k64_0 k64_5, decide_eq_true hx, decide_eq_false ha, Option.bind_some, if_true, Bool.false_eq_true, if_false]
  · refine Sim.same (r := -1000000001) h ?_ ?_
    · simp only [fX7_behind, C_within, decide_eq_false hx, Option.bind_some, Bool.false_eq_true, if_false]
    · simp only [fX8_behind, isIn_t k64_0 k64_100, decide_eq_false hx, Option.bind_some, Bool.false_eq_true, if_false]
theorem L_had (hL : Lay nd ad (KC nT)) (hR : Lay nd2 ad2 KR) (h : Inv nT c ad fi fa) (y x : Int32) : Sim nT nd nd2 ad ad2 c fi fa (fX7_had (ad 0) y x) (fX8_had (ad2 31) y x) := by
  obtain ⟨tx, r, w, h4⟩ := h.n
  have hC : fX2_isChild (ad 100) y (MM nd c) = some (chQ (fa 0) y) := C_isChild hL B1 r y
  cases hy : chQ (fa 0) y with
  | false =>
    refine Sim.same (r := -1000000001) h ?_ ?_
    · simp only [fX7_had, o_n hL h.1, cv_R hL B1 r, hC, hy, Option.bind_some, Bool.false_eq_true, if_false]
    · simp only [fX8_had, rcv hR, R_isC hR w, hy, Option.bind_some, Bool.false_eq_true, if_false]
  | true =>
    by_cases hx : 0 ≤ x ∧ x ≤ 100
    · obtain ⟨i, i1, i2, i3⟩ := chQ_t w hy
      subst i1
      obtain ⟨n, j1, -, j3⟩ := bt (a := 0) (b := 100) hx (by omega) (by omega)
      subst j1
      obtain ⟨f, p1, p2, p3⟩ := C_think hL r w h.th
      obtain ⟨e, q1, q2, q3⟩ := C_takeTurns hL B2' p2 w (n := n) (by omega) (by omega)
      have t1 := h.thR (Th.of p3 p2)
      have t2 := h.thR (Th.of (p3.tr q3) q2)
      obtain ⟨fb, a1, a2, a3, a4⟩ := R_by (fi := fi) (fa := fa) hR
      obtain ⟨fc, b1, b2, b3, b4⟩ := R_gm (fi := fi) (fb := fb) hR (by rw [a2]; exact w) (n := n) (by omega) (by rw [a2]; omega)
      rw [a2] at b1 b2
      obtain ⟨wN, -, wj⟩ := itT_ok w (n := n) (by omega)
      obtain ⟨fd, d1, d2, d3, d4⟩ := R_back (fi := fi) (fa := fa) (fc := fc) hR (fun j hj => by rw [b2]; exact wj j (by omega)) (by rw [b3]; exact a3) (a4.tr b4)
      have i2' : i < nt (itT n (fa 0) 0) := by rw [wj 0 (by omega)]; exact i2
      refine Sim.tht (r := itT n (fa 0) (13 + 3 * i)) h ?_ ?_ (p3.tr q3) q2 d2 d4
      · simp only [fX7_had, o_n hL h.1, cv_R hL B1 r, hC, hy, C_within, decide_eq_true hx, Option.bind_some, if_true, o_t hL h.1, p1, o_t hL t1, cv_R hL B2' p2, q1, o_t hL t2, cr_1 hL B2' q2, cl_ch hL B2' q2 i3, cc_1 hL B2' q2 i3 i2']
      · simp only [fX8_had, rcv hR, R_isC hR w, hy, isIn_t k64_0 k64_100, decide_eq_true hx, Option.bind_some, if_true, a1, b1, R_own1 hR (show i < 1000 by omega), d1, b2]
    · refine Sim.same (r := -1000000001) h ?_ ?_
      · simp only [fX7_had, o_n hL h.1, cv_R hL B1 r, hC, hy, C_within, decide_eq_false hx, Option.bind_some, if_true, Bool.false_eq_true, if_false]
      · simp only [fX8_had, rcv hR, R_isC hR w, hy, isIn_t k64_0 k64_100, decide_eq_false hx, Option.bind_some, if_true, Bool.false_eq_true, if_false]
/-- the first of so many, or -1 -/
def fsF (P : Nat → Bool) : Nat → Nat → Int32
  | 0, _ => -1
  | f + 1, k => if P k then nI k else fsF P f (k + 1)
theorem fsF_s (P : Nat → Bool) (f k : Nat) : fsF P (f + 1) k = if P k then nI k else fsF P f (k + 1) := rfl
def orN (v : Int32) : Int32 := if 0 ≤ v then v else -1000000005
theorem L_all (hL : Lay nd ad (KC nT)) (hR : Lay nd2 ad2 KR) (h : Inv nT c ad fi fa) : Sim nT nd nd2 ad ad2 c fi fa (fX7_all (ad 0)) (fX8_all (ad2 31)) := by
  obtain ⟨tx, r, w, h4⟩ := h.n
  obtain ⟨f0, p1, p2, p3⟩ := C_think hL r w h.th
  generalize hA : fsF (fun k => decide (wtS (itT k (fa 0)) = 0)) 61 0 = A
  have wz : ∀ k, wtS (itT k (fa 0)) ≤ nt (itT k (fa 0) 0) := by
    intro k
    have : ∀ n, wtF (itT k (fa 0)) n ≤ n := by
      intro n
      induction n with
      | zero => exact Nat.le_refl 0
      | succ n ih => rw [wtF_s]; split <;> omega
    exact this _
  have wz2 : ∀ k, k ≤ 61 → (nI (wtS (itT k (fa 0))) = 0 ↔ wtS (itT k (fa 0)) = 0) := by
    intro k hk
    obtain ⟨wi, -, -⟩ := itT_ok w (n := k) (by omega)
    obtain ⟨m, m1, m2, m3⟩ := wi.n0
    have := wz k
    exact nI_eq (b := 0) (by omega) (by omega)
  obtain ⟨res, l1, e, rfl, l2, u, l3⟩ := loop_gen (b := fX7_all_b0 (ad 0))
    (fun i st => ∃ e, st = (nI i, MM nd e) ∧ RingOK nT e ad 200 (itT i (fa 0)) tx ∧ ChB 200 c e ∧ fsF (fun k => decide (wtS (itT k (fa 0)) = 0)) (61 - i) i = A)
    (fun res => ∃ e, res = (orN A, MM nd e) ∧ ChB 200 c e ∧ ∃ u, RingOK nT e ad 200 u tx) 61 (by
      rintro i st ⟨e, rfl, hr, hq, hf⟩ hi
      obtain ⟨wi, -, -⟩ := itT_ok w (n := i) (by omega)
      have t1 := h.thR (Th.of hq hr)
      by_cases hi2 : i < 61
      · rw [show 61 - i = (61 - (i + 1)) + 1 by omega, fsF_s] at hf
        simp only [fX7_all_b0, if_neg (show ¬ (60 : Int32) < nI i from nI_nlt (a := 60) (by omega) (by omega)), o_t hL t1, cv_R hL B2' hr, C_hadNone hL B2' hr wi, Option.bind_some]
        by_cases hz : wtS (itT i (fa 0)) = 0
        · rw [if_pos (decide_eq_true hz)] at hf
          rw [if_pos ((wz2 i (by omega)).mpr hz)]
          refine Or.inl ⟨_, rfl, e, ?_, hq, _, hr⟩
          rw [← hf]
          unfold orN
          rw [if_pos (nI_pos' (by omega))]
        · rw [if_neg (by simpa using hz)] at hf
          rw [if_neg (fun z => hz ((wz2 i (by omega)).mp z))]
          obtain ⟨e2, b1, b2, b3⟩ := C_takeTurn hL B2' hr wi
          simp only [b1, Option.bind_some, ixp1]
          exact Or.inr ⟨hi2, _, rfl, e2, rfl, b2, hq.tr b3, hf⟩
      · have : i = 61 := by omega
        subst this
        simp only [fX7_all_b0, if_pos (show (60 : Int32) < nI 61 by decide)]
        refine Or.inl ⟨_, rfl, e, ?_, hq, _, hr⟩
        rw [← hf]; rfl)
    bigN 0 (0, MM nd f0) ⟨f0, rfl, p2, p3, hA⟩ (by omega) (by rw [bigN_eq]; omega)
  obtain ⟨fb, a1, a2, a3, a4⟩ := R_by (fi := fi) (fa := fa) hR
  obtain ⟨res, k1, fc, rfl, k2, k3, k4⟩ := loop_gen (b := fX8_all_b0 (ad2 31))
    (fun i st => ∃ v fc, st = (v, nI i, MR nd2 ad2 fi fc) ∧ fc 0 = itT i (fa 0) ∧ fc 12 = cpT 92 (fa 0) (fa 12) ∧ SX fa fc ∧ ((v = -1 ∧ fsF (fun k => decide (wtS (itT k (fa 0)) = 0)) (61 - i) i = A) ∨ (0 ≤ v ∧ v = A)))
    (fun res => ∃ fc, res = (A, MR nd2 ad2 fi fc) ∧ (∀ j, 92 ≤ j → fc 0 j = fa 0 j) ∧ fc 12 = cpT 92 (fa 0) (fa 12) ∧ SX fa fc) 61 (by
      rintro i st ⟨v, fc, rfl, h0, h12, hX, hv⟩ hi
      obtain ⟨wi, -, wj⟩ := itT_ok w (n := i) (by omega)
      have hj : ∀ j, 92 ≤ j → fc 0 j = fa 0 j := fun j hj => by rw [h0]; exact wj j (by omega)
      rcases hv with ⟨rfl, hf⟩ | ⟨v0, rfl⟩
      · by_cases hi2 : i < 61
        · rw [show 61 - i = (61 - (i + 1)) + 1 by omega, fsF_s] at hf
          have wf : Wf (fc 0) := by rw [h0]; exact wi
          obtain ⟨fd, b1, b2, b3, b4⟩ := R_t1 (fi := fi) hR wf
          simp only [fX8_all_b0, if_neg (show ¬ (60 : Int32) < nI i from nI_nlt (a := 60) (by omega) (by omega)), show ¬ (0 : Int32) ≤ -1 by decide, if_false, rcv hR, R_without hR wf, Option.bind_some, ite_some, b1, ixp1, h0]
          refine Or.inr ⟨hi2, _, rfl, _, fd, rfl, by rw [b2, h0]; rfl, b3.trans h12, hX.tr b4, ?_⟩
          by_cases hz : wtS (itT i (fa 0)) = 0
          · rw [if_pos (decide_eq_true hz)] at hf
            rw [if_pos ((wz2 i (by omega)).mpr hz)]
            exact Or.inr ⟨nI_pos' (by omega), hf⟩
          · rw [if_neg (by simpa using hz)] at hf
            rw [if_neg (fun z => hz ((wz2 i (by omega)).mp z))]
            exact Or.inl ⟨rfl, hf⟩
        · have : i = 61 := by omega
          subst this
          simp only [fX8_all_b0, if_pos (show (60 : Int32) < nI 61 by decide)]
          exact Or.inl ⟨_, rfl, fc, by rw [← hf]; rfl, hj, h12, hX⟩
      · refine Or.inl ⟨_, ?_, fc, rfl, hj, h12, hX⟩
        simp only [fX8_all_b0, if_pos v0, ite_self])
    bigN 0 (-1, 0, MR nd2 ad2 fi fb) ⟨-1, fb, rfl, a2, a3, a4, Or.inl ⟨rfl, hA⟩⟩ (by omega) (by rw [bigN_eq]; omega)
  obtain ⟨fd, d1, d2, d3, d4⟩ := R_back (fi := fi) hR k2 k3 k4
  refine Sim.tht (r := orN A) h ?_ ?_ l2 l3 d2 d4
  · simp only [fX7_all, o_t hL h.1, o_n hL h.1, Option.bind_some, p1, l1]
  · simp only [fX8_all, rcv hR, a1, Option.bind_some, k1, d1, fX8_orNone, ite_some]
    rfl
theorem L_evens (hL : Lay nd ad (KC nT)) (hR : Lay nd2 ad2 KR) (h : Inv nT c ad fi fa) (x : Int32) : Sim nT nd nd2 ad ad2 c fi fa (fX7_evens (ad 0) x) (fX8_evens (ad2 31) x) := by
  obtain ⟨tx, r, w, h4⟩ := h.n
  by_cases hx : 0 ≤ x ∧ x ≤ 99
  · obtain ⟨f0, p1, p2, p3⟩ := C_think hL r w h.th
    generalize hA : fsF (fun k => !decide (x < sprS (itT k (fa 0)))) 61 0 = A
    obtain ⟨res, l1, e, rfl, l2, u, l3⟩ := loop_gen (b := fX7_evens_b0 (ad 0) x)
      (fun i st => ∃ e, st = (nI i, MM nd e) ∧ RingOK nT e ad 200 (itT i (fa 0)) tx ∧ ChB 200 c e ∧ fsF (fun k => !decide (x < sprS (itT k (fa 0)))) (61 - i) i = A)
      (fun res => ∃ e, res = (orN A, MM nd e) ∧ ChB 200 c e ∧ ∃ u, RingOK nT e ad 200 u tx) 61 (by
        rintro i st ⟨e, rfl, hr, hq, hf⟩ hi
        obtain ⟨wi, -, -⟩ := itT_ok w (n := i) (by omega)
        have t1 := h.thR (Th.of hq hr)
        by_cases hi2 : i < 61
        · rw [show 61 - i = (61 - (i + 1)) + 1 by omega, fsF_s] at hf
          simp only [fX7_evens_b0, if_neg (show ¬ (60 : Int32) < nI i from nI_nlt (a := 60) (by omega) (by omega)), o_t hL t1, cv_R hL B2' hr, C_spread hL B2' hr wi, Option.bind_some]
          by_cases hz : x < sprS (itT i (fa 0))
          · rw [if_neg (by simpa using hz)] at hf
            rw [if_pos hz]
            obtain ⟨e2, b1, b2, b3⟩ := C_takeTurn hL B2' hr wi
            simp only [b1, Option.bind_some, ixp1]
            exact Or.inr ⟨hi2, _, rfl, e2, rfl, b2, hq.tr b3, hf⟩
          · rw [if_pos (by simpa using hz)] at hf
            rw [if_neg hz]
            refine Or.inl ⟨_, rfl, e, ?_, hq, _, hr⟩
            rw [← hf]
            unfold orN
            rw [if_pos (nI_pos' (by omega))]
        · have : i = 61 := by omega
          subst this
          simp only [fX7_evens_b0, if_pos (show (60 : Int32) < nI 61 by decide)]
          refine Or.inl ⟨_, rfl, e, ?_, hq, _, hr⟩
          rw [← hf]; rfl)
      bigN 0 (0, MM nd f0) ⟨f0, rfl, p2, p3, hA⟩ (by omega) (by rw [bigN_eq]; omega)
    obtain ⟨fb, a1, a2, a3, a4⟩ := R_by (fi := fi) (fa := fa) hR
    obtain ⟨res, k1, fc, rfl, k2, k3, k4⟩ := loop_gen (b := fX8_evens_b0 (ad2 31) x)
      (fun i st => ∃ v fc, st = (v, nI i, MR nd2 ad2 fi fc) ∧ fc 0 = itT i (fa 0) ∧ fc 12 = cpT 92 (fa 0) (fa 12) ∧ SX fa fc ∧ ((v = -1 ∧ fsF (fun k => !decide (x < sprS (itT k (fa 0)))) (61 - i) i = A) ∨ (0 ≤ v ∧ v = A)))
      (fun res => ∃ fc, res = (A, MR nd2 ad2 fi fc) ∧ (∀ j, 92 ≤ j → fc 0 j = fa 0 j) ∧ fc 12 = cpT 92 (fa 0) (fa 12) ∧ SX fa fc) 61 (by
        rintro i st ⟨v, fc, rfl, h0, h12, hX, hv⟩ hi
        obtain ⟨wi, -, wj⟩ := itT_ok w (n := i) (by omega)
        have hj : ∀ j, 92 ≤ j → fc 0 j = fa 0 j := fun j hj => by rw [h0]; exact wj j (by omega)
        rcases hv with ⟨rfl, hf⟩ | ⟨v0, rfl⟩
        · by_cases hi2 : i < 61
          · rw [show 61 - i = (61 - (i + 1)) + 1 by omega, fsF_s] at hf
            have wf : Wf (fc 0) := by rw [h0]; exact wi
            obtain ⟨fd, b1, b2, b3, b4⟩ := R_t1 (fi := fi) hR wf
            simp only [fX8_evens_b0, if_neg (show ¬ (60 : Int32) < nI i from nI_nlt (a := 60) (by omega) (by omega)), show ¬ (0 : Int32) ≤ -1 by decide, if_false, rcv hR, R_spread hR wf, Option.bind_some, ite_some, b1, ixp1, h0]
            refine Or.inr ⟨hi2, _, rfl, _, fd, rfl, by rw [b2, h0]; rfl, b3.trans h12, hX.tr b4, ?_⟩
            by_cases hz : x < sprS (itT i (fa 0))
            · rw [if_neg (by simpa using hz)] at hf
              rw [if_pos hz]
              exact Or.inl ⟨rfl, hf⟩
            · rw [if_pos (by simpa using hz)] at hf
              rw [if_neg hz]
              exact Or.inr ⟨nI_pos' (by omega), hf⟩
          · have : i = 61 := by omega
            subst this
            simp only [fX8_evens_b0, if_pos (show (60 : Int32) < nI 61 by decide)]
            exact Or.inl ⟨_, rfl, fc, by rw [← hf]; rfl, hj, h12, hX⟩
        · refine Or.inl ⟨_, ?_, fc, rfl, hj, h12, hX⟩
          simp only [fX8_evens_b0, if_pos v0, ite_self])
      bigN 0 (-1, 0, MR nd2 ad2 fi fb) ⟨-1, fb, rfl, a2, a3, a4, Or.inl ⟨rfl, hA⟩⟩ (by omega) (by rw [bigN_eq]; omega)
    obtain ⟨fd, d1, d2, d3, d4⟩ := R_back (fi := fi) hR k2 k3 k4
    refine Sim.tht (r := orN A) h ?_ ?_ l2 l3 d2 d4
    · simp only [fX7_evens, C_within, decide_eq_true hx, if_true, o_t hL h.1, o_n hL h.1, Option.bind_some, p1, l1]
    · simp only [fX8_evens, isIn_t k64_0 k64_99, decide_eq_true hx, if_true, rcv hR, a1, Option.bind_some, k1, d1, fX8_orNone, ite_some]
      rfl
  · refine Sim.same (r := -1000000001) h ?_ ?_
    · simp only [fX7_evens, C_within, decide_eq_false hx, Option.bind_some, Bool.false_eq_true, if_false]
    · simp only [fX8_evens, isIn_t k64_0 k64_99, decide_eq_false hx, Option.bind_some, Bool.false_eq_true, if_false]
end PF
