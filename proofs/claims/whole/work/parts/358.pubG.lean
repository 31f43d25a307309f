section PG
variable {nT B : Nat} {nd nd2 : Nat → Option Nat} {c e : Nat → pE} {ad ad2 tx : Nat → Nat} {fi : Nat → Int32} {fa fb fc : Nat → Nat → Int32} {s : Nat → Int32}
theorem R_kd (hR : Lay nd2 ad2 KR) (w : Wf (fb 0)) : loopF (fX8_steer_b1 (ad2 31)) bigN ((0 : Int32), MR nd2 ad2 fi fb) = some (MR nd2 ad2 fi (upF fb 0 (kdS (fb 0) (nt (fb 0 1))))) := by
  obtain ⟨n, n1, n2, n3⟩ := w.n1
  have k1 : ∀ i, kdS (fb 0) i 1 = nI n := fun i => (kdS_n (fun j hj => by omega)).trans n1
  have := loop_for (b := fX8_steer_b1 (ad2 31)) (fun i => (nI i, MR nd2 ad2 fi (upF fb 0 (kdS (fb 0) i)))) n (MR nd2 ad2 fi (upF fb 0 (kdS (fb 0) n))) (by omega) (fun i hi => by
    simp only [fX8_steer_b1, rg0 hR, rk1 hR, upF_s, k1, Option.bind_some, if_neg (nI_ge hi (show n < 2 ^ 31 by omega)), ix42, rs0 hR (show 42 + 3 * i < 3092 by omega), upF_2, ixp1]
    rfl) (by
    simp only [fX8_steer_b1, rg0 hR, rk1 hR, upF_s, k1, Option.bind_some, if_pos (nI_le (Nat.le_refl n) (show n < 2 ^ 31 by omega))])
  rw [n3]
  rw [show kdS (fb 0) 0 = fb 0 from rfl, upF_id] at this
  exact this
/-- the last of so many, or -1 -/
def fdF (P : Nat → Bool) : Nat → Int32
  | 0 => -1
  | k + 1 => if P k then nI k else fdF P k
theorem fdF_s (P : Nat → Bool) (k : Nat) : fdF P (k + 1) = if P k then nI k else fdF P k := rfl
def strP (s : Nat → Int32) (i n k : Nat) : Bool := decide (lsT (n - k) (kdS (itT k s) (nt (itT k s 1))) = nI i)
theorem L_steer (hL : Lay nd ad (KC nT)) (hR : Lay nd2 ad2 KR) (h : Inv nT c ad fi fa) (y x : Int32) : Sim nT nd nd2 ad ad2 c fi fa (fX7_steer (ad 0) y x) (fX8_steer (ad2 31) y x) := by
  obtain ⟨tx, r, w, h4⟩ := h.n
  have hC : fX2_isChild (ad 100) y (MM nd c) = some (chQ (fa 0) y) := C_isChild hL B1 r y
  cases hy : chQ (fa 0) y with
  | false =>
    refine Sim.same (r := -1000000001) h ?_ ?_
    · simp only [fX7_steer, o_n hL h.1, cv_R hL B1 r, hC, hy, Option.bind_some, Bool.false_eq_true, if_false]
    · simp only [fX8_steer, rcv hR, R_isC hR w, hy, Option.bind_some, Bool.false_eq_true, if_false]
  | true =>
    by_cases hx : 1 ≤ x ∧ x ≤ 30
    · obtain ⟨i, i1, i2, i3⟩ := chQ_t w hy
      subst i1
      obtain ⟨n, j1, j2, j3⟩ := bt (a := 1) (b := 30) hx (by omega) (by omega)
      subst j1
      generalize hA : fdF (strP (fa 0) i n) n = A
      have kW : ∀ k, k ≤ 30 → Wf (kdS (itT k (fa 0)) (nt (itT k (fa 0) 1))) ∧ nt (kdS (itT k (fa 0)) (nt (itT k (fa 0) 1)) 4) = nt (fa 0 4) + k ∧ ∀ j, 72 ≤ j → kdS (itT k (fa 0)) (nt (itT k (fa 0) 1)) j = fa 0 j := by
        intro k hk
        obtain ⟨wk, wk4, wkj⟩ := itT_ok w (n := k) (by omega)
        obtain ⟨m, m1, m2, m3⟩ := wk.n1
        refine ⟨wk.kd (by omega), ?_, fun j hj => ?_⟩
        · rw [kdS_n (fun j hj => by omega), wk4, nt_nI (by omega)]
        · rw [kdS_n (fun i hi => by omega), wkj j (by omega)]
      have idx : ∀ k, 1 ≤ k → nI k - 1 = nI (k - 1) := fun k hk => pk_sub (b := 1) hk
      have idx2 : ∀ k, 1 ≤ k → nI (k - 1) + (-1) = nI (k - 1) - 1 := fun k _ => by rw [Int32.sub_eq_add_neg]
      obtain ⟨res, l1, e, rfl, l2, u, t, l3⟩ := loop_gen (b := fX7_steer_b0 (ad 0) (nI i) (nI n))
        (fun q st => ∃ e, st = (nI (n - q) - 1, MM nd e) ∧ Th nT ad c e ∧ fdF (strP (fa 0) i n) (n - q) = A)
        (fun res => ∃ e, res = (orN A, MM nd e) ∧ Th nT ad c e) n (by
          rintro q st ⟨e, rfl, hT, hf⟩ hq
          have t1 := h.thR hT
          by_cases hq2 : q < n
          · generalize hk : n - q - 1 = k
            have hnk : n - q = k + 1 := by omega
            rw [hnk, fdF_s] at hf
            rw [hnk, nI_pred]
            obtain ⟨f, p1, p2, p3⟩ := C_think hL r w hT
            obtain ⟨e1, q1, q2, q3⟩ := C_takeTurns hL B2' p2 w (n := k) (by omega) (by omega)
            obtain ⟨wk, wk4, wkj⟩ := itT_ok w (n := k) (by omega)
            obtain ⟨e2, q4, q5, q6⟩ := C_makeEvenings hL B2' q2 wk
            obtain ⟨wK, wK4, wKj⟩ := kW k (by omega)
            obtain ⟨e3, q7, q8, q9⟩ := C_takeTurns hL B2' q5 wK (n := n - k) (by omega) (by omega)
            have tf := h.thR (Th.of p3 p2)
            have te1 := h.thR (Th.of (p3.tr q3) q2)
            have te2 := h.thR (Th.of ((p3.tr q3).tr q6) q5)
            have hTe := Th.of (((p3.tr q3).tr q6).tr q9) q8
            simp only [fX7_steer_b0, if_neg (nI_pos (show k < 2 ^ 31 by omega)), o_t hL t1, o_n hL t1, p1, o_t hL tf, cv_R hL B2' p2, q1, o_t hL te1, cv_R hL B2' q2, q4, o_t hL te2, cv_R hL B2' q5, Option.bind_some]
            rw [pk_sub (by omega), q7]
            simp only [Option.bind_some]
            by_cases hz : lsT (n - k) (kdS (itT k (fa 0)) (nt (itT k (fa 0) 1))) = nI i
            · rw [if_pos (show strP (fa 0) i n k = true from decide_eq_true hz)] at hf
              rw [if_pos hz]
              refine Or.inl ⟨_, rfl, e3, ?_, hTe⟩
              rw [← hf]
              unfold orN
              rw [if_pos (nI_pos' (by omega))]
            · rw [if_neg (show ¬ strP (fa 0) i n k = true from fun z => hz (of_decide_eq_true z))] at hf
              rw [if_neg hz]
              refine Or.inr ⟨hq2, _, rfl, e3, ?_, hTe, ?_⟩
              · rw [Int32.sub_eq_add_neg]
              · exact hf
          · rw [show n - q = 0 by omega] at hf ⊢
            simp only [fX7_steer_b0, if_pos (show nI 0 - 1 < 0 by decide)]
            exact Or.inl ⟨_, rfl, e, by rw [← hf]; rfl, hT⟩)
        bigN 0 (nI n - 1, MM nd c) ⟨c, rfl, h.th, hA⟩ (by omega) (by rw [bigN_eq]; omega)
      obtain ⟨fb, a1, a2, a3, a4⟩ := R_by (fi := fi) (fa := fa) hR
      obtain ⟨res, k1, fc, rfl, k2⟩ := loop_gen (b := fX8_steer_b0 (ad2 31) (nI i) (nI n))
        (fun q st => ∃ v fc, st = (v, nI (n - q) - 1, MR nd2 ad2 fi fc) ∧ RT fa fc ∧ ((v = -1 ∧ fdF (strP (fa 0) i n) (n - q) = A) ∨ (0 ≤ v ∧ v = A)))
        (fun res => ∃ fc, res = (A, MR nd2 ad2 fi fc) ∧ RT fa fc) n (by
          rintro q st ⟨v, fc, rfl, hT, hv⟩ hq
          rcases hv with ⟨rfl, hf⟩ | ⟨v0, rfl⟩
          · by_cases hq2 : q < n
            · generalize hk : n - q - 1 = k
              have hnk : n - q = k + 1 := by omega
              rw [hnk, fdF_s] at hf
              rw [hnk, nI_pred]
              obtain ⟨h0, h12, hX⟩ := hT
              obtain ⟨fd, b1, b2, b3, b4⟩ := R_gm (fi := fi) (fb := fc) hR (by rw [h0]; exact w) (n := k) (by omega) (by rw [h0]; omega)
              rw [h0] at b1 b2
              obtain ⟨wk, wk4, wkj⟩ := itT_ok w (n := k) (by omega)
              have kd := R_kd (fi := fi) (fb := fd) hR (by rw [b2]; exact wk)
              rw [b2] at kd
              obtain ⟨wK, wK4, wKj⟩ := kW k (by omega)
              obtain ⟨fe, g1, g2, g3, g4⟩ := R_gm (fi := fi) (fb := upF fd 0 (kdS (itT k (fa 0)) (nt (itT k (fa 0) 1)))) hR (by rw [upF_s]; exact wK) (n := n - k) (by omega) (by rw [upF_s]; omega)
              rw [upF_s] at g1 g2
              rw [upF_n (by decide)] at g3
              obtain ⟨wN, -, wNj⟩ := itT_ok wK (n := n - k) (by omega)
              obtain ⟨fg, d1, d2⟩ := R_back (fi := fi) (fa := fa) (fc := fe) hR (fun j hj => by rw [g2, wNj j (by omega), wKj j (by omega)]) (by rw [g3, b3]; exact h12) (((hX.tr b4).tr (SX.up (Or.inl rfl))).tr g4)
              simp only [fX8_steer_b0, if_neg (nI_pos (show k < 2 ^ 31 by omega)), show ¬ (0 : Int32) ≤ -1 by decide, if_false, rcv hR, b1, kd, Option.bind_some]
              rw [pk_sub (by omega), g1]
              simp only [Option.bind_some, ite_some, d1, rcv hR]
              refine Or.inr ⟨hq2, _, rfl, (if lsT (n - k) (kdS (itT k (fa 0)) (nt (itT k (fa 0) 1))) = nI i then nI k else -1), fg, ?_, d2, ?_⟩
              · rw [Int32.sub_eq_add_neg]
              · by_cases hz : lsT (n - k) (kdS (itT k (fa 0)) (nt (itT k (fa 0) 1))) = nI i
                · rw [if_pos (show strP (fa 0) i n k = true from decide_eq_true hz)] at hf
                  rw [if_pos hz]
                  exact Or.inr ⟨nI_pos' (by omega), hf⟩
                · rw [if_neg (show ¬ strP (fa 0) i n k = true from fun z => hz (of_decide_eq_true z))] at hf
                  rw [if_neg hz]
                  exact Or.inl ⟨rfl, hf⟩
            · rw [show n - q = 0 by omega] at hf ⊢
              simp only [fX8_steer_b0, if_pos (show nI 0 - 1 < 0 by decide)]
              exact Or.inl ⟨_, rfl, fc, by rw [← hf]; rfl, hT⟩
          · refine Or.inl ⟨_, ?_, fc, rfl, hT⟩
            simp only [fX8_steer_b0, if_pos v0, ite_self])
        bigN 0 (-1, nI n - 1, MR nd2 ad2 fi fb) ⟨-1, fb, rfl, ⟨a2, a3, a4⟩, Or.inl ⟨rfl, hA⟩⟩ (by omega) (by rw [bigN_eq]; omega)
      refine Sim.tht (r := orN A) h ?_ ?_ l2 l3 k2.1 k2.2.2
      · simp only [fX7_steer, o_n hL h.1, cv_R hL B1 r, hC, hy, C_within, decide_eq_true hx, if_true, Option.bind_some, l1]
      · simp only [fX8_steer, rcv hR, R_isC hR w, hy, isIn_t k64_1 k64_30, decide_eq_true hx, if_true, a1, Option.bind_some, k1, fX8_orNone, ite_some]
        rfl
    · refine Sim.same (r := -1000000001) h ?_ ?_
      · simp only [fX7_steer, o_n hL h.1, cv_R hL B1 r, hC, hy, C_within, decide_eq_false hx, Option.bind_some, if_true, Bool.false_eq_true, if_false]
      · simp only [fX8_steer, rcv hR, R_isC hR w, hy, isIn_t k64_1 k64_30, decide_eq_false hx, Option.bind_some, if_true, Bool.false_eq_true, if_false]
/-- who pays -/
def pyH (s : Nat → Int32) (i n k : Nat) : Int32 := itT n (upd s (12 + 0 + 3 * i) (nI (k + 1))) (13 + 3 * i)
def pyF (s : Nat → Int32) (i n : Nat) : Nat → Int32 × Int32
  | 0 => (0, -1)
  | k + 1 => if pyH s i n k ≤ (pyF s i n k).2 then pyF s i n k else (nI (k + 1), pyH s i n k)
theorem pyF_s (s : Nat → Int32) (i n k : Nat) : pyF s i n (k + 1) = if pyH s i n k ≤ (pyF s i n k).2 then pyF s i n k else (nI (k + 1), pyH s i n k) := rfl
theorem L_pays (hL : Lay nd ad (KC nT)) (hR : Lay nd2 ad2 KR) (h : Inv nT c ad fi fa) (y x a : Int32) : Sim nT nd nd2 ad ad2 c fi fa (fX7_pays (ad 0) y x a) (fX8_pays (ad2 31) y x a) := by
  obtain ⟨tx, r, w, h4⟩ := h.n
  have hC : fX2_isChild (ad 100) y (MM nd c) = some (chQ (fa 0) y) := C_isChild hL B1 r y
  cases hy : chQ (fa 0) y with
  | false =>
    refine Sim.same (r := -1000000001) h ?_ ?_
    · simp only [fX7_pays, o_n hL h.1, cv_R hL B1 r, hC, hy, Option.bind_some, Bool.false_eq_true, if_false]
    · simp only [fX8_pays, rcv hR, R_isC hR w, hy, Option.bind_some, Bool.false_eq_true, if_false]
  | true =>
    by_cases hx : 1 ≤ x ∧ x ≤ 60
    · by_cases ha : 0 ≤ a ∧ a ≤ 1
      · obtain ⟨i, i1, i2, i3⟩ := chQ_t w hy
        subst i1
        obtain ⟨n, j1, j2, j3⟩ := bt (a := 1) (b := 60) hx (by omega) (by omega)
        subst j1
        have uW : ∀ k, k < 9 → Wf (upd (fa 0) (12 + 0 + 3 * i) (nI (k + 1))) := fun k hk => Wf.chu w (by omega) i3 (fun _ => ⟨k + 1, rfl, by omega, by omega⟩) (fun z => by cases z) (fun z => by cases z)
        have u4 : ∀ k, nt (upd (fa 0) (12 + 0 + 3 * i) (nI (k + 1)) 4) = nt (fa 0 4) := fun k => by rw [upd_n (by omega)]
        obtain ⟨res, l1, e, rfl, l2, u, t, l3⟩ := loop_rel (b := fX7_pays_b0 (ad 0) (nI i) (nI n)) (s := ((0 : Int32), (-1 : Int32), (1 : Int32), MM nd c))
          (fun k st => ∃ e, st = ((pyF (fa 0) i n k).1, (pyF (fa 0) i n k).2, nI (k + 1), MM nd e) ∧ Th nT ad c e)
          (fun res => ∃ e, res = ((pyF (fa 0) i n 9).1, (pyF (fa 0) i n 9).2, MM nd e) ∧ Th nT ad c e) 9 (by omega) ⟨c, rfl, h.th⟩ (by
            rintro k st hk ⟨e, rfl, hT⟩
            have t1 := h.thR hT
            obtain ⟨f, p1, p2, p3⟩ := C_think hL r w hT
            have tf := h.thR (Th.of p3 p2)
            obtain ⟨e1, q1, q2, q3⟩ := cp_c (f := 0) (v := nI (k + 1)) hL B2' p2 i3 i2 (by omega)
            have te1 := h.thR (Th.of (p3.tr q3) q2)
            obtain ⟨e2, q4, q5, q6⟩ := C_takeTurns hL B2' q2 (uW k hk) (n := n) (by omega) (by rw [u4]; omega)
            have te2 := h.thR (Th.of ((p3.tr q3).tr q6) q5)
            obtain ⟨wN, -, wNj⟩ := itT_ok (uW k hk) (n := n) (by rw [u4]; omega)
            have i2' : i < nt (itT n (upd (fa 0) (12 + 0 + 3 * i) (nI (k + 1))) 0) := by rw [wNj 0 (by omega), upd_n (by omega)]; exact i2
            simp only [fX7_pays_b0, if_neg (show ¬ (9 : Int32) < nI (k + 1) from nI_nlt (a := 9) (by omega) (by omega)), o_t hL t1, o_n hL t1, p1, o_t hL tf, cr_1 hL B2' p2, cl_ch hL B2' p2 i3, q1, o_t hL te1, cv_R hL B2' q2, q4, o_t hL te2, cr_1 hL B2' q5, cl_ch hL B2' q5 i3, cc_1 hL B2' q5 i3 i2', Option.bind_some, ixp1, ite_some]
            refine ⟨_, rfl, e2, ?_, Th.of ((p3.tr q3).tr q6) q5⟩
            rw [pyF_s]
            unfold pyH
            split <;> rfl)
          (by
            rintro st ⟨e, rfl, hT⟩
            simp only [fX7_pays_b0, if_pos (show (9 : Int32) < nI (9 + 1) by decide)]
            exact ⟨_, rfl, e, rfl, hT⟩)
        obtain ⟨fb, a1, a2, a3, a4⟩ := R_by (fi := fi) (fa := fa) hR
        obtain ⟨res, k1, fc, rfl, k2⟩ := loop_rel (b := fX8_pays_b0 (ad2 31) (nI i) (nI n)) (s := ((0 : Int32), (-1 : Int32), (1 : Int32), MR nd2 ad2 fi fb))
          (fun k st => ∃ fc, st = ((pyF (fa 0) i n k).1, (pyF (fa 0) i n k).2, nI (k + 1), MR nd2 ad2 fi fc) ∧ RT fa fc)
          (fun res => ∃ fc, res = ((pyF (fa 0) i n 9).1, (pyF (fa 0) i n 9).2, MR nd2 ad2 fi fc) ∧ RT fa fc) 9 (by omega) ⟨fb, rfl, a2, a3, a4⟩ (by
            rintro k st hk ⟨fc, rfl, h0, h12, hX⟩
            obtain ⟨fd, b1, b2, b3, b4⟩ := R_gm (fi := fi) (fb := upF fc 0 (upd (fa 0) (12 + 0 + 3 * i) (nI (k + 1)))) hR (by rw [upF_s]; exact uW k hk) (n := n) (by omega) (by rw [upF_s, u4]; omega)
            rw [upF_s] at b1 b2
            rw [upF_n (by decide)] at b3
            obtain ⟨wN, -, wNj⟩ := itT_ok (uW k hk) (n := n) (by rw [u4]; omega)
            obtain ⟨fg, d1, d2⟩ := R_back (fi := fi) (fa := fa) (fc := fd) hR (fun j hj => by rw [b2, wNj j (by omega), upd_n (by omega)]) (by rw [b3]; exact h12) ((hX.tr (SX.up (Or.inl rfl))).tr b4)
            simp only [fX8_pays_b0, if_neg (show ¬ (9 : Int32) < nI (k + 1) from nI_nlt (a := 9) (by omega) (by omega)), rg0 hR, Option.bind_some, ix12]
            rw [rs0 hR (by omega), h0, show 12 + 3 * i = 12 + 0 + 3 * i by omega]
            simp only [rcv hR, b1, Option.bind_some, R_own1 hR (show i < 1000 by omega), d1, b2, ite_some, ixp1]
            refine ⟨_, rfl, fg, ?_, d2⟩
            rw [pyF_s]
            unfold pyH
            split <;> rfl)
          (by
            rintro st ⟨fc, rfl, hT⟩
            simp only [fX8_pays_b0, if_pos (show (9 : Int32) < nI (9 + 1) by decide)]
            exact ⟨_, rfl, fc, rfl, hT⟩)
        refine Sim.tht (r := if a = 0 then (pyF (fa 0) i n 9).1 else (pyF (fa 0) i n 9).2) h ?_ ?_ l2 l3 k2.1 k2.2.2
        · simp only [fX7_pays, o_n hL h.1, cv_R hL B1 r, hC, hy, C_within, decide_eq_true hx, decide_eq_true ha, if_true, Option.bind_some, l1]
          split <;> rfl
        · simp only [fX8_pays, rcv hR, R_isC hR w, hy, isIn_t k64_1 k64_60, isIn_t k64_0 k64_1, decide_eq_true hx, decide_eq_true ha, if_true, a1, Option.bind_some, k1]
          split <;> rfl
      · refine Sim.same (r := -1000000001) h ?_ ?_
        · simp only [fX7_pays, o_n hL h.1, cv_R hL B1 r, hC, hy, C_within, decide_eq_true hx, decide_eq_false ha, Option.bind_some, if_true, Bool.false_eq_true, if_false]
        · simp only [fX8_pays, rcv hR, R_isC hR w, hy, isIn_t k64_1 k64_60, isIn_t k64_0 k64_1, decide_eq_true hx, decide_eq_false ha, Option.bind_some, if_true, Bool.false_eq_true, if_false]
    · refine Sim.same (r := -1000000001) h ?_ ?_
      · simp only [fX7_pays, o_n hL h.1, cv_R hL B1 r, hC, hy, C_within, decide_eq_false hx, Option.bind_some, if_true, Bool.false_eq_true, if_false]
      · simp only [fX8_pays, rcv hR, R_isC hR w, hy, isIn_t k64_1 k64_60, decide_eq_false hx, Option.bind_some, if_true, Bool.false_eq_true, if_false]
end PG
