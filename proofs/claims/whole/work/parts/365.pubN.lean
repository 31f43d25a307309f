section PN
variable {nT B : Nat} {nd nd2 : Nat → Option Nat} {c e : Nat → pE} {ad ad2 tx : Nat → Nat} {fi fj : Nat → Int32} {fa fb fc : Nat → Nat → Int32} {s u : Nat → Int32}
theorem R_sc (hR : Lay nd2 ad2 KR) (w : Wf (fb 0)) (v : Int32) : loopF (fX8_filmed_b1 (ad2 31) v) bigN ((0 : Int32), MR nd2 ad2 fi fb) = some (MR nd2 ad2 fi (upF fb 0 (scS (fb 0) v (nt (fb 0 1))))) := by
  obtain ⟨n, n1, n2, n3⟩ := w.n1
  have k1 : ∀ i, scS (fb 0) v i 1 = nI n := fun i => (scS_n (fun j hj => by omega)).trans n1
  have := loop_for (b := fX8_filmed_b1 (ad2 31) v) (fun i => (nI i, MR nd2 ad2 fi (upF fb 0 (scS (fb 0) v i)))) n (MR nd2 ad2 fi (upF fb 0 (scS (fb 0) v n))) (by omega) (fun i hi => by
    simp only [fX8_filmed_b1, rg0 hR, rk1 hR, upF_s, k1, Option.bind_some, if_neg (nI_ge hi (show n < 2 ^ 31 by omega)), ix42, ixp1, rs0 hR (show 42 + 3 * i + 1 < 3092 by omega), upF_2]
    rw [show 42 + 3 * i + 1 = 43 + 3 * i by omega]
    rfl) (by
    simp only [fX8_filmed_b1, rg0 hR, rk1 hR, upF_s, k1, Option.bind_some, if_pos (nI_le (Nat.le_refl n) (show n < 2 ^ 31 by omega))])
  rw [n3]
  rw [show scS (fb 0) v 0 = fb 0 from rfl, upF_id] at this
  exact this
theorem sc_ok (w : Wf s) (h4 : nt (s 4) ≤ 9999) {x : Nat} (hx : x ≤ 99) : Wf (scS s (nI x) (nt (s 1))) ∧ nt (scS s (nI x) (nt (s 1)) 4) ≤ 9999 ∧ ∀ j, 72 ≤ j → scS s (nI x) (nt (s 1)) j = s j := by
  obtain ⟨n, n1, n2, n3⟩ := w.n1
  refine ⟨w.scd hx (by omega), by rw [scS_n (fun j hj => by omega)]; exact h4, fun j hj => scS_n (fun i hi => by omega)⟩
theorem C_wrong (hL : Lay nd ad (KC nT)) (h : Inv nT c ad fi fa) (r : RingOK nT c ad 100 (fa 0) tx) (w : Wf (fa 0)) (h4 : nt (fa 0 4) ≤ 9999) (ht : Th nT ad c e) {k x l : Nat} (hk : k < 4) (hx : x ≤ 40) (l1 : fa 5 k = nI l) (l2 : l ≤ 24) : ∃ f, fX7_wrongPlaces (ad 0) (ad (420 + k)) (nI x) (MM nd e) = some (nI (fmC (fa 0) (fun i => fa 6 (24 * k + i)) x l), MM nd f) ∧ Th nT ad c f := by
  have t1 := h.thR ht
  obtain ⟨f, p1, p2, p3⟩ := C_think hL r w ht
  have tf := h.thR (Th.of p3 p2)
  obtain ⟨e1, q1, q2, q3⟩ := C_makeSeconds hL B2' p2 w (nI x)
  obtain ⟨wS, w4, wj⟩ := sc_ok w h4 (x := x) (by omega)
  generalize hW : (fun i => fa 6 (24 * k + i)) = W
  have hWi : ∀ i, fa 6 (24 * k + i) = W i := fun i => by rw [← hW]
  obtain ⟨res, a1, e2, rfl, a2⟩ := loop_rel (b := fX7_wrongPlaces_b0 (ad 0) (ad (420 + k))) (s := ((0 : Int32), (0 : Int32), MM nd e1))
    (fun i st => ∃ e, st = (nI (fmC (fa 0) W x i), nI i, MM nd e) ∧ RingOK nT e ad 200 (fmR (fa 0) x i) tx ∧ ChB 200 c e)
    (fun res => ∃ e, res = (nI (fmC (fa 0) W x l), MM nd e) ∧ Th nT ad c e) l (by omega) ⟨e1, rfl, q2, p3.tr q3⟩ (by
      rintro i st hi ⟨e, rfl, hr, hq⟩
      have t0 := h.thR (Th.of hq hr)
      obtain ⟨wi, -, -⟩ := itT_ok wS (n := i) (by omega)
      obtain ⟨e2, b1, b2, b3⟩ := C_takeTurn hL B2' hr wi
      have t2 := h.thR (Th.of (hq.tr b3) b2)
      have hnum := C_isNum hL t2 hk (i := i) (by omega)
      rw [l1, nt_nI (by omega), hWi] at hnum
      have b1' : fX2_takeTurn (ad 200) (MM nd e) = some ((turnS (fmR (fa 0) x i)).1, MM nd e2) := b1
      simp only [fX7_wrongPlaces_b0, sh_1 hL t0 hk, l1, if_neg (nI_ge hi (show l < 2 ^ 31 by omega)), o_t hL t0, cv_R hL B2' hr, b1', sh_v hL t2 hk, hnum, sh_2 hL t2 hk, sh_p hL t2 hk (show i < 24 by omega), hWi, Option.bind_some, ixp1]
      refine ⟨(nI (fmC (fa 0) W x (i + 1)), nI (i + 1), MM nd e2), ?_, e2, rfl, b2, hq.tr b3⟩
      · rw [fmC_s]
        by_cases hz : W i = -1000000005
        · rw [if_neg (fun z => (of_decide_eq_true z).2 hz), if_pos hz]; rfl
        · rw [if_pos (decide_eq_true (⟨hi, hz⟩ : i < l ∧ ¬ W i = -1000000005)), if_neg hz]
          by_cases hy : W i = (turnS (fmR (fa 0) x i)).1
          · rw [if_pos hy, if_pos hy]; rfl
          · rw [if_neg hy, if_neg hy]
            simp only [Option.bind_some])
    (by
      rintro st ⟨e, rfl, hr, hq⟩
      have t0 := h.thR (Th.of hq hr)
      simp only [fX7_wrongPlaces_b0, sh_1 hL t0 hk, l1, if_pos (nI_le (Nat.le_refl l) (show l < 2 ^ 31 by omega)), Option.bind_some]
      exact ⟨_, rfl, e, rfl, Th.of hq hr⟩)
  refine ⟨e2, ?_, a2⟩
  simp only [fX7_wrongPlaces, o_t hL t1, o_n hL t1, p1, o_t hL tf, cv_R hL B2' p2, q1, a1, Option.bind_some]
theorem R_wrong (hR : Lay nd2 ad2 KR) (w : Wf (fa 0)) (h4 : nt (fa 0 4) ≤ 9999) (hT : RT fa fc) {k x l : Nat} (hk : k < 4) (hx : x ≤ 40) (l1 : fa 5 k = nI l) (l2 : l ≤ 24) : ∃ fd, loopF (fX8_filmed_b2 (ad2 31) (nI k)) bigN ((0 : Int32), (0 : Int32), MR nd2 ad2 fi (upF fc 0 (scS (fa 0) (nI x) (nt (fa 0 1))))) = some (nI (fmC (fa 0) (fun i => fa 6 (24 * k + i)) x l), MR nd2 ad2 fi fd) ∧ (∀ j, 92 ≤ j → fd 0 j = fa 0 j) ∧ fd 12 = cpT 92 (fa 0) (fa 12) ∧ SX fa fd := by
  obtain ⟨wS, w4, wj⟩ := sc_ok w h4 (x := x) (by omega)
  obtain ⟨h0, h12, hX⟩ := hT
  generalize hW : (fun i => fa 6 (24 * k + i)) = W
  have hWi : ∀ i, fa 6 (24 * k + i) = W i := fun i => by rw [← hW]
  obtain ⟨res, a1, fd, rfl, a2, a3, a4⟩ := loop_rel (b := fX8_filmed_b2 (ad2 31) (nI k)) (s := ((0 : Int32), (0 : Int32), MR nd2 ad2 fi (upF fc 0 (scS (fa 0) (nI x) (nt (fa 0 1))))))
    (fun i st => ∃ fd, st = (nI (fmC (fa 0) W x i), nI i, MR nd2 ad2 fi fd) ∧ fd 0 = fmR (fa 0) x i ∧ fd 12 = cpT 92 (fa 0) (fa 12) ∧ SX fa fd)
    (fun res => ∃ fd, res = (nI (fmC (fa 0) W x l), MR nd2 ad2 fi fd) ∧ (∀ j, 92 ≤ j → fd 0 j = fa 0 j) ∧ fd 12 = cpT 92 (fa 0) (fa 12) ∧ SX fa fd) l (by omega) ⟨_, rfl, upF_s, by rw [upF_n (by decide)]; exact h12, hX.tr (SX.up (Or.inl rfl))⟩ (by
      rintro i st hi ⟨fd, rfl, d0, d12, dX⟩
      obtain ⟨wi, -, -⟩ := itT_ok wS (n := i) (by omega)
      obtain ⟨fe, b1, b2, b3, b4⟩ := R_t1 (fi := fi) (fb := fd) hR (by rw [d0]; exact wi)
      rw [d0] at b1 b2
      simp only [fX8_filmed_b2, rg5 hR, rl5 hR hk, dX 5 (by omega), l1, if_neg (nI_ge hi (show l < 2 ^ 31 by omega)), rg6 hR, ix24, rl6 hR (show 24 * k + i < 96 by omega), dX 6 (by omega), hWi, rcv hR, b1, Option.bind_some, ixp1]
      refine ⟨(nI (fmC (fa 0) W x (i + 1)), nI (i + 1), MR nd2 ad2 fi fe), ?_, fe, rfl, b2, b3.trans d12, dX.tr b4⟩
      rw [fmC_s]
      by_cases hz : W i = -1000000005
      · rw [if_pos hz, if_pos hz]
        simp only [Option.bind_some]
        rw [show nI (fmC (fa 0) W x i) + 0 = _ from nI_add _ 0]
      · rw [if_neg hz, if_neg hz]
        by_cases hy : W i = (turnS (fmR (fa 0) x i)).1
        · rw [if_pos hy, if_pos hy]
          simp only [Option.bind_some]
          rw [show nI (fmC (fa 0) W x i) + 0 = _ from nI_add _ 0]
        · rw [if_neg hy, if_neg hy]
          simp only [Option.bind_some]
          rw [nI_1])
    (by
      rintro st ⟨fd, rfl, d0, d12, dX⟩
      obtain ⟨wi, -, wij⟩ := itT_ok wS (n := l) (by omega)
      simp only [fX8_filmed_b2, rg5 hR, rl5 hR hk, dX 5 (by omega), l1, if_pos (nI_le (Nat.le_refl l) (show l < 2 ^ 31 by omega)), Option.bind_some]
      exact ⟨_, rfl, fd, rfl, fun j hj => by rw [d0]; exact (wij j (by omega)).trans (wj j (by omega)), d12, dX⟩)
  exact ⟨fd, a1, a2, a3, a4⟩
def flF (V : Nat → Nat) : Nat → Option (Nat × Nat)
  | 0 => none
  | x + 1 => match flF V x with
    | none => some (x, V x)
    | some (b, l) => if l ≤ V x then some (b, l) else some (x, V x)
def flC (o : Option (Nat × Nat)) : Int32 × Int32 := match o with
  | none => (0, 25)
  | some (b, l) => (nI b, nI l)
def flR (o : Option (Nat × Nat)) : Int32 × Int32 := match o with
  | none => (-1, 0)
  | some (b, l) => (nI b, nI l)
theorem flF_n {V : Nat → Nat} {x : Nat} (h : flF V x = none) : flF V (x + 1) = some (x, V x) := by
  show (match flF V x with
    | none => some (x, V x)
    | some (b, l) => if l ≤ V x then some (b, l) else some (x, V x)) = _
  rw [h]
theorem flF_c {V : Nat → Nat} {x b l : Nat} (h : flF V x = some (b, l)) : flF V (x + 1) = if l ≤ V x then some (b, l) else some (x, V x) := by
  show (match flF V x with
    | none => some (x, V x)
    | some (b, l) => if l ≤ V x then some (b, l) else some (x, V x)) = _
  rw [h]
theorem flF_lt {V : Nat → Nat} (hV : ∀ x, V x ≤ 24) : ∀ {x b l : Nat}, flF V x = some (b, l) → b < x ∧ l ≤ 24 := by
  intro x
  induction x with
  | zero => intro b l h; cases h
  | succ x ih =>
    intro b l h
    cases ho : flF V x with
    | none =>
      rw [flF_n ho] at h
      cases h
      exact ⟨by omega, hV x⟩
    | some bl =>
      obtain ⟨b2, l2⟩ := bl
      rw [flF_c ho] at h
      have := ih ho
      split at h
      · cases h; exact ⟨by omega, this.2⟩
      · cases h; exact ⟨by omega, hV x⟩
theorem flF_some {V : Nat → Nat} (x : Nat) : ∃ b l, flF V (x + 1) = some (b, l) := by
  cases ho : flF V x with
  | none => exact ⟨_, _, flF_n ho⟩
  | some bl =>
    obtain ⟨b, l⟩ := bl
    rw [flF_c ho]
    split <;> exact ⟨_, _, rfl⟩
theorem L_filmed (hL : Lay nd ad (KC nT)) (hR : Lay nd2 ad2 KR) (h : Inv nT c ad fi fa) (x a : Int32) : Sim nT nd nd2 ad ad2 c fi fa (fX7_filmed (ad 0) x a) (fX8_filmed (ad2 31) x a) := by
  obtain ⟨tx, r, w, h4⟩ := h.n
  by_cases hx : 0 ≤ x ∧ x ≤ 3
  · by_cases ha : 0 ≤ a ∧ a ≤ 1
    · obtain ⟨k, j1, -, j3⟩ := bt (a := 0) (b := 3) hx (by omega) (by omega)
      subst j1
      have hk : k < 4 := by omega
      rcases sh_s h.1 hk with ⟨s1, s2⟩ | ⟨s1, s2, s3⟩
      · refine Sim.same (r := -1000000011) h ?_ ?_
        · simp only [fX7_filmed, C_isSh, decide_eq_true hx, C_within, decide_eq_true ha, if_true, o_sh hL h.1, sh_l hL h.1 hk, sh_0 hL h.1 hk, if_pos s1, Option.bind_some]
        · simp only [fX8_filmed, R_isSh, decide_eq_true hx, isIn_t k64_0 k64_1, decide_eq_true ha, if_true, rg4 hR, rl4 hR hk, if_neg s2, Option.bind_some]
      · obtain ⟨l, l1, l2⟩ := sh_n h.1 hk
        generalize hV : (fun y => fmC (fa 0) (fun i => fa 6 (24 * k + i)) y l) = V
        have hVi : ∀ y, fmC (fa 0) (fun i => fa 6 (24 * k + i)) y l = V y := fun y => by rw [← hV]
        have hV24 : ∀ y, V y ≤ 24 := fun y => by rw [← hVi]; have := fmC_le (fa 0) (fun i => fa 6 (24 * k + i)) y l; omega
        obtain ⟨res, a1, e, rfl, a2, u, t, a3⟩ := loop_rel (b := fX7_filmed_b0 (ad 0) (nI k)) (s := ((0 : Int32), (25 : Int32), (0 : Int32), MM nd c))
          (fun y st => ∃ e, st = ((flC (flF V y)).1, (flC (flF V y)).2, nI y, MM nd e) ∧ Th nT ad c e)
          (fun res => ∃ e, res = ((flC (flF V 41)).1, (flC (flF V 41)).2, MM nd e) ∧ Th nT ad c e) 41 (by omega) ⟨c, rfl, h.th⟩ (by
            rintro y st hy ⟨e, rfl, hT⟩
            have t0 := h.thR hT
            obtain ⟨f, p1, p2⟩ := C_wrong hL h r w h4 hT hk (x := y) (by omega) l1 l2
            rw [hVi] at p1
            simp only [fX7_filmed_b0, if_neg (show ¬ (40 : Int32) < nI y from nI_nlt (a := 40) (by omega) (by omega)), o_sh hL t0, sh_l hL t0 hk, o_cv hL t0, p1, Option.bind_some, ite_some, ixp1]
            refine ⟨((flC (flF V (y + 1))).1, (flC (flF V (y + 1))).2, nI (y + 1), MM nd f), ?_, f, rfl, p2⟩
            have := hV24 y
            cases ho : flF V y with
            | none =>
              rw [flF_n ho]
              have hne : ¬ (25 : Int32) ≤ nI (V y) := nI_ge (b := 25) (by omega) (by omega)
              simp [flC, hne]
            | some bl =>
              obtain ⟨b, q⟩ := bl
              have hb := flF_lt hV24 ho
              rw [flF_c ho]
              by_cases hq : q ≤ V y
              · have := nI_le hq (show V y < 2 ^ 31 by omega)
                simp [flC, hq, this]
              · have := nI_ge (show V y < q by omega) (show q < 2 ^ 31 by omega)
                simp [flC, hq, this])
          (by
            rintro st ⟨e, rfl, hT⟩
            simp only [fX7_filmed_b0, if_pos (show (40 : Int32) < nI 41 by decide)]
            exact ⟨_, rfl, e, rfl, hT⟩)
        obtain ⟨fb, c1, c2, c3, c4⟩ := R_by (fi := fi) (fa := fa) hR
        obtain ⟨res, b1, fc, rfl, b2⟩ := loop_rel (b := fX8_filmed_b0 (ad2 31) (nI k)) (s := ((-1 : Int32), (0 : Int32), (0 : Int32), MR nd2 ad2 fi fb))
          (fun y st => ∃ fc, st = ((flR (flF V y)).1, (flR (flF V y)).2, nI y, MR nd2 ad2 fi fc) ∧ RT fa fc)
          (fun res => ∃ fc, res = ((flR (flF V 41)).1, (flR (flF V 41)).2, MR nd2 ad2 fi fc) ∧ RT fa fc) 41 (by omega) ⟨fb, rfl, c2, c3, c4⟩ (by
            rintro y st hy ⟨fc, rfl, hT⟩
            have h0 := hT.1
            have z1 := R_sc (fi := fi) (fb := fc) hR (by rw [h0]; exact w) (nI y)
            rw [h0] at z1
            obtain ⟨fd, z2, z3, z4, z5⟩ := R_wrong (fi := fi) hR w h4 hT hk (x := y) (by omega) l1 l2
            rw [hVi] at z2
            obtain ⟨fe, z6, z7⟩ := R_back (fi := fi) hR z3 z4 z5
            simp only [fX8_filmed_b0, if_neg (show ¬ (40 : Int32) < nI y from nI_nlt (a := 40) (by omega) (by omega)), z1, z2, rcv hR, z6, Option.bind_some, ite_some, ixp1]
            refine ⟨((flR (flF V (y + 1))).1, (flR (flF V (y + 1))).2, nI (y + 1), MR nd2 ad2 fi fe), ?_, fe, rfl, z7⟩
            have := hV24 y
            cases ho : flF V y with
            | none =>
              rw [flF_n ho]
              simp [flR, show (-1 : Int32) < 0 by decide]
            | some bl =>
              obtain ⟨b, q⟩ := bl
              have hb := flF_lt hV24 ho
              have hb0 := nI_pos (show b < 2 ^ 31 by omega)
              rw [flF_c ho]
              by_cases hq : q ≤ V y
              · have := nI_le hq (show V y < 2 ^ 31 by omega)
                simp [flR, hq, this, hb0]
              · have := nI_ge (show V y < q by omega) (show q < 2 ^ 31 by omega)
                simp [flR, hq, this, hb0])
          (by
            rintro st ⟨fc, rfl, hT⟩
            simp only [fX8_filmed_b0, if_pos (show (40 : Int32) < nI 41 by decide)]
            exact ⟨_, rfl, fc, rfl, hT⟩)
        obtain ⟨b, q, hbq⟩ := flF_some (V := V) 40
        have fC : flC (flF V 41) = (nI b, nI q) := by rw [hbq]; rfl
        have fR : flR (flF V 41) = (nI b, nI q) := by rw [hbq]; rfl
        refine Sim.tht (r := if a = 0 then nI b else nI q) h ?_ ?_ a2 a3 b2.1 b2.2.2
        · simp only [fX7_filmed, C_isSh, decide_eq_true hx, C_within, decide_eq_true ha, if_true, o_sh hL h.1, sh_l hL h.1 hk, sh_0 hL h.1 hk, if_neg s1, a1, fC, Option.bind_some]
          split <;> rfl
        · simp only [fX8_filmed, R_isSh, decide_eq_true hx, isIn_t k64_0 k64_1, decide_eq_true ha, if_true, rg4 hR, rl4 hR hk, if_pos s2, rcv hR, c1, b1, fR, Option.bind_some]
          split <;> rfl
    · refine Sim.same (r := -1000000001) h ?_ ?_
      · simp only [fX7_filmed, C_isSh, decide_eq_true hx, C_within, decide_eq_false ha, if_true, Bool.false_eq_true, if_false, Option.bind_some]
      · simp only [fX8_filmed, R_isSh, decide_eq_true hx, isIn_t k64_0 k64_1, decide_eq_false ha, if_true, Bool.false_eq_true, if_false, Option.bind_some]
  · refine Sim.same (r := -1000000001) h ?_ ?_
    · simp only [fX7_filmed, C_isSh, decide_eq_false hx, Bool.false_eq_true, if_false, Option.bind_some]
    · simp only [fX8_filmed, R_isSh, decide_eq_false hx, Bool.false_eq_true, if_false, Option.bind_some]
end PN
