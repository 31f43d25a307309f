section PH
variable {nT B : Nat} {nd nd2 : Nat → Option Nat} {c e : Nat → pE} {ad ad2 tx : Nat → Nat} {fi : Nat → Int32} {fa fb fc : Nat → Nat → Int32} {s : Nat → Int32}
def wrV (s : Nat → Int32) (n k : Nat) : Int32 := sprS (itT n (upd s (72 + k) 2))
def wrF (s : Nat → Int32) (n : Nat) : Nat → Option (Nat × Int32)
  | 0 => none
  | k + 1 => match wrF s n k with
    | none => some (k, wrV s n k)
    | some (b, l) => if l ≤ wrV s n k then some (b, l) else some (k, wrV s n k)
def wC (o : Option (Nat × Int32)) : Int32 × Int32 := match o with
  | none => (-1000000005, -1000000005)
  | some (b, l) => (nI b, l)
def wR (o : Option (Nat × Int32)) : Int32 × Int32 := match o with
  | none => (-1, 0)
  | some (b, l) => (nI b, l)
theorem wrF_lt (s : Nat → Int32) (n : Nat) : ∀ {k b : Nat} {l : Int32}, wrF s n k = some (b, l) → b < k := by
  intro k
  induction k with
  | zero => intro b l h; cases h
  | succ k ih =>
    intro b l h
    unfold wrF at h
    split at h
    · cases h; omega
    · next b2 l2 hb =>
      split at h
      · cases h; have := ih hb; omega
      · cases h; omega
theorem L_worst (hL : Lay nd ad (KC nT)) (hR : Lay nd2 ad2 KR) (h : Inv nT c ad fi fa) (x a : Int32) : Sim nT nd nd2 ad ad2 c fi fa (fX7_worst (ad 0) x a) (fX8_worst (ad2 31) x a) := by
  obtain ⟨tx, r, w, h4⟩ := h.n
  obtain ⟨np, np1, np2, np3⟩ := w.n2
  by_cases hx : 1 ≤ x ∧ x ≤ 60
  · by_cases ha : 0 ≤ a ∧ a ≤ 1
    · obtain ⟨n, j1, j2, j3⟩ := bt (a := 1) (b := 60) hx (by omega) (by omega)
      subst j1
      have uW : ∀ k, k < 20 → Wf (upd (fa 0) (72 + k) 2) := fun k hk => Wf.ppu (h := 2) w (by omega) hk
      have u4 : ∀ k, nt (upd (fa 0) (72 + k) 2 4) = nt (fa 0 4) := fun k => by rw [upd_n (by omega)]
      obtain ⟨res, l1, e, rfl, l2, u, t, l3⟩ := loop_rel (b := fX7_worst_b0 (ad 0) (nI n)) (s := ((-1000000005 : Int32), (-1000000005 : Int32), (0 : Int32), MM nd c))
        (fun k st => ∃ e, st = ((wC (wrF (fa 0) n k)).1, (wC (wrF (fa 0) n k)).2, nI k, MM nd e) ∧ Th nT ad c e)
        (fun res => ∃ e, res = ((wC (wrF (fa 0) n np)).1, (wC (wrF (fa 0) n np)).2, MM nd e) ∧ Th nT ad c e) np (by omega) ⟨c, rfl, h.th⟩ (by
          rintro k st hk ⟨e, rfl, hT⟩
          have t1 := h.thR hT
          have rn := RingOK.other B2' B1 (by decide) hT.1 r
          obtain ⟨f, p1, p2, p3⟩ := C_think hL r w hT
          have tf := h.thR (Th.of p3 p2)
          obtain ⟨g, hg, -⟩ := p2.2.2.1
          have q2 := RingOK.pps (v := 2) B2' p2 hg (i := k) (by omega)
          have q3 : ChB 200 c _ := p3.tr (ChB.up (v := .inl (0, 20, .inl (upd g k 2))) (own_B 200 (i := 2) (by omega)))
          have te1 := h.thR (Th.of q3 q2)
          obtain ⟨e2, q4, q5, q6⟩ := C_takeTurns hL B2' q2 (uW k (by omega)) (n := n) (by omega) (by rw [u4]; omega)
          have te2 := h.thR (Th.of (q3.tr q6) q5)
          obtain ⟨wN, -, wNj⟩ := itT_ok (uW k (by omega)) (n := n) (by rw [u4]; omega)
          have hst : stI (MM nd f) (ad (200 + 2)) (nI k) 2 = some (MM nd (upC f (200 + 2) (.inl (0, 20, .inl (upd g k 2))))) := stI_MM hL (KC_B B2' (by decide)) hg (by omega) (by decide)
          simp only [fX7_worst_b0, o_n hL t1, cg_pn hL B1 rn, np1, if_neg (nI_ge hk (show np < 2 ^ 31 by omega)), o_t hL t1, p1, o_t hL tf, cr_2 hL B2' p2, hst, o_t hL te1, cv_R hL B2' q2, q4, o_t hL te2, cv_R hL B2' q5, C_spread hL B2' q5 wN, Option.bind_some, ixp1, ite_some]
          refine ⟨_, rfl, e2, ?_, Th.of (q3.tr q6) q5⟩
          have hV : sprS (itT n (upd (fa 0) (72 + k) 2)) = wrV (fa 0) n k := rfl
          rw [hV]
          cases ho : wrF (fa 0) n k with
          | none =>
            have : wrF (fa 0) n (k + 1) = some (k, wrV (fa 0) n k) := by unfold wrF; rw [ho]
            rw [this]
            rfl
          | some bl =>
            obtain ⟨b, l⟩ := bl
            have hb := wrF_lt (fa 0) n ho
            have hne : ¬ nI b = -1000000005 := fun z => absurd (nI_pos' (n := b) (by omega)) (by rw [z]; decide)
            have : wrF (fa 0) n (k + 1) = if l ≤ wrV (fa 0) n k then some (b, l) else some (k, wrV (fa 0) n k) := by
              show (match wrF (fa 0) n k with
                | none => some (k, wrV (fa 0) n k)
                | some (b, l) => if l ≤ wrV (fa 0) n k then some (b, l) else some (k, wrV (fa 0) n k)) = _
              rw [ho]
            rw [this]
            by_cases hl : l ≤ wrV (fa 0) n k
            · simp [wC, hne, hl]
            · simp [wC, hne, hl])
        (by
          rintro st ⟨e, rfl, hT⟩
          have t1 := h.thR hT
          have rn := RingOK.other B2' B1 (by decide) hT.1 r
          simp only [fX7_worst_b0, o_n hL t1, cg_pn hL B1 rn, np1, if_pos (nI_le (Nat.le_refl np) (show np < 2 ^ 31 by omega)), Option.bind_some]
          exact ⟨_, rfl, e, rfl, hT⟩)
      obtain ⟨fb, a1, a2, a3, a4⟩ := R_by (fi := fi) (fa := fa) hR
      obtain ⟨res, k1, fc, rfl, k2⟩ := loop_rel (b := fX8_worst_b0 (ad2 31) (nI n)) (s := ((-1 : Int32), (0 : Int32), (0 : Int32), MR nd2 ad2 fi fb))
        (fun k st => ∃ fc, st = ((wR (wrF (fa 0) n k)).1, (wR (wrF (fa 0) n k)).2, nI k, MR nd2 ad2 fi fc) ∧ RT fa fc)
        (fun res => ∃ fc, res = ((wR (wrF (fa 0) n np)).1, (wR (wrF (fa 0) n np)).2, MR nd2 ad2 fi fc) ∧ RT fa fc) np (by omega) ⟨fb, rfl, a2, a3, a4⟩ (by
          rintro k st hk ⟨fc, rfl, h0, h12, hX⟩
          obtain ⟨fd, b1, b2, b3, b4⟩ := R_gm (fi := fi) (fb := upF fc 0 (upd (fa 0) (72 + k) 2)) hR (by rw [upF_s]; exact uW k (by omega)) (n := n) (by omega) (by rw [upF_s, u4]; omega)
          rw [upF_s] at b1 b2
          rw [upF_n (by decide)] at b3
          obtain ⟨wN, -, wNj⟩ := itT_ok (uW k (by omega)) (n := n) (by rw [u4]; omega)
          obtain ⟨fg, d1, d2⟩ := R_back (fi := fi) (fa := fa) (fc := fd) hR (fun j hj => by rw [b2, wNj j (by omega), upd_n (by omega)]) (by rw [b3]; exact h12) ((hX.tr (SX.up (Or.inl rfl))).tr b4)
          have wN' : Wf (fd 0) := by rw [b2]; exact wN
          have hst : stI (MR nd2 ad2 fi fc) (ad2 0) (nI (72 + k)) 2 = some (MR nd2 ad2 fi (upF fc 0 (upd (fa 0) (72 + k) 2))) := by rw [rs0 hR (by omega), h0]
          simp only [fX8_worst_b0, rg0 hR, rk2 hR, h0, np1, Option.bind_some, if_neg (nI_ge hk (show np < 2 ^ 31 by omega)), ix72, hst, rcv hR, b1, R_spread hR wN', d1, b2, ite_some, ixp1]
          refine ⟨_, rfl, fg, ?_, d2⟩
          have hV : sprS (itT n (upd (fa 0) (72 + k) 2)) = wrV (fa 0) n k := rfl
          rw [hV]
          cases ho : wrF (fa 0) n k with
          | none =>
            have : wrF (fa 0) n (k + 1) = some (k, wrV (fa 0) n k) := by unfold wrF; rw [ho]
            rw [this]
            rfl
          | some bl =>
            obtain ⟨b, l⟩ := bl
            have hb := wrF_lt (fa 0) n ho
            have hne : ¬ nI b < 0 := nI_pos (by omega)
            have : wrF (fa 0) n (k + 1) = if l ≤ wrV (fa 0) n k then some (b, l) else some (k, wrV (fa 0) n k) := by
              show (match wrF (fa 0) n k with
                | none => some (k, wrV (fa 0) n k)
                | some (b, l) => if l ≤ wrV (fa 0) n k then some (b, l) else some (k, wrV (fa 0) n k)) = _
              rw [ho]
            rw [this]
            by_cases hl : l ≤ wrV (fa 0) n k
            · simp [wR, hne, hl]
            · simp [wR, hne, hl])
        (by
          rintro st ⟨fc, rfl, hT⟩
          simp only [fX8_worst_b0, rg0 hR, rk2 hR, hT.1, np1, if_pos (nI_le (Nat.le_refl np) (show np < 2 ^ 31 by omega)), Option.bind_some]
          exact ⟨_, rfl, fc, rfl, hT⟩)
      refine Sim.tht (r := if a = 0 then (wC (wrF (fa 0) n np)).1 else (wC (wrF (fa 0) n np)).2) h ?_ ?_ l2 l3 k2.1 k2.2.2
      · simp only [fX7_worst, C_within, decide_eq_true hx, decide_eq_true ha, if_true, Option.bind_some, l1]
        split <;> rfl
      · simp only [fX8_worst, rcv hR, isIn_t k64_1 k64_60, isIn_t k64_0 k64_1, decide_eq_true hx, decide_eq_true ha, if_true, a1, Option.bind_some, k1]
        cases ho : wrF (fa 0) n np with
        | none =>
          simp only [wR, wC, ite_self]
          rfl
        | some bl =>
          obtain ⟨b, l⟩ := bl
          have hb := wrF_lt (fa 0) n ho
          have hp := nI_pos' (show b < 2 ^ 31 by omega)
          by_cases ha0 : a = 0
          · simp [wR, wC, hp, ha0]
          · simp [wR, wC, hp, ha0]
    · refine Sim.same (r := -1000000001) h ?_ ?_
      · simp only [fX7_worst, C_within, decide_eq_true hx, decide_eq_false ha, Option.bind_some, if_true, Bool.false_eq_true, if_false]
      · simp only [fX8_worst, isIn_t k64_1 k64_60, isIn_t k64_0 k64_1, decide_eq_true hx, decide_eq_false ha, Option.bind_some, if_true, Bool.false_eq_true, if_false]
  · refine Sim.same (r := -1000000001) h ?_ ?_
    · simp only [fX7_worst, C_within, decide_eq_false hx, Option.bind_some, Bool.false_eq_true, if_false]
    · simp only [fX8_worst, isIn_t k64_1 k64_60, decide_eq_false hx, Option.bind_some, Bool.false_eq_true, if_false]
/-- odds -/
def odF (s : Nat → Int32) (k i : Nat) : Nat → Nat
  | 0 => 0
  | x + 1 => odF s k i x + if goesS s k (nI x) = i then 1 else 0
theorem odF_s (s : Nat → Int32) (k i x : Nat) : odF s k i (x + 1) = odF s k i x + if goesS s k (nI x) = i then 1 else 0 := rfl
theorem goes_lot {s : Nat → Int32} {k : Nat} (hl : ¬ isLotS s k = true) (x y : Int32) : goesS s k x = goesS s k y := by
  unfold goesS lastS
  rw [if_neg hl, if_neg hl]
theorem L_odds (hL : Lay nd ad (KC nT)) (hR : Lay nd2 ad2 KR) (h : Inv nT c ad fi fa) (y : Int32) : Sim nT nd nd2 ad ad2 c fi fa (fX7_odds (ad 0) y) (fX8_odds (ad2 31) y) := by
  obtain ⟨tx, r, w, h4⟩ := h.n
  obtain ⟨m1, v1, v2, v3⟩ := w.n1
  obtain ⟨tk, g1, g2, g3⟩ := w.n4
  have hC : fX2_isChild (ad 100) y (MM nd c) = some (chQ (fa 0) y) := C_isChild hL B1 r y
  cases hy : chQ (fa 0) y with
  | false =>
    refine Sim.same (r := -1000000001) h ?_ ?_
    · simp only [fX7_odds, o_n hL h.1, cv_R hL B1 r, hC, hy, Option.bind_some, Bool.false_eq_true, if_false]
    · simp only [fX8_odds, rcv hR, R_isC hR w, hy, Option.bind_some, Bool.false_eq_true, if_false]
  | true =>
    obtain ⟨i, i1, i2, i3⟩ := chQ_t w hy
    subst i1
    have hmle := manyS_le w
    by_cases h0 : 0 < nt (fa 0 1)
    · by_cases hm : 0 < manyS (fa 0)
      · have hg : goS (fa 0) = true := by simp [goS, h0, hm]
        have hk : stopS (fa 0) < nt (fa 0 1) := Nat.mod_lt _ h0
        have hstop : fX8_stopNow (ad2 31) (MR nd2 ad2 fi fa) = some (nI (stopS (fa 0))) := by
          unfold fX8_stopNow stopS
          simp only [rg0 hR, rk4 hR, rk1 hR, Option.bind_some, v1, g1]
          rw [nt_nI (by omega), nt_nI (by omega), rmI_nI (by omega) (by omega) (by omega)]
          rfl
        obtain ⟨e0, p1, p2, g, p3, p4⟩ := C_measureRound hL B1 r w
        obtain ⟨res, l1, e, rfl, l2⟩ := loop_rel (b := fX7_odds_b0 (ad 0) (nI i) (ad (100 + 20 + stopS (fa 0))) (nI (rndS (fa 0)))) (s := ((0 : Int32), (0 : Int32), MM nd e0))
          (fun x st => ∃ e, st = (nI (odF (fa 0) (stopS (fa 0)) i x), nI x, MM nd e) ∧ ScC c e ∧ e (100 + 6) = .inl (0, 10, .inl g))
          (fun res => ∃ e, res = (nI (odF (fa 0) (stopS (fa 0)) i 10), MM nd e) ∧ ScC c e) 10 (by omega) ⟨e0, rfl, p2, p3⟩ (by
            rintro x st hx ⟨e, rfl, hs, hg6⟩
            have re := r.sc B1 hs
            have te := h.1.cg ((ChB.sc (B := 100) hs).rest B1) SX.rf
            obtain ⟨f, q1, q2⟩ := C_lastsBy hL B1 re w hk (nI x)
            have rf' := re.sc B1 q2.1
            obtain ⟨l, b1, b2⟩ := lastS_in w hk (x := x) (by omega)
            have q3 := C_landsBehind hL B1 rf' w ((q2.2 _ (by omega)).trans hg6) p4 (sec := l) (by omega)
            rw [if_pos hm] at q3
            have hl := landS_in w hm l
            have q4 := C_goesTo hL B1 rf' w hk hl.1 hl.2
            have hgo : goesS (fa 0) (stopS (fa 0)) (nI x) = goesC (fa 0) (stopS (fa 0)) (landS (fa 0) l) := by unfold goesS; rw [b1, nt_nI (by omega)]
            have hgi := (goesS_in w hm (stopS (fa 0)) (nI x)).1
            obtain ⟨n0, z1, z2, z3⟩ := w.n0
            simp only [fX7_odds_b0, if_neg (show ¬ (10 : Int32) ≤ nI x from nI_ge (b := 10) hx (by omega)), o_n hL te, cv_R hL B1 re, q1, cv_R hL B1 rf', Option.bind_some]
            rw [b1, q3]
            simp only [Option.bind_some, q4, ite_some, ixp1]
            refine ⟨_, rfl, f, ?_, hs.tr q2.1, (q2.2 _ (by omega)).trans hg6⟩
            rw [odF_s, hgo]
            rw [hgo] at hgi
            by_cases hz : goesC (fa 0) (stopS (fa 0)) (landS (fa 0) l) = i
            · rw [if_pos (by rw [hz]), if_pos hz]
            · rw [if_neg (fun q => hz ((nI_eq (by omega) (by omega)).mp q)), if_neg hz]
              rfl)
          (by
            rintro st ⟨e, rfl, hs, -⟩
            simp only [fX7_odds_b0, if_pos (show (10 : Int32) ≤ nI 10 from Int32.le_refl _)]
            exact ⟨_, rfl, e, rfl, hs⟩)
        obtain ⟨res, k1, fc, rfl, k2⟩ := loop_rel (b := fX8_odds_b0 (ad2 31) (nI i) (nI (stopS (fa 0)))) (s := ((0 : Int32), (0 : Int32), MR nd2 ad2 fi fa))
          (fun x st => ∃ fc, st = (nI (odF (fa 0) (stopS (fa 0)) i x), nI x, MR nd2 ad2 fi fc) ∧ Sc fa fc)
          (fun res => ∃ fc, res = (nI (odF (fa 0) (stopS (fa 0)) i 10), MR nd2 ad2 fi fc) ∧ Sc fa fc) 10 (by omega) ⟨fa, rfl, Sc.rf⟩ (by
            rintro x st hx ⟨fc, rfl, hs⟩
            have hz := hs.z
            have hgi := (goesS_in w hm (stopS (fa 0)) (nI x)).1
            obtain ⟨n0, z1, z2, z3⟩ := w.n0
            have lot : fX8_isLot (ad2 31) (nI (stopS (fa 0))) (MR nd2 ad2 fi fc) = some (isLotS (fa 0) (stopS (fa 0))) := by rw [R_isLot hR (by omega), hz]
            simp only [fX8_odds_b0, if_neg (show ¬ (10 : Int32) ≤ nI x from nI_ge (b := 10) hx (by omega)), rcv hR, lot, Option.bind_some, ite_some]
            have key : ∃ fd, fX8_goesTo (ad2 31) (nI (stopS (fa 0))) (if isLotS (fa 0) (stopS (fa 0)) = true then nI x else 0) (MR nd2 ad2 fi fc) = some (nI (goesS (fa 0) (stopS (fa 0)) (nI x)), MR nd2 ad2 fi fd) ∧ Sc fa fd := by
              by_cases hlt : isLotS (fa 0) (stopS (fa 0)) = true
              · rw [if_pos hlt]
                obtain ⟨fd, q1, q2⟩ := R_goesTo (fi := fi) (fa := fc) hR (by rw [hz]; exact w) (by rw [hz]; exact hm) (k := stopS (fa 0)) (by rw [hz]; exact hk) (x := x) (by omega)
                rw [hz] at q1
                exact ⟨fd, q1, hs.tr q2⟩
              · rw [if_neg hlt]
                obtain ⟨fd, q1, q2⟩ := R_goesTo (fi := fi) (fa := fc) hR (by rw [hz]; exact w) (by rw [hz]; exact hm) (k := stopS (fa 0)) (by rw [hz]; exact hk) (x := 0) (by omega)
                rw [hz] at q1
                rw [goes_lot hlt (nI x) (nI 0)]
                exact ⟨fd, q1, hs.tr q2⟩
            obtain ⟨fd, q1, q2⟩ := key
            rw [q1]
            simp only [Option.bind_some, ixp1]
            refine ⟨_, rfl, fd, ?_, q2⟩
            rw [odF_s]
            by_cases hzz : goesS (fa 0) (stopS (fa 0)) (nI x) = i
            · rw [if_pos (by rw [hzz]), if_pos hzz, show nI (odF (fa 0) (stopS (fa 0)) i x) + 1 = _ from nI_1 _]
            · rw [if_neg (fun q => hzz ((nI_eq (by omega) (by omega)).mp q)), if_neg hzz, show nI (odF (fa 0) (stopS (fa 0)) i x) + 0 = _ from nI_add _ 0])
          (by
            rintro st ⟨fc, rfl, hs⟩
            simp only [fX8_odds_b0, if_pos (show (10 : Int32) ≤ nI 10 from Int32.le_refl _)]
            exact ⟨_, rfl, fc, rfl, hs⟩)
        refine Sim.scr (r := nI (odF (fa 0) (stopS (fa 0)) i 10)) h ?_ ?_ l2 k2.z (SX.sc k2)
        · simp only [fX7_odds, o_n hL h.1, cv_R hL B1 r, hC, hy, Option.bind_some, if_true, C_stopNow hL B1 r w, if_pos h0, C_inCount hL B1 r w, if_neg (nI_ne0 hm (show manyS (fa 0) < 2 ^ 31 by omega)), p1, l1]
        · simp only [fX8_odds, rcv hR, R_isC hR w, hy, Option.bind_some, if_true, R_goes hR w, hg, hstop, k1]
      · have hg : ¬ goS (fa 0) = true := by simp [goS, hm]
        refine Sim.same (r := -1000000002) h ?_ ?_
        · simp only [fX7_odds, o_n hL h.1, cv_R hL B1 r, hC, hy, Option.bind_some, if_true, C_stopNow hL B1 r w, if_pos h0, C_inCount hL B1 r w]
          rw [show manyS (fa 0) = 0 by omega]
          rfl
        · simp only [fX8_odds, rcv hR, R_isC hR w, hy, Option.bind_some, if_true, R_goes hR w, hg, Bool.false_eq_true, if_false]
    · have hg : ¬ goS (fa 0) = true := by simp [goS, h0]
      refine Sim.same (r := -1000000002) h ?_ ?_
      · simp only [fX7_odds, o_n hL h.1, cv_R hL B1 r, hC, hy, Option.bind_some, if_true, C_stopNow hL B1 r w, if_neg h0]
      · simp only [fX8_odds, rcv hR, R_isC hR w, hy, Option.bind_some, if_true, R_goes hR w, hg, Bool.false_eq_true, if_false]
end PH
