section PD
variable {nT B : Nat} {nd nd2 : Nat → Option Nat} {c : Nat → pE} {ad ad2 tx : Nat → Nat} {fi : Nat → Int32} {fa : Nat → Nat → Int32} {s : Nat → Int32}
def Sim0 (nd nd2 : Nat → Option Nat) (ad2 : Nat → Nat) (c : Nat → pE) (fi : Nat → Int32) (fa : Nat → Nat → Int32) (X Y : Mem → Option Int32) : Prop := ∃ r, X (MM nd c) = some r ∧ Y (MR nd2 ad2 fi fa) = some r
theorem L_stop (hL : Lay nd ad (KC nT)) (hR : Lay nd2 ad2 KR) (h : Inv nT c ad fi fa) (x y z : Int32) : Sim nT nd nd2 ad ad2 c fi fa (fX7_stop (ad 0) x y z) (fX8_stop (ad2 31) x y z) := by
  obtain ⟨tx, r, w, h4⟩ := h.n
  obtain ⟨n, n1, n2, n3⟩ := w.n1
  by_cases hx : 0 ≤ x ∧ x ≤ 5
  · by_cases hy : 0 ≤ y ∧ y ≤ 99
    · by_cases hz : 0 ≤ z ∧ z ≤ 9
      · have em := eq_max n2 (by omega) (v := 10) rfl
        by_cases hn : n < 10
        · obtain ⟨i, i1, -, i3⟩ := bt (a := 0) (b := 5) hx (by omega) (by omega)
          obtain ⟨j, j1, -, j3⟩ := bt (a := 0) (b := 99) hy (by omega) (by omega)
          obtain ⟨k, k1, -, k3⟩ := bt (a := 0) (b := 9) hz (by omega) (by omega)
          obtain ⟨e, p1, p2, p3⟩ := C_addStop hL B1 r w (by omega) x y z
          have hrest := h.1.cg (p3.rest B1) SX.rf
          have e1 : adS (fa 0) x y z 1 = nI (n + 1) := by unfold adS; rw [upd_s, n3]
          refine Sim.now (r := nI n) (fb := upF fa 0 (adS (fa 0) x y z)) h ?_ ?_ p3 p2 upF_s (by rw [i1, j1, k1]; exact w.nS i3 j3 k3 (by omega)) (by unfold adS; rw [upd_n (by omega), upd_n (by omega), upd_n (by omega), upd_n (by omega)]; exact h4) (SX.up (Or.inl rfl))
          · simp only [fX7_stop, C_isKind, C_within, decide_eq_true hx, decide_eq_true hy, decide_eq_true hz, Option.bind_some, if_true, o_n hL h.1, cg_sn hL B1 r, n1, if_pos (em.2.mpr hn), cv_R hL B1 r, p1, o_n hL hrest, cg_sn hL B1 p2, e1, nI_pred]
          · simp only [fX8_stop, isIn_t k64_0 k64_5, isIn_t k64_0 k64_99, isIn_t k64_0 k64_9, decide_eq_true hx, decide_eq_true hy, decide_eq_true hz, Option.bind_some, if_true, rg0 hR, rk1 hR, n1, if_neg (fun z => absurd (em.1.mp z) (by omega)), rcv hR, R_comes hR w (show nt (fa 0 1) < 10 by omega), upF_s, e1, nI_pred]
        · refine Sim.same (r := -1000000003) h ?_ ?_
          · simp only [fX7_stop, C_isKind, C_within, decide_eq_true hx, decide_eq_true hy, decide_eq_true hz, Option.bind_some, if_true, o_n hL h.1, cg_sn hL B1 r, n1, if_neg (fun z => hn (em.2.mp z))]
          · simp only [fX8_stop, isIn_t k64_0 k64_5, isIn_t k64_0 k64_99, isIn_t k64_0 k64_9, decide_eq_true hx, decide_eq_true hy, decide_eq_true hz, Option.bind_some, if_true, rg0 hR, rk1 hR, n1, if_pos (em.1.mpr (show n = 10 by omega))]
      · refine Sim.same (r := -1000000001) h ?_ ?_
        · simp only [fX7_stop, C_isKind, C_within, decide_eq_true hx, decide_eq_true hy, decide_eq_false hz, Option.bind_some, if_true, Bool.false_eq_true, if_false]
        · simp only [fX8_stop, isIn_t k64_0 k64_5, isIn_t k64_0 k64_99, isIn_t k64_0 k64_9, decide_eq_true hx, decide_eq_true hy, decide_eq_false hz, Option.bind_some, if_true, Bool.false_eq_true, if_false]
    · refine Sim.same (r := -1000000001) h ?_ ?_
      · simp only [fX7_stop, C_isKind, C_within, decide_eq_true hx, decide_eq_false hy, Option.bind_some, if_true, Bool.false_eq_true, if_false]
      · simp only [fX8_stop, isIn_t k64_0 k64_5, isIn_t k64_0 k64_99, decide_eq_true hx, decide_eq_false hy, Option.bind_some, if_true, Bool.false_eq_true, if_false]
  · refine Sim.same (r := -1000000001) h ?_ ?_
    · simp only [fX7_stop, C_isKind, decide_eq_false hx, Option.bind_some, Bool.false_eq_true, if_false]
    · simp only [fX8_stop, isIn_t k64_0 k64_5, decide_eq_false hx, Option.bind_some, Bool.false_eq_true, if_false]
theorem C_worth (hL : Lay nd ad (KC nT)) {k : Nat} (hk : KC nT k) {a b d : Int32} (hc : c k = .inr (5, [.int a, .int b, .int d])) : fX5_worth (ad k) (MM nd c) = some (wthS a b) := by
  have e0 : gI (MM nd c) (ad k) 5 0 = some a := gI_MM hL hk hc rfl
  have e1 : gI (MM nd c) (ad k) 5 1 = some b := gI_MM hL hk hc rfl
  unfold fX5_worth wthS
  simp only [e0, e1, Option.bind_some, ite_some]
theorem R_worth (hL : Lay nd ad KR) {k : Nat} (hk : k < 1000) : fX8_worth (ad 31) (nI k) (MR nd ad fi fa) = some (wthS (fa 0 (42 + 3 * k)) (fa 0 (43 + 3 * k))) := by
  have e94 : ∀ v : Int32, 94 - v = 99 - v - 5 := by
    intro v
    apply Int32.toInt_inj.mp
    simp only [Int32.toInt_sub]
    rw [show (94 : Int32).toInt = 94 from rfl, show (99 : Int32).toInt = 99 from rfl, show (5 : Int32).toInt = 5 from rfl]
    rw [Int.bmod_sub_bmod]
    congr 1
    omega
  unfold fX8_worth wthS
  simp only [rcv hL, R_of0 hL hk, R_of1 hL hk, Option.bind_some, ite_some, e94]
theorem L_told (hL : Lay nd ad (KC nT)) (hR : Lay nd2 ad2 KR) (h : Inv nT c ad fi fa) (x a : Int32) : Sim nT nd nd2 ad ad2 c fi fa (fX7_told (ad 0) x a) (fX8_told (ad2 31) x a) := by
  obtain ⟨tx, r, w, h4⟩ := h.n
  cases hx : spQ (fa 0) x with
  | false =>
    refine Sim.same (r := -1000000001) h ?_ ?_
    · simp only [fX7_told, o_n hL h.1, cv_R hL B1 r, C_isStop hL B1 r, hx, Option.bind_some, Bool.false_eq_true, if_false]
    · simp only [fX8_told, rcv hR, R_isS hR, hx, Option.bind_some, Bool.false_eq_true, if_false]
  | true =>
    obtain ⟨i, i1, i2, i3⟩ := spQ_t w hx
    subst i1
    have ei : i < 1000 := by omega
    by_cases a0 : a = 0
    · subst a0
      refine Sim.same (r := fa 0 (42 + 3 * i)) h ?_ ?_
      · simp only [fX7_told, o_n hL h.1, cv_R hL B1 r, C_isStop hL B1 r, hx, Option.bind_some, if_true, cr_3 hL B1 r, cl_sp hL B1 r i3, cs_0 hL B1 r i3 i2]
      · simp only [fX8_told, rcv hR, R_isS hR, hx, Option.bind_some, if_true, R_of0 hR ei]
    · by_cases a1 : a = 1
      · subst a1
        refine Sim.same (r := fa 0 (43 + 3 * i)) h ?_ ?_
        · simp only [fX7_told, o_n hL h.1, cv_R hL B1 r, C_isStop hL B1 r, hx, Option.bind_some, if_true, cr_3 hL B1 r, cl_sp hL B1 r i3, cs_1 hL B1 r i3 i2, if_neg a0]
        · simp only [fX8_told, rcv hR, R_isS hR, hx, Option.bind_some, if_true, R_of1 hR ei, if_neg a0]
      · by_cases a2 : a = 2
        · subst a2
          refine Sim.same (r := fa 0 (44 + 3 * i)) h ?_ ?_
          · simp only [fX7_told, o_n hL h.1, cv_R hL B1 r, C_isStop hL B1 r, hx, Option.bind_some, if_true, cr_3 hL B1 r, cl_sp hL B1 r i3, cs_2 hL B1 r i3 i2, if_neg a0, if_neg a1]
          · simp only [fX8_told, rcv hR, R_isS hR, hx, Option.bind_some, if_true, R_of2 hR ei, if_neg a0, if_neg a1]
        · by_cases a3 : a = 3
          · subst a3
            obtain ⟨e, p1, p2⟩ := C_lastsBy hL B1 r w i2 0
            obtain ⟨fb, q1, q2⟩ := R_lasts (fi := fi) hR w i2 0
            refine Sim.scr (r := lastS (fa 0) i 0) h ?_ ?_ p2.1 q2.z (SX.sc q2)
            · simp only [fX7_told, o_n hL h.1, cv_R hL B1 r, C_isStop hL B1 r, hx, Option.bind_some, if_true, cr_3 hL B1 r, cl_sp hL B1 r i3, p1, if_neg a0, if_neg a1, if_neg a2]
            · simp only [fX8_told, rcv hR, R_isS hR, hx, Option.bind_some, if_true, q1, if_neg a0, if_neg a1, if_neg a2]
          · by_cases a4 : a = 4
            · subst a4
              obtain ⟨e, p1, p2⟩ := C_lastsBy hL B1 r w i2 9
              obtain ⟨fb, q1, q2⟩ := R_lasts (fi := fi) hR w i2 9
              refine Sim.scr (r := lastS (fa 0) i 9) h ?_ ?_ p2.1 q2.z (SX.sc q2)
              · simp only [fX7_told, o_n hL h.1, cv_R hL B1 r, C_isStop hL B1 r, hx, Option.bind_some, if_true, cr_3 hL B1 r, cl_sp hL B1 r i3, p1, if_neg a0, if_neg a1, if_neg a2, if_neg a3]
              · simp only [fX8_told, rcv hR, R_isS hR, hx, Option.bind_some, if_true, q1, if_neg a0, if_neg a1, if_neg a2, if_neg a3]
            · by_cases a5 : a = 5
              · subst a5
                refine Sim.same (r := wthS (fa 0 (42 + 3 * i)) (fa 0 (43 + 3 * i))) h ?_ ?_
                · simp only [fX7_told, o_n hL h.1, cv_R hL B1 r, C_isStop hL B1 r, hx, Option.bind_some, if_true, cr_3 hL B1 r, cl_sp hL B1 r i3, cv_S hL B1 r i3, C_worth hL (KC_sp B1 i3) (sp_at r i3 i2), if_neg a0, if_neg a1, if_neg a2, if_neg a3, if_neg a4]
                · simp only [fX8_told, rcv hR, R_isS hR, hx, Option.bind_some, if_true, R_worth hR ei, if_neg a0, if_neg a1, if_neg a2, if_neg a3, if_neg a4]
              · refine Sim.same (r := -1000000001) h ?_ ?_
                · simp only [fX7_told, o_n hL h.1, cv_R hL B1 r, C_isStop hL B1 r, hx, Option.bind_some, if_true, cr_3 hL B1 r, cl_sp hL B1 r i3, if_neg a0, if_neg a1, if_neg a2, if_neg a3, if_neg a4, if_neg a5]
                · simp only [fX8_told, rcv hR, R_isS hR, hx, Option.bind_some, if_true, if_neg a0, if_neg a1, if_neg a2, if_neg a3, if_neg a4, if_neg a5]
theorem R_isOf {a : Nat} (h5 : a ≤ 5) (w : Int32) (m : Mem) : fX8_isOf (nI a) w m = some (isOfS (nI a) w) := by
  unfold fX8_isOf isOfS
  by_cases e : nI a = w
  · rw [if_pos e]; simp [e]
  · rw [if_neg e]
    by_cases e0 : w = 0
    · rw [if_pos e0]; simp [e0]
    · rw [if_neg e0]
      have e' : ¬ w = nI a := fun z => e z.symm
      rcases (show a = 0 ∨ a = 1 ∨ a = 2 ∨ a = 3 ∨ a = 4 ∨ a = 5 by omega) with z | z | z | z | z | z <;> subst z
      · have q : ¬ (0 : Int32) = w := fun z => e0 z.symm
        simp [abv, nt, e', e0, q, show ¬ nI 0 = 3 by decide, show ¬ nI 0 = 4 by decide, show (nI 0).toNatClampNeg = 0 from rfl]
      · have q : ¬ (0 : Int32) = w := fun z => e0 z.symm
        simp [abv, nt, e', e0, q, show ¬ nI 1 = 3 by decide, show ¬ nI 1 = 4 by decide, show (nI 1).toNatClampNeg = 1 from rfl]
      · have q : ¬ (0 : Int32) = w := fun z => e0 z.symm
        simp [abv, nt, e', e0, q, show ¬ nI 2 = 3 by decide, show ¬ nI 2 = 4 by decide, show (nI 2).toNatClampNeg = 2 from rfl]
      · by_cases w1 : w = 1
        · subst w1; rfl
        · have q : ¬ (1 : Int32) = w := fun z => w1 z.symm
          simp [abv, nt, e', e0, w1, q, show ¬ nI 3 = 4 by decide, show (nI 3).toNatClampNeg = 3 from rfl]
      · by_cases w2 : w = 2
        · subst w2; rfl
        · have q : ¬ (2 : Int32) = w := fun z => w2 z.symm
          simp [abv, nt, e', e0, w2, q, show ¬ nI 4 = 3 by decide, show (nI 4).toNatClampNeg = 4 from rfl]
      · have q : ¬ (0 : Int32) = w := fun z => e0 z.symm
        simp [abv, nt, e', e0, q, show ¬ nI 5 = 3 by decide, show ¬ nI 5 = 4 by decide, show (nI 5).toNatClampNeg = 5 from rfl]
theorem L_as (hL : Lay nd ad (KC nT)) (hR : Lay nd2 ad2 KR) (h : Inv nT c ad fi fa) (x a : Int32) : Sim0 nd nd2 ad2 c fi fa (fX7_as (ad 0) x a) (fX8_as (ad2 31) x a) := by
  obtain ⟨tx, r, w, h4⟩ := h.n
  cases hx : spQ (fa 0) x with
  | false =>
    refine ⟨-1000000001, ?_, ?_⟩
    · simp only [fX7_as, o_n hL h.1, cv_R hL B1 r, C_isStop hL B1 r, hx, Option.bind_some, Bool.false_eq_true, if_false]
    · simp only [fX8_as, rcv hR, R_isS hR, hx, Option.bind_some, Bool.false_eq_true, if_false]
  | true =>
    by_cases ha : 0 ≤ a ∧ a ≤ 5
    · obtain ⟨i, i1, i2, i3⟩ := spQ_t w hx
      subst i1
      obtain ⟨⟨k, k1, k2⟩, -⟩ := w.sp i2
      have ei : i < 1000 := by omega
      refine ⟨if isOfS (fa 0 (42 + 3 * i)) a = true then fa 0 (43 + 3 * i) else -1000000012, ?_, ?_⟩
      · simp only [fX7_as, o_n hL h.1, cv_R hL B1 r, C_isStop hL B1 r, hx, C_isKind, decide_eq_true ha, Option.bind_some, if_true, cr_3 hL B1 r, cl_sp hL B1 r i3, cv_S hL B1 r i3, C_isOf hL (KC_sp B1 i3) (sp_at r i3 i2) k1 k2, cs_1 hL B1 r i3 i2, ite_some]
      · simp only [fX8_as, rcv hR, R_isS hR, hx, isIn_t k64_0 k64_5, decide_eq_true ha, Option.bind_some, if_true, R_of0 hR ei, R_of1 hR ei, k1, R_isOf k2, ite_some]
    · refine ⟨-1000000001, ?_, ?_⟩
      · simp only [fX7_as, o_n hL h.1, cv_R hL B1 r, C_isStop hL B1 r, hx, C_isKind, decide_eq_false ha, Option.bind_some, if_true, Bool.false_eq_true, if_false]
      · simp only [fX8_as, rcv hR, R_isS hR, hx, isIn_t k64_0 k64_5, decide_eq_false ha, Option.bind_some, if_true, Bool.false_eq_true, if_false]
theorem L_turns (hL : Lay nd ad (KC nT)) (hR : Lay nd2 ad2 KR) (h : Inv nT c ad fi fa) (x a : Int32) : Sim nT nd nd2 ad ad2 c fi fa (fX7_turns (ad 0) x a) (fX8_turns (ad2 31) x a) := by
  obtain ⟨tx, r, w, h4⟩ := h.n
  cases hx : spQ (fa 0) x with
  | false =>
    refine Sim.same (r := -1000000001) h ?_ ?_
    · simp only [fX7_turns, o_n hL h.1, cv_R hL B1 r, C_isStop hL B1 r, hx, Option.bind_some, Bool.false_eq_true, if_false]
    · simp only [fX8_turns, rcv hR, R_isS hR, hx, Option.bind_some, Bool.false_eq_true, if_false]
  | true =>
    by_cases ha : 0 ≤ a ∧ a ≤ 5
    · obtain ⟨i, i1, i2, i3⟩ := spQ_t w hx
      subst i1
      obtain ⟨j, j1, -, j3⟩ := bt (a := 0) (b := 5) ha (by omega) (by omega)
      obtain ⟨e, p, q, k⟩ := cp_p (f := 0) (v := a) hL B1 r i3 i2 (by omega)
      refine Sim.now (r := fa 0 (42 + 3 * i)) (fb := upF fa 0 (upd (fa 0) (42 + 0 + 3 * i) a)) h ?_ ?_ k q upF_s (Wf.spu w (by omega) i3 (fun _ => ⟨j, j1, j3⟩) (fun z => by cases z) (fun z => by cases z)) (by rw [upd_n (by omega)]; exact h4) (SX.up (Or.inl rfl))
      · simp only [fX7_turns, o_n hL h.1, cv_R hL B1 r, C_isStop hL B1 r, hx, C_isKind, decide_eq_true ha, Option.bind_some, if_true, cr_3 hL B1 r, cl_sp hL B1 r i3, cs_0 hL B1 r i3 i2, p]
      · simp only [fX8_turns, rcv hR, R_isS hR, hx, isIn_t k64_0 k64_5, decide_eq_true ha, Option.bind_some, if_true]
        rw [R_becomes hR (j := 42 + 0 + 3 * i) (ix42 i) (by omega)]
        rfl
    · refine Sim.same (r := -1000000001) h ?_ ?_
      · simp only [fX7_turns, o_n hL h.1, cv_R hL B1 r, C_isStop hL B1 r, hx, C_isKind, decide_eq_false ha, Option.bind_some, if_true, Bool.false_eq_true, if_false]
      · simp only [fX8_turns, rcv hR, R_isS hR, hx, isIn_t k64_0 k64_5, decide_eq_false ha, Option.bind_some, if_true, Bool.false_eq_true, if_false]
theorem L_set (hL : Lay nd ad (KC nT)) (hR : Lay nd2 ad2 KR) (h : Inv nT c ad fi fa) (x a v : Int32) : Sim nT nd nd2 ad ad2 c fi fa (fX7_set (ad 0) x a v) (fX8_set (ad2 31) x a v) := by
  obtain ⟨tx, r, w, h4⟩ := h.n
  cases hx : spQ (fa 0) x with
  | false =>
    refine Sim.same (r := -1000000001) h ?_ ?_
    · simp only [fX7_set, o_n hL h.1, cv_R hL B1 r, C_isStop hL B1 r, hx, Option.bind_some, Bool.false_eq_true, if_false]
    · simp only [fX8_set, rcv hR, R_isS hR, hx, Option.bind_some, Bool.false_eq_true, if_false]
  | true =>
    obtain ⟨i, i1, i2, i3⟩ := spQ_t w hx
    subst i1
    by_cases a1 : a = 1
    · subst a1
      by_cases hv : 0 ≤ v ∧ v ≤ 99
      · obtain ⟨j, j1, -, j3⟩ := bt (a := 0) (b := 99) hv (by omega) (by omega)
        obtain ⟨e, p, q, k⟩ := cp_p (f := 1) (v := v) hL B1 r i3 i2 (by omega)
        refine Sim.now (r := fa 0 (43 + 3 * i)) (fb := upF fa 0 (upd (fa 0) (42 + 1 + 3 * i) v)) h ?_ ?_ k q upF_s (Wf.spu w (by omega) i3 (fun z => by cases z) (fun _ => ⟨j, j1, j3⟩) (fun z => by cases z)) (by rw [upd_n (by omega)]; exact h4) (SX.up (Or.inl rfl))
        · simp only [fX7_set, o_n hL h.1, cv_R hL B1 r, C_isStop hL B1 r, hx, C_within, decide_eq_true hv, Option.bind_some, if_true, cr_3 hL B1 r, cl_sp hL B1 r i3, cs_1 hL B1 r i3 i2, p]
        · simp only [fX8_set, rcv hR, R_isS hR, hx, isIn_t k64_1 k64_2, isIn_t k64_0 k64_99, decide_eq_true hv, Option.bind_some, if_true]
          rw [if_pos (by decide), R_becomes hR (j := 42 + 1 + 3 * i) (by rw [ix42, ixp1]; congr 1; omega) (by omega)]
          rfl
      · refine Sim.same (r := -1000000001) h ?_ ?_
        · simp only [fX7_set, o_n hL h.1, cv_R hL B1 r, C_isStop hL B1 r, hx, C_within, decide_eq_false hv, Option.bind_some, if_true, cr_3 hL B1 r, cl_sp hL B1 r i3, Bool.false_eq_true, if_false, show ¬ (1 : Int32) = 2 by decide]
        · simp only [fX8_set, rcv hR, R_isS hR, hx, isIn_t k64_1 k64_2, isIn_t k64_0 k64_99, decide_eq_false hv, Option.bind_some, if_true, Bool.false_eq_true, if_false, ite_self]
    · by_cases a2 : a = 2
      · subst a2
        by_cases hv : 0 ≤ v ∧ v ≤ 9
        · obtain ⟨j, j1, -, j3⟩ := bt (a := 0) (b := 9) hv (by omega) (by omega)
          obtain ⟨e, p, q, k⟩ := cp_p (f := 2) (v := v) hL B1 r i3 i2 (by omega)
          refine Sim.now (r := fa 0 (44 + 3 * i)) (fb := upF fa 0 (upd (fa 0) (42 + 2 + 3 * i) v)) h ?_ ?_ k q upF_s (Wf.spu w (by omega) i3 (fun z => by cases z) (fun z => by cases z) (fun _ => ⟨j, j1, j3⟩)) (by rw [upd_n (by omega)]; exact h4) (SX.up (Or.inl rfl))
          · simp only [fX7_set, o_n hL h.1, cv_R hL B1 r, C_isStop hL B1 r, hx, C_within, decide_eq_true hv, Option.bind_some, if_true, cr_3 hL B1 r, cl_sp hL B1 r i3, cs_2 hL B1 r i3 i2, p, if_neg a1]
          · simp only [fX8_set, rcv hR, R_isS hR, hx, isIn_t k64_1 k64_2, isIn_t k64_0 k64_9, decide_eq_true hv, Option.bind_some, if_true, if_neg a1]
            rw [if_pos (by decide), R_becomes hR (j := 42 + 2 + 3 * i) (by rw [ix42, ixp2]; congr 1; omega) (by omega)]
            rfl
        · refine Sim.same (r := -1000000001) h ?_ ?_
          · simp only [fX7_set, o_n hL h.1, cv_R hL B1 r, C_isStop hL B1 r, hx, C_within, decide_eq_false hv, Option.bind_some, if_true, cr_3 hL B1 r, cl_sp hL B1 r i3, Bool.false_eq_true, if_false, if_neg a1]
          · simp only [fX8_set, rcv hR, R_isS hR, hx, isIn_t k64_1 k64_2, isIn_t k64_0 k64_9, decide_eq_false hv, Option.bind_some, if_true, Bool.false_eq_true, if_false, ite_self, if_neg a1]
      · have ha : ¬ (1 ≤ a ∧ a ≤ 2) := by
          intro z
          obtain ⟨j, j1, j2, j3⟩ := bt (a := 1) (b := 2) z (by omega) (by omega)
          subst j1
          rcases (show j = 1 ∨ j = 2 by omega) with y | y <;> subst y
          · exact a1 rfl
          · exact a2 rfl
        refine Sim.same (r := -1000000001) h ?_ ?_
        · simp only [fX7_set, o_n hL h.1, cv_R hL B1 r, C_isStop hL B1 r, hx, Option.bind_some, if_true, cr_3 hL B1 r, cl_sp hL B1 r i3, if_neg a1, if_neg a2]
        · simp only [fX8_set, rcv hR, R_isS hR, hx, isIn_t k64_1 k64_2, decide_eq_false ha, Option.bind_some, if_true, Bool.false_eq_true, if_false]
end PD
