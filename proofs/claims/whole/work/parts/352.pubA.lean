section PA
variable {nT : Nat} {nd nd2 : Nat → Option Nat} {c : Nat → pE} {ad ad2 : Nat → Nat} {fi : Nat → Int32} {fa : Nat → Nat → Int32}
theorem bt01 {v : Int32} (h : 0 ≤ v ∧ v ≤ 1) : v = 0 ∨ v = 1 := by
  obtain ⟨i, i1, -, i2⟩ := bt (a := 0) (b := 1) h (by omega) (by omega)
  subst i1
  rcases (show i = 0 ∨ i = 1 by omega) with z | z
  · subst z; exact Or.inl rfl
  · subst z; exact Or.inr rfl
theorem isIn_t {x : Int32} {a b : Int64} {p q : Int32} (ha : a = p.toInt64) (hb : b = q.toInt64) (m : Mem) : fX8_isIn x.toInt64 a b m = some (decide (p ≤ x ∧ x ≤ q)) := by rw [ha, hb]; exact isIn_32 x p q m
theorem L_seed (hL : Lay nd ad (KC nT)) (hR : Lay nd2 ad2 KR) (h : Inv nT c ad fi fa) (v : Int32) : Sim nT nd nd2 ad ad2 c fi fa (fX7_seed (ad 0) v) (fX8_seed (ad2 31) v) := by
  obtain ⟨tx, r, w, h4⟩ := h.n
  obtain ⟨e, p, q, k⟩ := cp_11 (v := v) hL B1 r
  refine Sim.now (r := fa 0 11) (fb := upF fa 0 (upd (fa 0) 11 v)) h ?_ ?_ k q upF_s (w.fr (by omega)) (by rw [upd_n (by decide)]; exact h4) (SX.up (Or.inl rfl))
  · simp only [fX7_seed, o_n hL h.1, cg_11 hL B1 r, p, Option.bind_some]
  · simp only [fX8_seed, rcv hR, R_becomes hR (j := 11) (x := 11) rfl (by decide), Option.bind_some]
theorem L_rule (hL : Lay nd ad (KC nT)) (hR : Lay nd2 ad2 KR) (h : Inv nT c ad fi fa) (a v : Int32) : Sim nT nd nd2 ad ad2 c fi fa (fX7_rule (ad 0) a v) (fX8_rule (ad2 31) a v) := by
  obtain ⟨tx, r, w, h4⟩ := h.n
  have hC : fX2_isChild (ad 100) v (MM nd c) = some (chQ (fa 0) v) := C_isChild hL B1 r v
  by_cases a0 : a = 0
  · subst a0
    by_cases hv : 0 ≤ v ∧ v ≤ 1
    · obtain ⟨e, p, q, k⟩ := cp_7 (v := v) hL B1 r
      refine Sim.now (r := fa 0 7) (fb := upF fa 0 (upd (fa 0) 7 v)) h ?_ ?_ k q upF_s (w.rl (bt01 hv)) (by rw [upd_n (by decide)]; exact h4) (SX.up (Or.inl rfl))
      · simp only [fX7_rule, if_true, C_within, decide_eq_true hv, o_n hL h.1, cg_7 hL B1 r, p, Option.bind_some]
      · simp only [fX8_rule, if_true, isIn_t k64_0 k64_1, decide_eq_true hv, rcv hR, R_becomes hR (j := 7) (x := 7) rfl (by decide), Option.bind_some]
    · refine Sim.same (r := -1000000001) h ?_ ?_
      · simp only [fX7_rule, if_true, C_within, decide_eq_false hv, Option.bind_some, Bool.false_eq_true, if_false, show ¬ (0 : Int32) = 1 by decide, show ¬ (0 : Int32) = 2 by decide]
      · simp only [fX8_rule, if_true, isIn_t k64_0 k64_1, decide_eq_false hv, Option.bind_some, Bool.false_eq_true, if_false]
  · by_cases a1 : a = 1
    · subst a1
      by_cases hv : 0 ≤ v ∧ v ≤ 1
      · obtain ⟨e, p, q, k⟩ := cp_5 (v := v) hL B1 r
        refine Sim.now (r := fa 0 5) (fb := upF fa 0 (upd (fa 0) 5 v)) h ?_ ?_ k q upF_s (w.wy (bt01 hv)) (by rw [upd_n (by decide)]; exact h4) (SX.up (Or.inl rfl))
        · simp only [fX7_rule, if_neg a0, if_true, C_within, decide_eq_true hv, o_n hL h.1, cg_5 hL B1 r, p, Option.bind_some]
        · simp only [fX8_rule, if_neg a0, if_true, isIn_t k64_0 k64_1, decide_eq_true hv, rcv hR, R_becomes hR (j := 5) (x := 5) rfl (by decide), Option.bind_some]
      · refine Sim.same (r := -1000000001) h ?_ ?_
        · simp only [fX7_rule, if_neg a0, if_true, C_within, decide_eq_false hv, Option.bind_some, Bool.false_eq_true, if_false, show ¬ (1 : Int32) = 2 by decide]
        · simp only [fX8_rule, if_neg a0, if_true, isIn_t k64_0 k64_1, decide_eq_false hv, Option.bind_some, Bool.false_eq_true, if_false]
    · by_cases a2 : a = 2
      · subst a2
        cases hv : chQ (fa 0) v with
        | true =>
          obtain ⟨i, i1, i2, i3⟩ := chQ_t w hv
          obtain ⟨e, p, q, k⟩ := cp_6 (v := v) hL B1 r
          refine Sim.now (r := fa 0 6) (fb := upF fa 0 (upd (fa 0) 6 v)) h ?_ ?_ k q upF_s (by rw [i1]; exact w.at i2) (by rw [upd_n (by decide)]; exact h4) (SX.up (Or.inl rfl))
          · simp only [fX7_rule, if_neg a0, if_neg a1, if_true, o_n hL h.1, cv_R hL B1 r, hC, hv, cg_6 hL B1 r, p, Option.bind_some]
          · simp only [fX8_rule, if_neg a0, if_neg a1, if_true, rcv hR, R_isC hR w, hv, R_becomes hR (j := 6) (x := 6) rfl (by decide), Option.bind_some]
        | false =>
          refine Sim.same (r := -1000000001) h ?_ ?_
          · simp only [fX7_rule, if_neg a0, if_neg a1, if_true, o_n hL h.1, cv_R hL B1 r, hC, hv, Option.bind_some, Bool.false_eq_true, if_false]
          · simp only [fX8_rule, if_neg a0, if_neg a1, if_true, rcv hR, R_isC hR w, hv, Option.bind_some, Bool.false_eq_true, if_false]
      · refine Sim.same (r := -1000000001) h ?_ ?_
        · simp only [fX7_rule, if_neg a0, if_neg a1, if_neg a2]
        · simp only [fX8_rule, if_neg a0, if_neg a1, if_neg a2]
theorem L_lays (hL : Lay nd ad (KC nT)) (hR : Lay nd2 ad2 KR) (h : Inv nT c ad fi fa) (x a v : Int32) : Sim nT nd nd2 ad ad2 c fi fa (fX7_lays (ad 0) x a v) (fX8_lays (ad2 31) x a v) := by
  obtain ⟨tx, r, w, h4⟩ := h.n
  have hC : fX2_isChild (ad 100) x (MM nd c) = some (chQ (fa 0) x) := C_isChild hL B1 r x
  cases hx : chQ (fa 0) x with
  | false =>
    refine Sim.same (r := -1000000001) h ?_ ?_
    · simp only [fX7_lays, o_n hL h.1, cv_R hL B1 r, hC, hx, Option.bind_some, Bool.false_eq_true, if_false]
    · simp only [fX8_lays, rcv hR, R_isC hR w, hx, Option.bind_some, Bool.false_eq_true, if_false]
  | true =>
    obtain ⟨i, i1, i2, i3⟩ := chQ_t w hx
    subst i1
    have set : ∀ (f : Nat) (lo hi : Int32), f < 3 → lo ≤ v ∧ v ≤ hi → (f = 0 → lo = 1 ∧ hi = 9) → (f = 1 → lo = 0 ∧ hi = 99) → (f = 2 → lo = 0 ∧ hi = 1) → Wf (upd (fa 0) (12 + f + 3 * i) v) := by
      intro f lo hi hf hv h0 h1 h2
      refine Wf.chu w hf i3 (fun z => ?_) (fun z => ?_) (fun z => ?_)
      · obtain ⟨rfl, rfl⟩ := h0 z
        obtain ⟨j, j1, j2, j3⟩ := bt (a := 1) (b := 9) hv (by omega) (by omega)
        exact ⟨j, j1, j2, j3⟩
      · obtain ⟨rfl, rfl⟩ := h1 z
        obtain ⟨j, j1, j2, j3⟩ := bt (a := 0) (b := 99) hv (by omega) (by omega)
        exact ⟨j, j1, j3⟩
      · obtain ⟨rfl, rfl⟩ := h2 z
        exact bt01 hv
    have w4 : ∀ f, nt (upd (fa 0) (12 + f + 3 * i) v 4) ≤ 9999 := fun f => by rw [upd_n (by omega)]; exact h4
    by_cases a0 : a = 0
    · subst a0
      by_cases hv : 1 ≤ v ∧ v ≤ 9
      · obtain ⟨e, p, q, k⟩ := cp_c (f := 0) (v := v) hL B1 r i3 i2 (by omega)
        refine Sim.now (r := fa 0 (12 + 3 * i)) (fb := upF fa 0 (upd (fa 0) (12 + 0 + 3 * i) v)) h ?_ ?_ k q upF_s (set 0 1 9 (by omega) hv (fun _ => ⟨rfl, rfl⟩) (fun z => by cases z) (fun z => by cases z)) (w4 0) (SX.up (Or.inl rfl))
        · simp only [fX7_lays, o_n hL h.1, cv_R hL B1 r, hC, hx, Option.bind_some, if_true, cr_1 hL B1 r, cl_ch hL B1 r i3, C_within, decide_eq_true hv, cc_0 hL B1 r i3 i2, p]
        · simp only [fX8_lays, rcv hR, R_isC hR w, hx, Option.bind_some, if_true, isIn_t k64_0 k64_2, isIn_t k64_1 k64_9, decide_eq_true hv]
          rw [if_pos (by decide), R_becomes hR (j := 12 + 0 + 3 * i) (by rw [ix12, show nI (12 + 3 * i) + 0 = nI (12 + 3 * i) from nI_add _ 0]) (by omega)]
          rfl
      · refine Sim.same (r := -1000000001) h ?_ ?_
        · simp only [fX7_lays, o_n hL h.1, cv_R hL B1 r, hC, hx, Option.bind_some, if_true, cr_1 hL B1 r, cl_ch hL B1 r i3, C_within, decide_eq_false hv, Bool.false_eq_true, if_false, show ¬ (0 : Int32) = 1 by decide, show ¬ (0 : Int32) = 2 by decide]
        · simp only [fX8_lays, rcv hR, R_isC hR w, hx, Option.bind_some, if_true, isIn_t k64_0 k64_2, isIn_t k64_1 k64_9, decide_eq_false hv, Bool.false_eq_true, if_false, ite_self]
    · by_cases a1 : a = 1
      · subst a1
        by_cases hv : 0 ≤ v ∧ v ≤ 99
        · obtain ⟨e, p, q, k⟩ := cp_c (f := 1) (v := v) hL B1 r i3 i2 (by omega)
          refine Sim.now (r := fa 0 (13 + 3 * i)) (fb := upF fa 0 (upd (fa 0) (12 + 1 + 3 * i) v)) h ?_ ?_ k q upF_s (set 1 0 99 (by omega) hv (fun z => by cases z) (fun _ => ⟨rfl, rfl⟩) (fun z => by cases z)) (w4 1) (SX.up (Or.inl rfl))
          · simp only [fX7_lays, o_n hL h.1, cv_R hL B1 r, hC, hx, Option.bind_some, if_true, cr_1 hL B1 r, cl_ch hL B1 r i3, C_within, decide_eq_true hv, cc_1 hL B1 r i3 i2, p, if_neg a0]
          · simp only [fX8_lays, rcv hR, R_isC hR w, hx, Option.bind_some, if_true, isIn_t k64_0 k64_2, isIn_t k64_0 k64_99, decide_eq_true hv, if_neg a0]
            rw [if_pos (by decide), R_becomes hR (j := 12 + 1 + 3 * i) (by rw [ix12, ixp1]; congr 1; omega) (by omega)]
            simp only [Option.bind_some]
        · refine Sim.same (r := -1000000001) h ?_ ?_
          · simp only [fX7_lays, o_n hL h.1, cv_R hL B1 r, hC, hx, Option.bind_some, if_true, cr_1 hL B1 r, cl_ch hL B1 r i3, C_within, decide_eq_false hv, Bool.false_eq_true, if_false, if_neg a0, show ¬ (1 : Int32) = 2 by decide]
          · simp only [fX8_lays, rcv hR, R_isC hR w, hx, Option.bind_some, if_true, isIn_t k64_0 k64_2, isIn_t k64_0 k64_99, decide_eq_false hv, Bool.false_eq_true, if_false, if_neg a0, ite_self]
      · by_cases a2 : a = 2
        · subst a2
          by_cases hv : 0 ≤ v ∧ v ≤ 1
          · obtain ⟨e, p, q, k⟩ := cp_c (f := 2) (v := v) hL B1 r i3 i2 (by omega)
            refine Sim.now (r := fa 0 (14 + 3 * i)) (fb := upF fa 0 (upd (fa 0) (12 + 2 + 3 * i) v)) h ?_ ?_ k q upF_s (set 2 0 1 (by omega) hv (fun z => by cases z) (fun z => by cases z) (fun _ => ⟨rfl, rfl⟩)) (w4 2) (SX.up (Or.inl rfl))
            · simp only [fX7_lays, o_n hL h.1, cv_R hL B1 r, hC, hx, Option.bind_some, if_true, cr_1 hL B1 r, cl_ch hL B1 r i3, C_within, decide_eq_true hv, cc_2 hL B1 r i3 i2, p, if_neg a0, if_neg a1]
            · simp only [fX8_lays, rcv hR, R_isC hR w, hx, Option.bind_some, if_true, isIn_t k64_0 k64_2, isIn_t k64_0 k64_1, decide_eq_true hv, if_neg a0, if_neg a1]
              rw [if_pos (by decide), R_becomes hR (j := 12 + 2 + 3 * i) (by rw [ix12, ixp2]; congr 1; omega) (by omega)]
              simp only [Option.bind_some]
          · refine Sim.same (r := -1000000001) h ?_ ?_
            · simp only [fX7_lays, o_n hL h.1, cv_R hL B1 r, hC, hx, Option.bind_some, if_true, cr_1 hL B1 r, cl_ch hL B1 r i3, C_within, decide_eq_false hv, Bool.false_eq_true, if_false, if_neg a0, if_neg a1]
            · simp only [fX8_lays, rcv hR, R_isC hR w, hx, Option.bind_some, if_true, isIn_t k64_0 k64_2, isIn_t k64_0 k64_1, decide_eq_false hv, Bool.false_eq_true, if_false, if_neg a0, if_neg a1, ite_self]
        · have ha : ¬ (0 ≤ a ∧ a ≤ 2) := by
            intro z
            obtain ⟨j, j1, -, j3⟩ := bt (a := 0) (b := 2) z (by omega) (by omega)
            subst j1
            rcases (show j = 0 ∨ j = 1 ∨ j = 2 by omega) with y | y | y <;> subst y
            · exact a0 rfl
            · exact a1 rfl
            · exact a2 rfl
          refine Sim.same (r := -1000000001) h ?_ ?_
          · simp only [fX7_lays, o_n hL h.1, cv_R hL B1 r, hC, hx, Option.bind_some, if_true, cr_1 hL B1 r, cl_ch hL B1 r i3, if_neg a0, if_neg a1, if_neg a2]
          · simp only [fX8_lays, rcv hR, R_isC hR w, hx, Option.bind_some, if_true, isIn_t k64_0 k64_2, decide_eq_false ha, Bool.false_eq_true, if_false]
theorem L_childTold (hL : Lay nd ad (KC nT)) (hR : Lay nd2 ad2 KR) (h : Inv nT c ad fi fa) (x a : Int32) : Sim nT nd nd2 ad ad2 c fi fa (fX7_childTold (ad 0) x a) (fX8_childTold (ad2 31) x a) := by
  obtain ⟨tx, r, w, h4⟩ := h.n
  have hC : fX2_isChild (ad 100) x (MM nd c) = some (chQ (fa 0) x) := C_isChild hL B1 r x
  cases hx : chQ (fa 0) x with
  | false =>
    refine Sim.same (r := -1000000001) h ?_ ?_
    · simp only [fX7_childTold, o_n hL h.1, cv_R hL B1 r, hC, hx, Option.bind_some, Bool.false_eq_true, if_false]
    · simp only [fX8_childTold, rcv hR, R_isC hR w, hx, Option.bind_some, Bool.false_eq_true, if_false]
  | true =>
    obtain ⟨i, i1, i2, i3⟩ := chQ_t w hx
    subst i1
    have ei : i < 1000 := by omega
    by_cases a0 : a = 0
    · subst a0
      refine Sim.same (r := fa 0 (12 + 3 * i)) h ?_ ?_
      · simp only [fX7_childTold, o_n hL h.1, cv_R hL B1 r, hC, hx, Option.bind_some, if_true, cr_1 hL B1 r, cl_ch hL B1 r i3, cc_0 hL B1 r i3 i2]
      · simp only [fX8_childTold, rcv hR, R_isC hR w, hx, Option.bind_some, if_true, R_own0 hR ei]
    · by_cases a1 : a = 1
      · subst a1
        refine Sim.same (r := fa 0 (13 + 3 * i)) h ?_ ?_
        · simp only [fX7_childTold, o_n hL h.1, cv_R hL B1 r, hC, hx, Option.bind_some, if_true, cr_1 hL B1 r, cl_ch hL B1 r i3, cc_1 hL B1 r i3 i2, if_neg a0]
        · simp only [fX8_childTold, rcv hR, R_isC hR w, hx, Option.bind_some, if_true, R_own1 hR ei, if_neg a0]
      · by_cases a2 : a = 2
        · subst a2
          refine Sim.same (r := fa 0 (14 + 3 * i)) h ?_ ?_
          · simp only [fX7_childTold, o_n hL h.1, cv_R hL B1 r, hC, hx, Option.bind_some, if_true, cr_1 hL B1 r, cl_ch hL B1 r i3, cc_2 hL B1 r i3 i2, if_neg a0, if_neg a1]
          · simp only [fX8_childTold, rcv hR, R_isC hR w, hx, Option.bind_some, if_true, R_own2 hR ei, if_neg a0, if_neg a1]
        · by_cases a3 : a = 3
          · subst a3
            obtain ⟨e, p1, p2⟩ := C_holdsOf hL B1 r w i2
            obtain ⟨fb, q1, q2⟩ := R_holds (fi := fi) hR w i2
            refine Sim.scr (r := hS (fa 0) i) h ?_ ?_ p2.1 q2.z (SX.sc q2)
            · simp only [fX7_childTold, o_n hL h.1, cv_R hL B1 r, hC, hx, Option.bind_some, if_true, cr_1 hL B1 r, cl_ch hL B1 r i3, p1, if_neg a0, if_neg a1, if_neg a2]
            · simp only [fX8_childTold, rcv hR, R_isC hR w, hx, Option.bind_some, if_true, q1, if_neg a0, if_neg a1, if_neg a2]
          · by_cases a4 : a = 4
            · subst a4
              refine Sim.same (r := if 0 ≤ oI (nextS (fa 0) i) then oI (nextS (fa 0) i) else -1000000005) h ?_ ?_
              · simp only [fX7_childTold, o_n hL h.1, cv_R hL B1 r, hC, hx, Option.bind_some, if_true, cr_1 hL B1 r, cl_ch hL B1 r i3, C_nextOf hL B1 r w (Or.inl i2), if_neg a0, if_neg a1, if_neg a2, if_neg a3, fX7_orNone, ite_some]
              · simp only [fX8_childTold, rcv hR, R_isC hR w, hx, Option.bind_some, if_true, R_nextOf hR w (show i < 2000 by omega), if_neg a0, if_neg a1, if_neg a2, if_neg a3, fX8_orNone, ite_some]
            · refine Sim.same (r := -1000000001) h ?_ ?_
              · simp only [fX7_childTold, o_n hL h.1, cv_R hL B1 r, hC, hx, Option.bind_some, if_true, cr_1 hL B1 r, cl_ch hL B1 r i3, if_neg a0, if_neg a1, if_neg a2, if_neg a3, if_neg a4]
              · simp only [fX8_childTold, rcv hR, R_isC hR w, hx, Option.bind_some, if_true, if_neg a0, if_neg a1, if_neg a2, if_neg a3, if_neg a4]
end PA
