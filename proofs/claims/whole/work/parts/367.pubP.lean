section PP
variable {nT B : Nat} {nd nd2 : Nat → Option Nat} {c e : Nat → pE} {ad ad2 tx : Nat → Nat} {fi fj : Nat → Int32} {fa fb fc : Nat → Nat → Int32} {s u : Nat → Int32}
theorem C_isSl (x : Int32) (m : Mem) : fX7_isSlot x m = some (decide (0 ≤ x ∧ x ≤ 4)) := by unfold fX7_isSlot; rw [C_within]; rfl
theorem R_isSl (x : Int32) (m : Mem) : fX8_isSlot x m = some (decide (0 ≤ x ∧ x ≤ 4)) := by unfold fX8_isSlot; rw [isIn_t k64_0 k64_4]; rfl
theorem K450 {k : Nat} (h : k < 5) : KC nT (450 + k) := by unfold KC; omega
theorem K460 {k : Nat} (h : k < 5) : KC nT (460 + k) := by unfold KC; omega
theorem K470 {k : Nat} (h : k < 5) : KC nT (470 + k) := by unfold KC; omega
theorem K480 {k : Nat} (h : k < 5) : KC nT (480 + k) := by unfold KC; omega
theorem sl_l (hL : Lay nd ad (KC nT)) (h : Rest c ad fi fa) {k : Nat} (hk : k < 5) : ldR (MM nd c) (ad 440) 5 (nI k) = some (ad (450 + k)) := by
  obtain ⟨g, g1, g2⟩ := h.2.2.2.1.1
  exact ldR_MM hL (by unfold KC; omega) g1 hk (by decide) (g2 k hk)
theorem C_ref (hL : Lay nd ad (KC nT)) (h : Rest c ad fi fa) {k : Nat} (hk : k < 5) (v : Int32) : cV (MM nd c) (ad (450 + k)) 4 (fX4_refusalAs (ad (450 + k)) v (MM nd c)) = some (if fa 7 k = 0 then -1000000011 else if fa 7 k = v then 0 else -1000000012) := by
  obtain ⟨kd, sc, wi, so, ln, nu, g, a1, -⟩ := h.2.2.2.1.2 k hk
  have g0 : gI (MM nd c) (ad (450 + k)) 4 0 = some (fa 7 k) := gI_MM hL (K450 hk) a1 rfl
  rw [cV_MM hL (K450 hk) a1]
  unfold fX4_refusalAs
  simp only [g0, Option.bind_some, ite_some]
theorem L_rest (hL : Lay nd ad (KC nT)) (hR : Lay nd2 ad2 KR) (h : Inv nT c ad fi fa) (x v : Int32) : Sim0 nd nd2 ad2 c fi fa (fX7_rest (ad 0) x v) (fX8_rest (ad2 31) x v) := by
  by_cases hx : 0 ≤ x ∧ x ≤ 4
  · obtain ⟨k, j1, -, j3⟩ := bt (a := 0) (b := 4) hx (by omega) (by omega)
    subst j1
    have hk : k < 5 := by omega
    obtain ⟨kd, sc, wi, so, ln, nu, g, a1, a2, a3, a4, a5, a6, a7, a8⟩ := h.1.2.2.2.1.2 k hk
    have g3 : gI (MM nd c) (ad (450 + k)) 4 3 = some nu := gI_MM hL (K450 hk) a1 rfl
    by_cases t0 : fa 7 k = 0
    · have t3 : ¬ fa 7 k = 3 := by rw [t0]; decide
      refine ⟨-1000000011, ?_, ?_⟩
      · simp only [fX7_rest, C_isSl, decide_eq_true hx, if_true, o_sl hL h.1, sl_l hL h.1 hk, C_ref hL h.1 hk, if_pos t0, Option.bind_some, show ¬ (-1000000011 : Int32) = 0 by decide, if_false]
      · simp only [fX8_rest, R_isSl, decide_eq_true hx, if_true, rg7 hR, rl7 hR hk, if_pos t0, if_neg t3, Option.bind_some]
    · by_cases t3 : fa 7 k = 3
      · have hnu := a8 t3
        by_cases hv : v = 0
        · refine ⟨-1000000002, ?_, ?_⟩
          · simp only [fX7_rest, C_isSl, decide_eq_true hx, if_true, o_sl hL h.1, sl_l hL h.1 hk, C_ref hL h.1 hk, if_neg t0, if_pos t3, if_pos hv, Option.bind_some]
          · simp only [fX8_rest, R_isSl, decide_eq_true hx, if_true, rg7 hR, rl7 hR hk, if_pos t3, if_pos hv, Option.bind_some]
        · have hrm : rmI nu v = some (nu - nu / v * v) := by unfold rmI; rw [if_neg hv]
          refine ⟨nu - nu / v * v, ?_, ?_⟩
          · simp only [fX7_rest, C_isSl, decide_eq_true hx, if_true, o_sl hL h.1, sl_l hL h.1 hk, C_ref hL h.1 hk, if_neg t0, if_pos t3, if_neg hv, g3, hrm, Option.bind_some]
          · simp only [fX8_rest, R_isSl, decide_eq_true hx, if_true, rg7 hR, rl7 hR hk, if_pos t3, if_neg hv, rg8 hR, rl8 hR hk, hnu, hrm, Option.bind_some]
      · refine ⟨-1000000012, ?_, ?_⟩
        · simp only [fX7_rest, C_isSl, decide_eq_true hx, if_true, o_sl hL h.1, sl_l hL h.1 hk, C_ref hL h.1 hk, if_neg t0, if_neg t3, Option.bind_some, show ¬ (-1000000012 : Int32) = 0 by decide, if_false]
        · simp only [fX8_rest, R_isSl, decide_eq_true hx, if_true, rg7 hR, rl7 hR hk, if_neg t0, if_neg t3, Option.bind_some]
  · refine ⟨-1000000001, ?_, ?_⟩
    · simp only [fX7_rest, C_isSl, decide_eq_false hx, Bool.false_eq_true, if_false, Option.bind_some]
    · simp only [fX8_rest, R_isSl, decide_eq_false hx, Bool.false_eq_true, if_false, Option.bind_some]
theorem L_ask (hL : Lay nd ad (KC nT)) (hR : Lay nd2 ad2 KR) (h : Inv nT c ad fi fa) (x v : Int32) : Sim0 nd nd2 ad2 c fi fa (fX7_ask (ad 0) x v) (fX8_ask (ad2 31) x v) := by
  by_cases hx : 0 ≤ x ∧ x ≤ 4
  · by_cases hv : 0 ≤ v ∧ v ≤ 5
    · obtain ⟨k, j1, -, j3⟩ := bt (a := 0) (b := 4) hx (by omega) (by omega)
      subst j1
      have hk : k < 5 := by omega
      obtain ⟨kd, sc, wi, so, ln, nu, g, a1, a2, a3, a4, a5, a6, a7, a8⟩ := h.1.2.2.2.1.2 k hk
      have g1 : gR (MM nd c) (ad (450 + k)) 4 1 = some (ad (460 + k)) := gR_MM hL (K450 hk) a1 rfl
      have cv : ∀ {α : Type} {x : Option α}, cV (MM nd c) (ad (460 + k)) 5 x = x := cV_MM hL (K460 hk) a2
      by_cases t0 : fa 7 k = 0
      · refine ⟨-1000000011, ?_, ?_⟩
        · simp only [fX7_ask, C_isSl, decide_eq_true hx, C_isKind, decide_eq_true hv, if_true, o_sl hL h.1, sl_l hL h.1 hk, C_ref hL h.1 hk, if_pos t0, Option.bind_some, show ¬ (-1000000011 : Int32) = 0 by decide, if_false]
        · simp only [fX8_ask, R_isSl, decide_eq_true hx, isIn_t k64_0 k64_5, decide_eq_true hv, if_true, rg7 hR, rl7 hR hk, if_pos t0, Option.bind_some]
      · by_cases t1 : fa 7 k = 1
        · obtain ⟨⟨q, q1, q2⟩, q3, q4⟩ := a6 t1
          refine ⟨if isOfS kd v = true then wthS kd sc else -1000000012, ?_, ?_⟩
          · simp only [fX7_ask, C_isSl, decide_eq_true hx, C_isKind, decide_eq_true hv, if_true, o_sl hL h.1, sl_l hL h.1 hk, C_ref hL h.1 hk, if_neg t0, if_pos t1, g1, cv, C_isOf hL (K460 hk) a2 q1 q2, C_worth hL (K460 hk) a2, Option.bind_some, ite_some]
          · simp only [fX8_ask, R_isSl, decide_eq_true hx, isIn_t k64_0 k64_5, decide_eq_true hv, if_true, rg7 hR, rl7 hR hk, if_neg t0, if_pos t1, rg8 hR, rl8 hR hk, q3, q1, R_isOf q2, rg9 hR, rl9 hR hk, q4, Option.bind_some, ite_some]
        · refine ⟨-1000000012, ?_, ?_⟩
          · simp only [fX7_ask, C_isSl, decide_eq_true hx, C_isKind, decide_eq_true hv, if_true, o_sl hL h.1, sl_l hL h.1 hk, C_ref hL h.1 hk, if_neg t0, if_neg t1, Option.bind_some, show ¬ (-1000000012 : Int32) = 0 by decide, if_false]
          · simp only [fX8_ask, R_isSl, decide_eq_true hx, isIn_t k64_0 k64_5, decide_eq_true hv, if_true, rg7 hR, rl7 hR hk, if_neg t0, if_neg t1, Option.bind_some]
    · refine ⟨-1000000001, ?_, ?_⟩
      · simp only [fX7_ask, C_isSl, decide_eq_true hx, C_isKind, decide_eq_false hv, if_true, Bool.false_eq_true, if_false, Option.bind_some]
      · simp only [fX8_ask, R_isSl, decide_eq_true hx, isIn_t k64_0 k64_5, decide_eq_false hv, if_true, Bool.false_eq_true, if_false, Option.bind_some]
  · refine ⟨-1000000001, ?_, ?_⟩
    · simp only [fX7_ask, C_isSl, decide_eq_false hx, Bool.false_eq_true, if_false, Option.bind_some]
    · simp only [fX8_ask, R_isSl, decide_eq_false hx, Bool.false_eq_true, if_false, Option.bind_some]
theorem L_item (hL : Lay nd ad (KC nT)) (hR : Lay nd2 ad2 KR) (h : Inv nT c ad fi fa) (x v : Int32) : Sim0 nd nd2 ad2 c fi fa (fX7_item (ad 0) x v) (fX8_item (ad2 31) x v) := by
  by_cases hx : 0 ≤ x ∧ x ≤ 4
  · obtain ⟨k, j1, -, j3⟩ := bt (a := 0) (b := 4) hx (by omega) (by omega)
    subst j1
    have hk : k < 5 := by omega
    obtain ⟨kd, sc, wi, so, ln, nu, g, a1, a2, a3, a4, a5, a6, a7, a8⟩ := h.1.2.2.2.1.2 k hk
    have g2 : gR (MM nd c) (ad (450 + k)) 4 2 = some (ad (470 + k)) := gR_MM hL (K450 hk) a1 rfl
    have l1 : gI (MM nd c) (ad (470 + k)) 3 1 = some ln := gI_MM hL (K470 hk) a3 rfl
    have l2 : gR (MM nd c) (ad (470 + k)) 3 2 = some (ad (480 + k)) := gR_MM hL (K470 hk) a3 rfl
    have cv : ∀ {α : Type} {x : Option α}, cV (MM nd c) (ad (470 + k)) 3 x = x := cV_MM hL (K470 hk) a3
    by_cases t0 : fa 7 k = 0
    · have t2 : ¬ fa 7 k = 2 := by rw [t0]; decide
      refine ⟨-1000000011, ?_, ?_⟩
      · simp only [fX7_item, C_isSl, decide_eq_true hx, if_true, o_sl hL h.1, sl_l hL h.1 hk, C_ref hL h.1 hk, if_pos t0, Option.bind_some, show ¬ (-1000000011 : Int32) = 0 by decide, if_false]
      · simp only [fX8_item, R_isSl, decide_eq_true hx, if_true, rg7 hR, rl7 hR hk, if_pos t0, if_neg t2, Option.bind_some]
    · by_cases t2 : fa 7 k = 2
      · obtain ⟨b1, ⟨l, b2, b3⟩, b4⟩ := a7 t2
        by_cases hv : 0 ≤ v ∧ v ≤ ln - 1
        · have hv2 := hv
          rw [b2] at hv2
          obtain ⟨i, i1, i2⟩ := bt_pred hv2 (by omega)
          subst i1
          have lp : ldI (MM nd c) (ad (480 + k)) (nI i) = some (fa 11 (24 * k + i)) := by rw [ldI_MM hL (K480 hk) a4 (by omega) (by decide), b4 i (by omega)]
          refine ⟨if fa 11 (24 * k + i) = -1000000005 then -1000000012 else fa 11 (24 * k + i), ?_, ?_⟩
          · simp only [fX7_item, C_isSl, decide_eq_true hx, if_true, o_sl hL h.1, sl_l hL h.1 hk, C_ref hL h.1 hk, if_neg t0, if_pos t2, g2, l1, C_within, decide_eq_true hv, cv, fX3_isNumber, l2, lp, Option.bind_some]
            by_cases hz : fa 11 (24 * k + i) = -1000000005
            · simp only [if_pos hz, Option.bind_some, Bool.false_eq_true, if_false]
            · simp only [if_neg hz, Option.bind_some, if_true]
          · simp only [fX8_item, R_isSl, decide_eq_true hx, if_true, rg7 hR, rl7 hR hk, if_pos t2, rg10 hR, rl10 hR hk, b1, isIn_t k64_0 rfl, decide_eq_true hv, rg11 hR, ix24, rl11 hR (show 24 * k + i < 120 by omega), Option.bind_some, ite_some]
        · refine ⟨-1000000013, ?_, ?_⟩
          · simp only [fX7_item, C_isSl, decide_eq_true hx, if_true, o_sl hL h.1, sl_l hL h.1 hk, C_ref hL h.1 hk, if_neg t0, if_pos t2, g2, l1, C_within, decide_eq_false hv, Bool.false_eq_true, if_false, Option.bind_some]
          · simp only [fX8_item, R_isSl, decide_eq_true hx, if_true, rg7 hR, rl7 hR hk, if_pos t2, rg10 hR, rl10 hR hk, b1, isIn_t k64_0 rfl, decide_eq_false hv, Bool.false_eq_true, if_false, Option.bind_some]
      · refine ⟨-1000000012, ?_, ?_⟩
        · simp only [fX7_item, C_isSl, decide_eq_true hx, if_true, o_sl hL h.1, sl_l hL h.1 hk, C_ref hL h.1 hk, if_neg t0, if_neg t2, Option.bind_some, show ¬ (-1000000012 : Int32) = 0 by decide, if_false]
        · simp only [fX8_item, R_isSl, decide_eq_true hx, if_true, rg7 hR, rl7 hR hk, if_neg t0, if_neg t2, Option.bind_some]
  · refine ⟨-1000000001, ?_, ?_⟩
    · simp only [fX7_item, C_isSl, decide_eq_false hx, Bool.false_eq_true, if_false, Option.bind_some]
    · simp only [fX8_item, R_isSl, decide_eq_false hx, Bool.false_eq_true, if_false, Option.bind_some]
end PP
