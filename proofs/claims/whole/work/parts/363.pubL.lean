section PL
variable {nT B : Nat} {nd nd2 : Nat → Option Nat} {c e : Nat → pE} {ad ad2 tx : Nat → Nat} {fi fj : Nat → Int32} {fa fb fc : Nat → Nat → Int32} {s u : Nat → Int32}
theorem set_sh (hL : Lay nd ad (KC nT)) (hR : Lay nd2 ad2 KR) (h : Inv nT c ad fi fa) {k i : Nat} (hk : k < 4) (hi : i < 24) (v : Int32) : ∃ e, stI (MM nd c) (ad (430 + k)) (nI i) v = some (MM nd e) ∧ stI (MR nd2 ad2 fi fa) (ad2 6) (nI (24 * k + i)) v = some (MR nd2 ad2 fi (upF fa 6 (upd (fa 6) (24 * k + i) v))) ∧ Inv nT e ad fi (upF fa 6 (upd (fa 6) (24 * k + i) v)) := by
  obtain ⟨h1, ⟨g, g1, g2⟩, h3⟩ := h.1.2.2.1.2 k hk
  refine ⟨_, stI_MM hL (K430 hk) g1 hi (by decide), rs6 hR (by omega), h.sh (fun j hj => upC_n (by omega)) (fun j _ _ h6 => upF_n h6) (fun q hq => ?_)⟩
  unfold SHok1
  rw [upF_s, upF_n (by decide), upF_n (by decide), upC_n (by omega)]
  obtain ⟨b1, ⟨g3, b2, b3⟩, b4⟩ := h.1.2.2.1.2 q hq
  refine ⟨b1, ?_, b4⟩
  by_cases eq : q = k
  · subst eq
    refine ⟨_, upC_s, fun j hj => ?_⟩
    by_cases ej : j = i
    · subst ej; rw [upd_s, upd_s]
    · rw [upd_n ej, upd_n (by omega)]; exact g2 j hj
  · refine ⟨g3, (upC_n (by omega)).trans b2, fun j hj => ?_⟩
    rw [upd_n (by omega)]; exact b3 j hj
theorem L_mark (hL : Lay nd ad (KC nT)) (hR : Lay nd2 ad2 KR) (h : Inv nT c ad fi fa) (x y v : Int32) : Sim nT nd nd2 ad ad2 c fi fa (fX7_mark (ad 0) x y v) (fX8_mark (ad2 31) x y v) := by
  by_cases hx : 0 ≤ x ∧ x ≤ 3
  · obtain ⟨k, j1, -, j3⟩ := bt (a := 0) (b := 3) hx (by omega) (by omega)
    subst j1
    have hk : k < 4 := by omega
    rcases sh_s h.1 hk with ⟨s1, s2⟩ | ⟨s1, s2, s3⟩
    · refine Sim.same (r := -1000000011) h ?_ ?_
      · simp only [fX7_mark, C_isSh, decide_eq_true hx, if_true, o_sh hL h.1, sh_l hL h.1 hk, sh_0 hL h.1 hk, if_pos s1, Option.bind_some]
      · simp only [fX8_mark, R_isSh, decide_eq_true hx, if_true, rg4 hR, rl4 hR hk, if_neg s2, Option.bind_some]
    · by_cases hy : 0 ≤ y ∧ y ≤ fa 5 k - 1
      · obtain ⟨l, l1, l2⟩ := sh_n h.1 hk
        have hy2 := hy
        rw [l1] at hy2
        obtain ⟨i, i1, i2⟩ := bt_pred hy2 (by omega)
        subst i1
        rcases s3 with s0 | s0
        · by_cases hv : v = -1000000005
          · refine Sim.same (r := -1000000012) h ?_ ?_
            · simp only [fX7_mark, C_isSh, decide_eq_true hx, if_true, o_sh hL h.1, sh_l hL h.1 hk, sh_0 hL h.1 hk, if_neg s1, sh_1 hL h.1 hk, C_within, decide_eq_true hy, if_pos s0, if_pos hv, Option.bind_some]
            · simp only [fX8_mark, R_isSh, decide_eq_true hx, if_true, rg4 hR, rl4 hR hk, if_pos s2, rg5 hR, rl5 hR hk, isIn_t k64_0 rfl, decide_eq_true hy, if_pos s0, if_pos hv, Option.bind_some]
          · obtain ⟨e, q1, q2, q3⟩ := set_sh hL hR h hk (show i < 24 by omega) v.toInt16.toInt32
            have s01 : ¬ fa 4 k = 1 := by rw [s0]; decide
            refine ⟨1, e, fi, _, ?_, ?_, q3⟩
            · simp only [fX7_mark, C_isSh, decide_eq_true hx, if_true, o_sh hL h.1, sh_l hL h.1 hk, sh_0 hL h.1 hk, if_neg s1, sh_1 hL h.1 hk, C_within, decide_eq_true hy, if_pos s0, if_neg hv, if_neg s01, sh_2 hL h.1 hk, q1, Option.bind_some]
            · simp only [fX8_mark, R_isSh, decide_eq_true hx, if_true, rg4 hR, rl4 hR hk, if_pos s2, rg5 hR, rl5 hR hk, isIn_t k64_0 rfl, decide_eq_true hy, if_pos s0, if_neg hv, if_neg s01, rg6 hR, short16, ix24, q2, Option.bind_some]
        · have s00 : ¬ fa 4 k = 0 := by rw [s0]; decide
          obtain ⟨e, q1, q2, q3⟩ := set_sh hL hR h hk (show i < 24 by omega) v
          by_cases hv : v = -1000000005
          · refine ⟨1, e, fi, _, ?_, ?_, q3⟩
            · simp only [fX7_mark, C_isSh, decide_eq_true hx, if_true, o_sh hL h.1, sh_l hL h.1 hk, sh_0 hL h.1 hk, if_neg s1, sh_1 hL h.1 hk, C_within, decide_eq_true hy, if_neg s00, if_pos s0, if_pos hv, sh_2 hL h.1 hk, q1, Option.bind_some]
            · simp only [fX8_mark, R_isSh, decide_eq_true hx, if_true, rg4 hR, rl4 hR hk, if_pos s2, rg5 hR, rl5 hR hk, isIn_t k64_0 rfl, decide_eq_true hy, if_neg s00, if_pos s0, if_pos hv, rg6 hR, ix24, q2, Option.bind_some]
          · by_cases hr : -99999 ≤ v ∧ v ≤ 99999
            · refine ⟨1, e, fi, _, ?_, ?_, q3⟩
              · simp only [fX7_mark, C_isSh, decide_eq_true hx, if_true, o_sh hL h.1, sh_l hL h.1 hk, sh_0 hL h.1 hk, if_neg s1, sh_1 hL h.1 hk, C_within, decide_eq_true hy, if_neg s00, if_pos s0, if_neg hv, decide_eq_true hr, sh_2 hL h.1 hk, q1, Option.bind_some]
              · simp only [fX8_mark, R_isSh, decide_eq_true hx, if_true, rg4 hR, rl4 hR hk, if_pos s2, rg5 hR, rl5 hR hk, isIn_t k64_0 rfl, isIn_t k64_m99999 k64_99999, decide_eq_true hy, if_neg s00, if_pos s0, if_neg hv, decide_eq_true hr, rg6 hR, ix24, q2, Option.bind_some]
            · refine Sim.same (r := -1000000001) h ?_ ?_
              · simp only [fX7_mark, C_isSh, decide_eq_true hx, if_true, o_sh hL h.1, sh_l hL h.1 hk, sh_0 hL h.1 hk, if_neg s1, sh_1 hL h.1 hk, C_within, decide_eq_true hy, if_neg s00, if_pos s0, if_neg hv, decide_eq_false hr, Bool.false_eq_true, if_false, Option.bind_some]
              · simp only [fX8_mark, R_isSh, decide_eq_true hx, if_true, rg4 hR, rl4 hR hk, if_pos s2, rg5 hR, rl5 hR hk, isIn_t k64_0 rfl, isIn_t k64_m99999 k64_99999, decide_eq_true hy, if_neg s00, if_pos s0, if_neg hv, decide_eq_false hr, Bool.false_eq_true, if_false, Option.bind_some]
      · refine Sim.same (r := -1000000013) h ?_ ?_
        · simp only [fX7_mark, C_isSh, decide_eq_true hx, if_true, o_sh hL h.1, sh_l hL h.1 hk, sh_0 hL h.1 hk, if_neg s1, sh_1 hL h.1 hk, C_within, decide_eq_false hy, Bool.false_eq_true, if_false, Option.bind_some]
        · simp only [fX8_mark, R_isSh, decide_eq_true hx, if_true, rg4 hR, rl4 hR hk, if_pos s2, rg5 hR, rl5 hR hk, isIn_t k64_0 rfl, decide_eq_false hy, Bool.false_eq_true, if_false, Option.bind_some]
  · refine Sim.same (r := -1000000001) h ?_ ?_
    · simp only [fX7_mark, C_isSh, decide_eq_false hx, Bool.false_eq_true, if_false, Option.bind_some]
    · simp only [fX8_mark, R_isSh, decide_eq_false hx, Bool.false_eq_true, if_false, Option.bind_some]
theorem L_reads (hL : Lay nd ad (KC nT)) (hR : Lay nd2 ad2 KR) (h : Inv nT c ad fi fa) (x : Int32) : Sim0 nd nd2 ad2 c fi fa (fX7_reads (ad 0) x) (fX8_reads (ad2 31) x) := by
  obtain ⟨tx, r, w, h4⟩ := h.n
  obtain ⟨n, n1, n2, n3⟩ := w.n0
  by_cases hx : 0 ≤ x ∧ x ≤ 3
  · obtain ⟨k, j1, -, j3⟩ := bt (a := 0) (b := 3) hx (by omega) (by omega)
    subst j1
    have hk : k < 4 := by omega
    rcases sh_s h.1 hk with ⟨s1, s2⟩ | ⟨s1, s2, s3⟩
    · refine ⟨-1000000011, ?_, ?_⟩
      · simp only [fX7_reads, C_isSh, decide_eq_true hx, if_true, o_sh hL h.1, sh_l hL h.1 hk, sh_0 hL h.1 hk, if_pos s1, Option.bind_some]
      · simp only [fX8_reads, R_isSh, decide_eq_true hx, if_true, rg4 hR, rl4 hR hk, if_neg s2, Option.bind_some]
    · obtain ⟨l, l1, l2⟩ := sh_n h.1 hk
      -- the two walk alike: a row is the one's answer as soon as it is the other's
      have key : ∀ d i, l - i = d → i ≤ l → ∀ f, d < f → ∃ v, loopF (fX7_reads_b0 (ad 0) (MM nd c) (ad (420 + k))) f (nI i) = some v ∧ loopF (fX8_reads_b0 (ad2 31) (nI k) (MR nd2 ad2 fi fa)) f (nI i) = some v := by
        intro d
        induction d with
        | zero =>
          intro i hd hi f hf
          cases f with
          | zero => omega
          | succ f =>
            refine ⟨-1000000005, ?_, ?_⟩
            · unfold loopF
              simp only [fX7_reads_b0, sh_1 hL h.1 hk, l1, if_pos (nI_le (show l ≤ i by omega) (show i < 2 ^ 31 by omega)), Option.bind_some]
            · unfold loopF
              simp only [fX8_reads_b0, rg5 hR, rl5 hR hk, l1, if_pos (nI_le (show l ≤ i by omega) (show i < 2 ^ 31 by omega)), Option.bind_some]
        | succ d ih =>
          intro i hd hi f hf
          cases f with
          | zero => omega
          | succ f =>
            have hil : i < l := by omega
            have nx := ih (i + 1) (by omega) (by omega) f (by omega)
            have hnum := C_isNum hL h.1 hk (i := i) (by omega)
            rw [l1, nt_nI (by omega)] at hnum
            have hC := C_isC hL B1 r w (i := i) (by omega)
            have go : ∀ {v : Int32}, v = -1000000005 ∨ ¬ v = -1000000005 := fun {v} => Classical.em _
            unfold loopF
            simp only [fX7_reads_b0, fX8_reads_b0, sh_1 hL h.1 hk, rg5 hR, rl5 hR hk, l1, if_neg (nI_ge hil (show l < 2 ^ 31 by omega)), Option.bind_some, o_n hL h.1, cv_R hL B1 r, hC, sh_2 hL h.1 hk, sh_p hL h.1 hk (show i < 24 by omega), sh_v hL h.1 hk, hnum, rg6 hR, ix24, rl6 hR (show 24 * k + i < 96 by omega), rg0 hR, rk0 hR, n1, rcv hR, ixp1, cr_1 hL B1 r, nt_nI (show n < 2 ^ 31 by omega)]
            by_cases hz : fa 6 (24 * k + i) = -1000000005
            · rw [if_pos hz]
              simp only [decide_eq_false (show ¬ (i < l ∧ ¬ fa 6 (24 * k + i) = -1000000005) from fun z => z.2 hz), Bool.false_eq_true, if_false]
              by_cases hin : i < n
              · rw [if_pos (decide_eq_true hin)]
                simp only [cl_ch hL B1 r (show i < 10 by omega), cc_1 hL B1 r (show i < 10 by omega) (show i < nt (fa 0 0) by omega), Option.bind_some, ite_some]
                exact nx
              · rw [if_neg (by simpa using hin)]
                simp only [Option.bind_some]
                exact nx
            · rw [if_neg hz]
              simp only [decide_eq_true (show i < l ∧ ¬ fa 6 (24 * k + i) = -1000000005 from ⟨hil, hz⟩), if_true]
              by_cases hin : i < n
              · rw [if_pos (decide_eq_true hin), if_neg (nI_ge hin (by omega))]
                simp only [cl_ch hL B1 r (show i < 10 by omega), cc_1 hL B1 r (show i < 10 by omega) (show i < nt (fa 0 0) by omega), R_own1 hR (show i < 1000 by omega), Option.bind_some, ite_some]
                by_cases heq : fa 6 (24 * k + i) = fa 0 (13 + 3 * i)
                · rw [if_pos heq, if_pos heq, if_neg (by decide)]
                  exact nx
                · rw [if_neg heq, if_neg heq, if_pos rfl]
                  exact ⟨_, rfl, rfl⟩
              · rw [if_neg (by simpa using hin), if_pos (nI_le (by omega) (by omega))]
                simp only [Option.bind_some, if_true]
                exact ⟨_, rfl, rfl⟩
      obtain ⟨v, v1, v2⟩ := key l 0 (by omega) (by omega) bigN (by rw [bigN_eq]; omega)
      refine ⟨v, ?_, ?_⟩
      · simp only [fX7_reads, C_isSh, decide_eq_true hx, if_true, o_sh hL h.1, sh_l hL h.1 hk, sh_0 hL h.1 hk, if_neg s1, Option.bind_some]
        exact v1
      · simp only [fX8_reads, R_isSh, decide_eq_true hx, if_true, rg4 hR, rl4 hR hk, if_pos s2, Option.bind_some]
        exact v2
  · refine ⟨-1000000001, ?_, ?_⟩
    · simp only [fX7_reads, C_isSh, decide_eq_false hx, Bool.false_eq_true, if_false, Option.bind_some]
    · simp only [fX8_reads, R_isSh, decide_eq_false hx, Bool.false_eq_true, if_false, Option.bind_some]
end PL
