section PM
variable {nT B : Nat} {nd nd2 : Nat → Option Nat} {c e : Nat → pE} {ad ad2 tx : Nat → Nat} {fi fj : Nat → Int32} {fa fb fc : Nat → Nat → Int32} {s u : Nat → Int32}
def prV (s w : Nat → Int32) (i : Nat) : Int32 := if w i = -1000000005 then s (43 + 3 * i) else hld (w i) 0 99
def prR (s w : Nat → Int32) : Nat → Nat → Int32
  | 0 => s
  | i + 1 => upd (prR s w i) (42 + 1 + 3 * i) (prV (prR s w i) w i)
def prC (s w : Nat → Int32) : Nat → Nat
  | 0 => 0
  | i + 1 => prC s w i + if prV (prR s w i) w i = prR s w i (43 + 3 * i) then 0 else 1
theorem prR_s (s w : Nat → Int32) (i : Nat) : prR s w (i + 1) = upd (prR s w i) (42 + 1 + 3 * i) (prV (prR s w i) w i) := rfl
theorem prC_s (s w : Nat → Int32) (i : Nat) : prC s w (i + 1) = prC s w i + if prV (prR s w i) w i = prR s w i (43 + 3 * i) then 0 else 1 := rfl
theorem prR_n {w : Nat → Int32} : ∀ {i j : Nat}, (∀ q, q < i → j ≠ 43 + 3 * q) → prR s w i j = s j := by
  intro i
  induction i with
  | zero => intro j _; rfl
  | succ i ih => intro j h; rw [prR_s, upd_n (by have := h i (by omega); omega)]; exact ih (fun q hq => h q (by omega))
theorem prR_ok {w : Nat → Int32} (hw : Wf s) : ∀ {i : Nat}, i ≤ nt (s 1) → Wf (prR s w i) := by
  intro i
  induction i with
  | zero => intro _; exact hw
  | succ i ih =>
    intro hi
    obtain ⟨n, n1, n2, n3⟩ := hw.n1
    have wi := ih (by omega)
    rw [prR_s]
    refine Wf.spu wi (by omega) (by omega) (fun z => by cases z) (fun _ => ?_) (fun z => by cases z)
    unfold prV
    split
    · exact (wi.sp (k := i) (by rw [prR_n (fun q hq => by omega)]; omega)).2.1
    · obtain ⟨h, q1, -, q2⟩ := hld_in (v := w i) (a := 0) (b := 99) (x := 0) (y := 99) rfl rfl (by omega) (by omega)
      exact ⟨h, q1, q2⟩
theorem L_pour (hL : Lay nd ad (KC nT)) (hR : Lay nd2 ad2 KR) (h : Inv nT c ad fi fa) (x : Int32) : Sim nT nd nd2 ad ad2 c fi fa (fX7_pour (ad 0) x) (fX8_pour (ad2 31) x) := by
  obtain ⟨tx, r, w, h4⟩ := h.n
  obtain ⟨n, n1, n2, n3⟩ := w.n1
  by_cases hx : 0 ≤ x ∧ x ≤ 3
  · obtain ⟨k, j1, -, j3⟩ := bt (a := 0) (b := 3) hx (by omega) (by omega)
    subst j1
    have hk : k < 4 := by omega
    rcases sh_s h.1 hk with ⟨s1, s2⟩ | ⟨s1, s2, s3⟩
    · refine Sim.same (r := -1000000011) h ?_ ?_
      · simp only [fX7_pour, C_isSh, decide_eq_true hx, if_true, o_sh hL h.1, sh_l hL h.1 hk, sh_0 hL h.1 hk, if_pos s1, Option.bind_some]
      · simp only [fX8_pour, R_isSh, decide_eq_true hx, if_true, rg4 hR, rl4 hR hk, if_neg s2, Option.bind_some]
    · obtain ⟨l, l1, l2⟩ := sh_n h.1 hk
      generalize hW : (fun i => fa 6 (24 * k + i)) = W
      have hWi : ∀ i, fa 6 (24 * k + i) = W i := fun i => by rw [← hW]
      have hN : min n l ≤ n ∧ min n l ≤ l ∧ (min n l = n ∨ min n l = l) := by
        rcases Nat.le_total n l with q | q
        · rw [Nat.min_eq_left q]; omega
        · rw [Nat.min_eq_right q]; omega
      generalize min n l = N at hN
      obtain ⟨res, a1, e, rfl, a2, a3⟩ := loop_rel (b := fX7_pour_b0 (ad 0) (ad (420 + k))) (s := ((0 : Int32), (0 : Int32), MM nd c))
        (fun i st => ∃ e, st = (nI (prC (fa 0) W i), nI i, MM nd e) ∧ RingOK nT e ad 100 (prR (fa 0) W i) tx ∧ ChB 100 c e)
        (fun res => ∃ e, res = (nI (prC (fa 0) W N), MM nd e) ∧ RingOK nT e ad 100 (prR (fa 0) W N) tx ∧ ChB 100 c e) N (by omega) ⟨c, rfl, r, ChB.rf⟩ (by
          rintro i st hi ⟨e, rfl, hr, hq⟩
          have t0 := h.1.cg (hq.rest B1) SX.rf
          have wi := prR_ok (w := W) w (i := i) (by omega)
          have k1 : prR (fa 0) W i 1 = nI n := (prR_n (fun q hq => by omega)).trans n1
          have hin : i < nt (prR (fa 0) W i 1) := by rw [k1, nt_nI (by omega)]; omega
          have hnum := C_isNum hL t0 hk (i := i) (by omega)
          rw [l1, nt_nI (by omega), hWi] at hnum
          have hval : (if decide (i < l ∧ ¬ W i = -1000000005) = true then (fX7_heldWithin (W i) 0 99 (MM nd e)).bind fun x18 => some x18 else some (prR (fa 0) W i (43 + 3 * i))) = some (prV (prR (fa 0) W i) W i) := by
            rw [C_held (by decide)]
            unfold prV
            by_cases hz : W i = -1000000005
            · rw [if_neg (fun z => (of_decide_eq_true z).2 hz), if_pos hz]
            · rw [if_pos (decide_eq_true (⟨by omega, hz⟩ : i < l ∧ ¬ W i = -1000000005)), if_neg hz]
              rfl
          simp only [fX7_pour_b0, o_n hL t0, cg_sn hL B1 hr, k1, if_neg (nI_ge (show i < n by omega) (show n < 2 ^ 31 by omega)), sh_1 hL t0 hk, l1, if_neg (nI_ge (show i < l by omega) (show l < 2 ^ 31 by omega)), cr_3 hL B1 hr, cl_sp hL B1 hr (show i < 10 by omega), sh_v hL t0 hk, hnum, sh_2 hL t0 hk, sh_p hL t0 hk (show i < 24 by omega), hWi, cs_1 hL B1 hr (show i < 10 by omega) hin, Option.bind_some, hval, ixp1]
          by_cases hz : prV (prR (fa 0) W i) W i = prR (fa 0) W i (43 + 3 * i)
          · rw [if_pos hz]
            refine ⟨_, rfl, e, ?_, ?_, hq⟩
            · rw [prC_s, if_pos hz]; rfl
            · rw [prR_s, show 42 + 1 + 3 * i = 43 + 3 * i by omega, hz, upd_id]; exact hr
          · rw [if_neg hz]
            obtain ⟨e2, q1, q2, q3⟩ := cp_p (f := 1) (v := prV (prR (fa 0) W i) W i) hL B1 hr (show i < 10 by omega) hin (by omega)
            simp only [q1, Option.bind_some, ixp1]
            refine ⟨_, rfl, e2, ?_, q2, hq.tr q3⟩
            rw [prC_s, if_neg hz])
        (by
          rintro st ⟨e, rfl, hr, hq⟩
          have t0 := h.1.cg (hq.rest B1) SX.rf
          have k1 : prR (fa 0) W N 1 = nI n := (prR_n (fun q hq => by omega)).trans n1
          refine ⟨_, ?_, e, rfl, hr, hq⟩
          simp only [fX7_pour_b0, o_n hL t0, cg_sn hL B1 hr, k1, Option.bind_some]
          by_cases hc : n ≤ N
          · rw [if_pos (nI_le hc (by omega))]
          · rw [if_neg (nI_ge (by omega) (by omega))]
            simp only [sh_1 hL t0 hk, l1, Option.bind_some, if_pos (nI_le (show l ≤ N by omega) (show N < 2 ^ 31 by omega))])
      obtain ⟨res, b1, rfl⟩ := loop_rel (b := fX8_pour_b0 (ad2 31) (nI k)) (s := ((0 : Int32), (0 : Int32), MR nd2 ad2 fi fa))
        (fun i st => st = (nI (prC (fa 0) W i), nI i, MR nd2 ad2 fi (upF fa 0 (prR (fa 0) W i))))
        (fun res => res = (nI (prC (fa 0) W N), MR nd2 ad2 fi (upF fa 0 (prR (fa 0) W N)))) N (by omega) (by rw [show prR (fa 0) W 0 = fa 0 from rfl, upF_id]; rfl) (by
          rintro i st hi rfl
          have k1 : prR (fa 0) W i 1 = nI n := (prR_n (fun q hq => by omega)).trans n1
          have e5 : upF fa 0 (prR (fa 0) W i) 5 = fa 5 := upF_n (by decide)
          have e6 : upF fa 0 (prR (fa 0) W i) 6 = fa 6 := upF_n (by decide)
          have hval : (if W i = -1000000005 then some (prR (fa 0) W i (43 + 3 * i)) else (fX8_held (W i) 0 99 (MR nd2 ad2 fi (upF fa 0 (prR (fa 0) W i)))).bind fun x13 => some x13) = some (prV (prR (fa 0) W i) W i) := by
            rw [R_held]
            unfold prV
            split <;> rfl
          simp only [fX8_pour_b0, rg5 hR, rl5 hR hk, e5, l1, if_neg (nI_ge (show i < l by omega) (show l < 2 ^ 31 by omega)), rg0 hR, rk1 hR, upF_s, k1, if_neg (nI_ge (show i < n by omega) (show n < 2 ^ 31 by omega)), rg6 hR, ix24, rl6 hR (show 24 * k + i < 96 by omega), e6, hWi, rcv hR, R_of1 hR (show i < 1000 by omega), Option.bind_some, hval]
          rw [R_becomes hR (j := 42 + 1 + 3 * i) (by rw [ix42, ixp1]; congr 1; omega) (by omega)]
          simp only [Option.bind_some, upF_s, upF_2, ite_some, ixp1]
          refine ⟨_, rfl, ?_⟩
          rw [prC_s, prR_s, show 42 + 1 + 3 * i = 43 + 3 * i by omega]
          by_cases hz : prV (prR (fa 0) W i) W i = prR (fa 0) W i (43 + 3 * i)
          · rw [if_pos hz, if_pos hz, show nI (prC (fa 0) W i) + 0 = _ from nI_add _ 0]
          · rw [if_neg hz, if_neg hz, show nI (prC (fa 0) W i) + 1 = _ from nI_1 _])
        (by
          rintro st rfl
          have k1 : prR (fa 0) W N 1 = nI n := (prR_n (fun q hq => by omega)).trans n1
          have e5 : upF fa 0 (prR (fa 0) W N) 5 = fa 5 := upF_n (by decide)
          refine ⟨_, ?_, rfl⟩
          simp only [fX8_pour_b0, rg5 hR, rl5 hR hk, e5, l1, Option.bind_some]
          by_cases hc : l ≤ N
          · rw [if_pos (nI_le hc (by omega))]
          · rw [if_neg (nI_ge (by omega) (by omega))]
            simp only [rg0 hR, rk1 hR, upF_s, k1, Option.bind_some, if_pos (nI_le (show n ≤ N by omega) (show N < 2 ^ 31 by omega))])
      refine Sim.now (r := nI (prC (fa 0) W N)) h ?_ ?_ a3 a2 upF_s (prR_ok w (by omega)) (by rw [prR_n (fun q hq => by omega)]; exact h4) (SX.up (Or.inl rfl))
      · simp only [fX7_pour, C_isSh, decide_eq_true hx, if_true, o_sh hL h.1, sh_l hL h.1 hk, sh_0 hL h.1 hk, if_neg s1, a1, Option.bind_some]
      · simp only [fX8_pour, R_isSh, decide_eq_true hx, if_true, rg4 hR, rl4 hR hk, if_pos s2, b1, Option.bind_some]
  · refine Sim.same (r := -1000000001) h ?_ ?_
    · simp only [fX7_pour, C_isSh, decide_eq_false hx, Bool.false_eq_true, if_false, Option.bind_some]
    · simp only [fX8_pour, R_isSh, decide_eq_false hx, Bool.false_eq_true, if_false, Option.bind_some]
/-- filmed: how many places are wrong with these seconds -/
def fmR (s : Nat → Int32) (x i : Nat) : Nat → Int32 := itT i (scS s (nI x) (nt (s 1)))
def fmC (s w : Nat → Int32) (x : Nat) : Nat → Nat
  | 0 => 0
  | i + 1 => fmC s w x i + if w i = -1000000005 then 0 else if w i = (turnS (fmR s x i)).1 then 0 else 1
theorem fmC_s (s w : Nat → Int32) (x i : Nat) : fmC s w x (i + 1) = fmC s w x i + if w i = -1000000005 then 0 else if w i = (turnS (fmR s x i)).1 then 0 else 1 := rfl
theorem fmC_le (s w : Nat → Int32) (x : Nat) : ∀ i, fmC s w x i ≤ i := by
  intro i
  induction i with
  | zero => exact Nat.le_refl 0
  | succ i ih =>
    rw [fmC_s]
    split
    · omega
    · split <;> omega
end PM
