section PJ1
variable {nT B : Nat} {nd nd2 : Nat → Option Nat} {c e : Nat → pE} {ad ad2 tx : Nat → Nat} {fi fj : Nat → Int32} {fa fb fc : Nat → Nat → Int32} {s u : Nat → Int32} {a b : Int32}
/-- the rest stands where fields 3 and 29 change with the object's node -/
theorem Rest.o (h : Rest c ad fi fa) (hc : ∀ k, 400 ≤ k ∧ k < 1000 → e k = c k) (ho : e 0 = .inr (7, objF ad (fj 3) (fj 29))) (h14 : fj 14 = fi 14) (hw : (∃ w, fj 29 = nI w ∧ w ≤ 60) ∧ nt (fj 29) ≤ nt (fi 29)) (hx : SX fa fb) : Rest e ad fj fb := by
  obtain ⟨o, rd, sh, sl, ⟨g, g1, g2⟩, n, n1, n2⟩ := h
  refine ⟨ho, ?_, sh.cg hc (hx 4 (by omega)) (hx 5 (by omega)) (hx 6 (by omega)), sl.cg hc (hx 7 (by omega)) (hx 8 (by omega)) (hx 9 (by omega)) (hx 10 (by omega)) (hx 11 (by omega)), ⟨g, (hc 490 (by omega)).trans g1, fun j hj => ?_⟩, hw.1⟩
  · have := rd.cg hc (hx 13 (by omega))
    unfold RDok at this ⊢
    rw [h14]
    exact this
  · rw [hx 28 (by omega)]
    exact g2 j (by omega)
theorem Rest.c1 (h : Rest c ad fi fa) {g : Nat → Int32} : Rest c ad fi (upF fa 1 g) := ⟨h.1, h.2.1.cg (fun _ _ => rfl) (upF_n (by omega)), h.2.2.1.cg (fun _ _ => rfl) (upF_n (by omega)) (upF_n (by omega)) (upF_n (by omega)), h.2.2.2.1.cg (fun _ _ => rfl) (upF_n (by omega)) (upF_n (by omega)) (upF_n (by omega)) (upF_n (by omega)) (upF_n (by omega)), h.2.2.2.2.cg (fun _ _ => rfl) (upF_n (by omega))⟩
theorem L_keep (hL : Lay nd ad (KC nT)) (hR : Lay nd2 ad2 KR) (h : Inv nT c ad fi fa) : Sim nT nd nd2 ad ad2 c fi fa (fX7_keep (ad 0)) (fX8_keep (ad2 31)) := by
  obtain ⟨tx, r, w, h4⟩ := h.n
  obtain ⟨s3, t3, r3, -⟩ := h.2.2.2
  obtain ⟨e, p1, p2, p3⟩ := C_become hL B3 B1 (by decide) r w r3
  have te := h.1.cg (p3.rest B3) SX.rf
  have hp := pI_MM (f := 3) (v := (1 : Int32)) hL (KC_0 (nT := nT)) te.1 (by simp [objF])
  have hset : (objF ad (fi 3) (fi 29)).set 3 (.int 1) = objF ad (upd fi 3 1 3) (upd fi 3 1 29) := rfl
  rw [hset] at hp
  have c2 : ∀ k, k ≠ 0 → upC e 0 (.inr (7, objF ad (upd fi 3 1 3) (upd fi 3 1 29))) k = e k := fun k hk => upC_n hk
  have rn : RingOK nT (upC e 0 (.inr (7, objF ad (upd fi 3 1 3) (upd fi 3 1 29)))) ad 100 (fa 0) tx := RingOK.cg (fun k hk => c2 k (by omega)) (RingOK.other B3 B1 (by decide) p3 r)
  have hu : ∀ j, j < 2892 → cpT 2892 (fa 0) (fa 1) j = fa 0 j := fun j hj => cpT_lt hj
  have rx : Rest (upC e 0 (.inr (7, objF ad (upd fi 3 1 3) (upd fi 3 1 29)))) ad (upd fi 3 1) fa := te.o (fun k hk => upC_n (by omega)) upC_s (upd_n (by omega)) (by rw [upd_n (by omega)]; exact ⟨h.1.2.2.2.2.2, Nat.le_refl _⟩) SX.rf
  have e1 : upF fa 1 (cpT 2892 (fa 0) (fa 1)) 0 = fa 0 := upF_n (by decide)
  refine ⟨fa 0 0, upC e 0 (.inr (7, objF ad (upd fi 3 1 3) (upd fi 3 1 29))), upd fi 3 1, upF fa 1 (cpT 2892 (fa 0) (fa 1)), ?_, ?_, ?_⟩
  · simp only [fX7_keep, o_i hL h.1, o_n hL h.1, cv_R hL B3 r3, p1, hp, Option.bind_some, o_n hL rx, cg_n hL B1 rn]
  · simp only [fX8_keep, rpu3 hR, rg0 hR, rg1 hR, rcv hR, R_setAside hR (Or.inl rfl) (Or.inr (Or.inl rfl)) (show (0 : Nat) ≠ 1 by decide), Option.bind_some, rk0 hR, e1]
  · obtain ⟨s2, t2, r2⟩ := h.2.2.1
    refine ⟨?_, ⟨tx, by rw [e1]; exact rn, by rw [e1]; exact w, by rw [e1]; exact h4⟩, ⟨s2, t2, RingOK.cg (fun k hk => c2 k (by omega)) (RingOK.other B3 B2' (by decide) p3 r2)⟩, ?_⟩
    · exact rx.c1
    · refine ⟨cpT 2892 (fa 0) (fa 1), tx, RingOK.ev w hu (RingOK.cg (fun k hk => c2 k (by omega)) p2), Or.inr ⟨upd_s, upF_s.symm, w.ev hu, by rw [hu 4 (by omega)]; exact h4⟩⟩
theorem L_back (hL : Lay nd ad (KC nT)) (hR : Lay nd2 ad2 KR) (h : Inv nT c ad fi fa) : Sim nT nd nd2 ad ad2 c fi fa (fX7_back (ad 0)) (fX8_back (ad2 31)) := by
  obtain ⟨tx, r, w, h4⟩ := h.n
  obtain ⟨s3, t3, r3, hk⟩ := h.2.2.2
  rcases hk with hk | ⟨hk, rfl, w3, h43⟩
  · refine Sim.same (r := -1000000002) h ?_ ?_
    · simp only [fX7_back, o_k hL h.1, hk, Option.bind_some, if_true]
    · simp only [fX8_back, rg3 hR, hk, Option.bind_some, if_true]
  · have hk0 : ¬ fi 3 = 0 := by rw [hk]; decide
    obtain ⟨e, p1, p2, p3⟩ := C_become hL B1 B3 (by decide) r3 w3 r
    have te := h.1.cg (p3.rest B1) SX.rf
    have hu : ∀ j, j < 2892 → cpT 2892 (fa 1) (fa 0) j = fa 1 j := fun j hj => cpT_lt hj
    have p2' := RingOK.ev w3 hu p2
    refine Sim.now (r := fa 1 0) (fb := upF fa 0 (cpT 2892 (fa 1) (fa 0))) h ?_ ?_ p3 p2' upF_s (w3.ev hu) (by rw [hu 4 (by omega)]; exact h43) (SX.up (Or.inl rfl))
    · simp only [fX7_back, o_k hL h.1, if_neg hk0, o_n hL h.1, o_i hL h.1, cv_R hL B1 r, p1, Option.bind_some, o_n hL te, cg_n hL B1 p2]
    · simp only [fX8_back, rg3 hR, if_neg hk0, rg0 hR, rg1 hR, rcv hR, R_setAside hR (Or.inr (Or.inl rfl)) (Or.inl rfl) (show (1 : Nat) ≠ 0 by decide), Option.bind_some, rk0 hR, upF_s, hu 0 (by omega)]
/-- how far two rows agree -/
def ckF (w E : Nat → Int32) (L : Nat) : Nat → Nat → Nat
  | 0, j => j
  | f + 1, j => if j < L ∧ w j = E j then ckF w E L f (j + 1) else j
theorem ckF_s (w E : Nat → Int32) (L f j : Nat) : ckF w E L (f + 1) j = if j < L ∧ w j = E j then ckF w E L f (j + 1) else j := rfl
theorem ckF_le (w E : Nat → Int32) (L : Nat) : ∀ f j, j ≤ L → ckF w E L f j ≤ L := by
  intro f
  induction f with
  | zero => intro j h; exact h
  | succ f ih =>
    intro j h
    rw [ckF_s]
    split
    · next hh => exact ih (j + 1) (by omega)
    · exact h
/-- what is expected of the turns from u on -/
def exS (u : Nat → Int32) (j : Nat) : Int32 := if j % 2 = 0 then lsT (j / 2 + 1) u else sprS (itT (j / 2 + 1) u)
theorem exS_0 (u : Nat → Int32) (i : Nat) : exS u (2 * i) = (turnS (itT i u)).1 := by
  unfold exS
  rw [if_pos (by omega), show 2 * i / 2 = i by omega]
  rfl
theorem exS_1 (u : Nat → Int32) (i : Nat) : exS u (2 * i + 1) = sprS (itT (i + 1) u) := by
  unfold exS
  rw [if_neg (by omega), show (2 * i + 1) / 2 = i by omega]
def ckA (m D J : Nat) : Int32 := if J = m ∧ J = D then 0 else nI (1 + J)
theorem C_waits (hL : Lay nd ad (KC nT)) (o : c 0 = .inr (7, objF ad a b)) {g : Nat → Int32} (hg : c 490 = .inl (0, 60, .inl g)) {m j : Nat} (hm : m ≤ 60) (hj : j < 2 ^ 30) (v : Int32) : fX7_waitsAt (ad 0) (nI j) (nI m) v (MM nd c) = some (decide (j < m ∧ g j = v)) := by
  have k490 : KC nT 490 := by unfold KC; omega
  have w : gR (MM nd c) (ad 0) 7 7 = some (ad 490) := gR_MM hL KC_0 o rfl
  unfold fX7_waitsAt
  simp only [C_within, Option.bind_some]
  by_cases h : j < m
  · rw [if_pos (decide_eq_true (pred_bt h (by omega)))]
    simp only [w, Option.bind_some, ldI_MM hL k490 hg (show j < 60 by omega) (by omega)]
    by_cases h2 : g j = v
    · rw [if_pos h2]; simp [h, h2]
    · rw [if_neg h2]; simp [h2]
  · rw [if_neg]
    · simp [h]
    · intro z
      obtain ⟨i, z1, z2⟩ := bt_pred (of_decide_eq_true z) (by omega)
      rw [nI_eq (by omega) (by omega)] at z1
      omega
theorem L_check (hL : Lay nd ad (KC nT)) (hR : Lay nd2 ad2 KR) (h : Inv nT c ad fi fa) (x : Int32) : Sim nT nd nd2 ad ad2 c fi fa (fX7_check (ad 0) x) (fX8_check (ad2 31) x) := by
  obtain ⟨tx, r, w, h4⟩ := h.n
  obtain ⟨s3, t3, r3, hk⟩ := h.2.2.2
  obtain ⟨o, rd, sh, sl, ⟨g, g1, g2⟩, m, m1, m2⟩ := h.1
  -- nothing waits any longer
  have hp := pI_MM (f := 8) (v := (0 : Int32)) hL (KC_0 (nT := nT)) o (by simp [objF])
  have hset : (objF ad (fi 3) (fi 29)).set 8 (.int 0) = objF ad (upd fi 29 0 3) (upd fi 29 0 29) := rfl
  rw [hset] at hp
  generalize hc0 : upC c 0 (.inr (7, objF ad (upd fi 29 0 3) (upd fi 29 0 29))) = c0 at hp
  have c0n : ∀ k, k ≠ 0 → c0 k = c k := fun k hk => by rw [← hc0, upC_n hk]
  have o0 : c0 0 = .inr (7, objF ad (upd fi 29 0 3) (upd fi 29 0 29)) := by rw [← hc0, upC_s]
  have rx : Rest c0 ad (upd fi 29 0) fa := h.1.o (fun k hk => c0n k (by omega)) o0 (upd_n (by omega)) (by rw [upd_s]; exact ⟨⟨0, rfl, by omega⟩, Nat.zero_le _⟩) SX.rf
  have h0 : Inv nT c0 ad (upd fi 29 0) fa := h.rst (fun k h1 _ => c0n k h1) rx (upd_n (by omega)) rfl rfl
  have e3 : upd fi 29 0 3 = fi 3 := upd_n (by omega)
  have kp : gI (MM nd c0) (ad 0) 7 3 = some (fi 3) := by rw [← e3]; exact gI_MM hL KC_0 o0 rfl
  by_cases hx : 1 ≤ x ∧ x ≤ 30
  · rcases hk with hk | ⟨hk, rfl, w3, h43⟩
    · refine ⟨-1000000002, c0, upd fi 29 0, fa, ?_, ?_, h0⟩
      · simp only [fX7_check, o_ws hL h.1, hp, C_within, decide_eq_true hx, if_true, Option.bind_some, kp, hk]
      · simp only [fX8_check, rg29 hR, rpu29 hR, isIn_t k64_1 k64_30, decide_eq_true hx, if_true, Option.bind_some, rg3 hR, e3, hk]
    · have hk0 : ¬ fi 3 = 0 := by rw [hk]; decide
      obtain ⟨n, j1, j2, j3⟩ := bt (a := 1) (b := 30) hx (by omega) (by omega)
      subst j1
      obtain ⟨k, k1, k2, k3⟩ := w3.n4
      have hN : min n (9999 - k) ≤ 9999 - k ∧ min n (9999 - k) ≤ n ∧ (n ≤ min n (9999 - k) ∨ k + min n (9999 - k) = 9999) := by
        rcases Nat.le_total n (9999 - k) with q | q
        · rw [Nat.min_eq_left q]; omega
        · rw [Nat.min_eq_right q]; omega
      generalize hNe : min n (9999 - k) = N at hN
      -- the row that is thought: the image's
      have hu : ∀ j, j < 2892 → cpT 2892 (fa 1) (fa 0) j = fa 1 j := fun j hj => cpT_lt hj
      generalize hU : cpT 2892 (fa 1) (fa 0) = U at hu
      have wU : Wf U := w3.ev hu
      have U4 : U 4 = nI k := by rw [hu 4 (by omega)]; exact k1
      have nU4 : nt (U 4) = k := by rw [U4]; exact nt_nI (by omega)
      generalize hJ : ckF (fa 28) (exS U) (min m (2 * N)) 60 0 = J
      have r30 : RingOK nT c0 ad 300 (fa 1) t3 := RingOK.cg (fun j hj => c0n j (by omega)) r3
      obtain ⟨s2, t2, r2⟩ := h0.2.2.1
      obtain ⟨f0, p1, p2, p3⟩ := C_become hL B2' B3 (by decide) r30 w3 r2
      have p2 := RingOK.ev w3 hu p2
      have wg : ∀ e, ChB 200 c0 e → e 0 = .inr (7, objF ad (upd fi 29 0 3) (upd fi 29 0 29)) ∧ e 490 = .inl (0, 60, .inl g) := fun e he => ⟨(he.rest B2' 0 (Or.inl rfl)).trans o0, (he.rest B2' 490 (by omega)).trans ((c0n 490 (by omega)).trans g1)⟩
      have gw : ∀ j, j < m → g j = fa 28 j := fun j hj => g2 j (by rw [m1, nt_nI (by omega)]; exact hj)
      obtain ⟨res, l1, e, rfl, l2, u, t, l3⟩ := loop_gen (b := fX7_check_b0 (ad 0) (nI m) (nI N))
        (fun i st => ∃ e, st = (nI i, MM nd e) ∧ RingOK nT e ad 200 (itT i U) t3 ∧ ChB 200 c0 e ∧ (2 * i ≤ m ∨ i = 0) ∧ ckF (fa 28) (exS U) (min m (2 * N)) (60 - 2 * i) (2 * i) = J)
        (fun res => ∃ e, res = (ckA m (2 * N) J, MM nd e) ∧ Th nT ad c0 e) N (by
          rintro i st ⟨e, rfl, hr, hq, hm, hf⟩ hi
          obtain ⟨wi, -, -⟩ := itT_ok wU (n := i) (by omega)
          by_cases hi2 : i < N
          · have t1 := h0.thR (Th.of hq hr)
            obtain ⟨e2, b1, b2, b3⟩ := C_takeTurn hL B2' hr wi
            obtain ⟨wi2, -, -⟩ := itT_ok wU (n := i + 1) (by omega)
            have hq2 := hq.tr b3
            have t2 := h0.thR (Th.of hq2 b2)
            obtain ⟨z1, z2⟩ := wg e2 hq2
            have hw1 := C_waits hL z1 z2 m2 (j := 2 * i) (by omega) (turnS (itT i U)).1
            have hw2 := C_waits hL z1 z2 m2 (j := 2 * i + 1) (by omega) (sprS (itT (i + 1) U))
            have sp : fX2_spread (ad 200) (MM nd e2) = some (sprS (itT (i + 1) U)) := C_spread hL B2' b2 wi2
            rw [show 60 - 2 * i = (60 - 2 * (i + 1)) + 1 + 1 by omega, ckF_s] at hf
            simp only [fX7_check_b0, if_neg (nI_ge hi2 (show N < 2 ^ 31 by omega)), o_t hL t1, cv_R hL B2' hr, b1, o_cv hL t2, ix2m, ixp1, hw1, o_t hL t2, cv_R hL B2' b2, sp, hw2, Option.bind_some]
            by_cases q1 : 2 * i < m ∧ g (2 * i) = (turnS (itT i U)).1
            · rw [if_pos (decide_eq_true q1)]
              rw [if_pos ⟨by omega, by rw [← gw _ q1.1, q1.2, exS_0]⟩, ckF_s] at hf
              by_cases q2 : 2 * i + 1 < m ∧ g (2 * i + 1) = sprS (itT (i + 1) U)
              · rw [if_pos (decide_eq_true q2)]
                rw [if_pos ⟨by omega, by rw [← gw _ q2.1, q2.2, exS_1]⟩] at hf
                exact Or.inr ⟨hi2, _, rfl, e2, rfl, b2, hq2, Or.inl (by omega), hf⟩
              · rw [if_neg (fun z => q2 (of_decide_eq_true z))]
                rw [if_neg (by
                  rintro ⟨z1, z2⟩
                  refine q2 ⟨by omega, ?_⟩
                  rw [gw _ (by omega), z2, exS_1])] at hf
                refine Or.inl ⟨_, rfl, e2, ?_, Th.of hq2 b2⟩
                rw [← hf]
                unfold ckA
                rw [if_neg (by omega), show (2 : Int32) + nI (2 * i) = nI (2 + 2 * i) from nI_add 2 _, show 1 + (2 * i + 1) = 2 + 2 * i by omega]
            · rw [if_neg (fun z => q1 (of_decide_eq_true z))]
              rw [if_neg (by
                rintro ⟨z1, z2⟩
                refine q1 ⟨by omega, ?_⟩
                rw [gw _ (by omega), z2, exS_0])] at hf
              refine Or.inl ⟨_, rfl, e2, ?_, Th.of hq2 b2⟩
              rw [← hf]
              unfold ckA
              rw [if_neg (by omega), show (1 : Int32) + nI (2 * i) = nI (1 + 2 * i) from nI_add 1 _]
          · have hiN : i = N := by omega
            subst hiN
            have hJ2 : J = 2 * i := by
              cases hfu : 60 - 2 * i with
              | zero => rw [hfu] at hf; exact hf.symm
              | succ f =>
                rw [hfu, ckF_s, if_neg (by omega)] at hf
                exact hf.symm
            simp only [fX7_check_b0, if_pos (nI_le (Nat.le_refl i) (show i < 2 ^ 31 by omega)), ix2m]
            by_cases hmm : m ≤ 2 * i
            · rw [if_pos (nI_le hmm (by omega))]
              refine Or.inl ⟨_, rfl, e, ?_, Th.of hq hr⟩
              unfold ckA
              rw [if_pos (by omega)]
            · rw [if_neg (nI_ge (by omega) (by omega))]
              refine Or.inl ⟨_, rfl, e, ?_, Th.of hq hr⟩
              unfold ckA
              rw [if_neg (by omega), hJ2, show (1 : Int32) + nI (2 * i) = nI (1 + 2 * i) from nI_add 1 _])
        bigN 0 (0, MM nd f0) ⟨f0, rfl, p2, p3, Or.inr rfl, hJ⟩ (by omega) (by rw [bigN_eq]; omega)
      -- the reference
      have A1 := R_setAside (fi := upd fi 29 0) (fa := fa) hR (k := 0) (l := 2) (by omega) (by omega) (by decide)
      have A2 := R_setAside (fi := upd fi 29 0) (fa := upF fa 2 (cpT 2892 (fa 0) (fa 2))) hR (k := 1) (l := 0) (by omega) (by omega) (by decide)
      rw [upF_n (show ¬ 1 = 2 by decide), upF_n (show ¬ 0 = 2 by decide), hU] at A2
      obtain ⟨res, k1', fc, rfl, f1, f2, f3, f4⟩ := loop_rel (b := fX8_check_b0 (ad2 31) (nI n)) (s := ((0 : Int32), (0 : Int32), MR nd2 ad2 (upd fi 29 0) (upF (upF fa 2 (cpT 2892 (fa 0) (fa 2))) 0 U)))
        (fun i st => ∃ fc, st = (nI (2 * i), nI i, MR nd2 ad2 (upd fi 29 0) fc) ∧ fc 0 = itT i U ∧ fc 2 = cpT 2892 (fa 0) (fa 2) ∧ SX fa fc ∧ ∀ j, j < 2 * i → fc 30 j = exS U j)
        (fun res => ∃ fc, res = (nI (2 * N), MR nd2 ad2 (upd fi 29 0) fc) ∧ fc 0 = itT N U ∧ fc 2 = cpT 2892 (fa 0) (fa 2) ∧ SX fa fc ∧ ∀ j, j < 2 * N → fc 30 j = exS U j) N (by omega) ⟨_, rfl, upF_s, by rw [upF_n (by decide), upF_s], (SX.up (by omega)).tr (SX.up (by omega)), fun j hj => absurd hj (by omega)⟩ (by
          rintro i st hi ⟨fc, rfl, z0, z2, zX, z30⟩
          obtain ⟨wi, wi4, -⟩ := itT_ok wU (n := i) (by omega)
          obtain ⟨wi2, -, -⟩ := itT_ok wU (n := i + 1) (by omega)
          obtain ⟨fd, b1, b2⟩ := R_turn (fi := upd fi 29 0) (fa := fc) hR (by rw [z0]; exact wi)
          rw [z0] at b1 b2
          have d0 : fd 0 = itT (i + 1) U := by rw [b2.z, upF_s, itT_s]
          have dd : ∀ v, upF fd 30 v 0 = itT (i + 1) U := fun v => by rw [upF_n (by decide)]; exact d0
          have sp : fX8_spread (ad2 31) (MR nd2 ad2 (upd fi 29 0) (upF fd 30 (upd (fd 30) (2 * i) (turnS (itT i U)).1))) = some (sprS (itT (i + 1) U)) := by rw [R_spread hR (by rw [dd]; exact wi2), dd]
          simp only [fX8_check_b0, if_neg (nI_ge (show i < n by omega) (show n < 2 ^ 31 by omega)), rg0 hR, rk4 hR, z0, wi4, Option.bind_some, if_neg (show ¬ (9999 : Int32) ≤ nI (nt (U 4) + i) from nI_ge (b := 9999) (by omega) (by omega)), rg30 hR, rcv hR, b1, rs30 hR (show 2 * i < 60 by omega), sp, ixp1, ixp2, rs30 hR (show 2 * i + 1 < 60 by omega), upF_s, upF_2]
          refine ⟨_, rfl, _, rfl, dd _, ?_, ?_, fun j hj => ?_⟩
          · rw [upF_n (by decide), b2 2 (by decide) (by decide), upF_n (by decide), z2]
          · exact ((zX.tr (SX.up (by omega))).tr (SX.sc b2)).tr (SX.up (by omega))
          · rw [upF_s]
            by_cases e1 : j = 2 * i + 1
            · subst e1; rw [upd_s, exS_1]
            · rw [upd_n e1]
              by_cases e2 : j = 2 * i
              · subst e2; rw [upd_s, exS_0]
              · rw [upd_n e2, b2 30 (by decide) (by decide), upF_n (by decide)]
                exact z30 j (by omega))
        (by
          rintro st ⟨fc, rfl, z0, z2, zX, z30⟩
          obtain ⟨wi, wi4, -⟩ := itT_ok wU (n := N) (by omega)
          refine ⟨_, ?_, fc, rfl, z0, z2, zX, z30⟩
          simp only [fX8_check_b0]
          by_cases hc : n ≤ N
          · rw [if_pos (nI_le hc (by omega))]
          · rw [if_neg (nI_ge (by omega) (by omega))]
            simp only [rg0 hR, rk4 hR, z0, wi4, Option.bind_some]
            rw [if_pos (show (9999 : Int32) ≤ nI (nt (U 4) + N) from nI_le (a := 9999) (by omega) (by omega))])
      obtain ⟨wN, -, wNj⟩ := itT_ok wU (n := N) (by omega)
      have A3 := R_setAside (fi := upd fi 29 0) (fa := fc) hR (k := 2) (l := 0) (by omega) (by omega) (by decide)
      have back : cpT 2892 (fc 2) (fc 0) = fa 0 := by
        rw [f2]
        refine cpT_back (fun j hj => ?_)
        rw [f1, wNj j (by omega), ← hU]
        exact cpT_ge (by omega)
      rw [back] at A3
      have e28 : upF fc 0 (fa 0) 28 = fa 28 := by rw [upF_n (by decide)]; exact f3 28 (by omega)
      have e30 : upF fc 0 (fa 0) 30 = fc 30 := upF_n (by decide)
      have hJle : J ≤ min m (2 * N) := by rw [← hJ]; exact ckF_le _ _ _ _ _ (Nat.zero_le _)
      obtain ⟨res, kb, rfl⟩ := loop_gen (b := fX8_check_b1 (ad2 31) (nI m) (nI (2 * N)) (MR nd2 ad2 (upd fi 29 0) (upF fc 0 (fa 0))))
        (fun j st => st = nI j ∧ ckF (fa 28) (exS U) (min m (2 * N)) (60 - j) j = J) (fun res => res = nI J) (min m (2 * N)) (by
          rintro j st ⟨rfl, hf⟩ hj
          by_cases hjm : j < m
          · by_cases hjD : j < 2 * N
            · rw [show 60 - j = (60 - (j + 1)) + 1 by omega, ckF_s] at hf
              simp only [fX8_check_b1, if_neg (nI_ge hjm (show m < 2 ^ 31 by omega)), if_neg (nI_ge hjD (show 2 * N < 2 ^ 31 by omega)), rg28 hR, rg30 hR, rl28 hR (show j < 60 by omega), rl30 hR (show j < 60 by omega), e28, e30, f4 j hjD, Option.bind_some, ixp1]
              by_cases hz : fa 28 j = exS U j
              · rw [if_pos ⟨by omega, hz⟩] at hf
                rw [if_pos hz]
                exact Or.inr ⟨by omega, _, rfl, rfl, hf⟩
              · rw [if_neg (fun z => hz z.2)] at hf
                rw [if_neg hz]
                exact Or.inl ⟨_, rfl, by rw [hf]⟩
            · have hJj : J = j := by
                cases hfu : 60 - j with
                | zero => rw [hfu] at hf; exact hf.symm
                | succ f => rw [hfu, ckF_s, if_neg (by omega)] at hf; exact hf.symm
              simp only [fX8_check_b1, if_neg (nI_ge hjm (show m < 2 ^ 31 by omega)), if_pos (nI_le (show 2 * N ≤ j by omega) (show j < 2 ^ 31 by omega))]
              exact Or.inl ⟨_, rfl, by rw [hJj]⟩
          · have hJj : J = j := by
              cases hfu : 60 - j with
              | zero => rw [hfu] at hf; exact hf.symm
              | succ f => rw [hfu, ckF_s, if_neg (by omega)] at hf; exact hf.symm
            simp only [fX8_check_b1, if_pos (nI_le (show m ≤ j by omega) (show j < 2 ^ 31 by omega))]
            exact Or.inl ⟨_, rfl, by rw [hJj]⟩)
        bigN 0 0 ⟨rfl, hJ⟩ (Nat.zero_le _) (by rw [bigN_eq]; omega)
      refine ⟨ckA m (2 * N) J, e, upd fi 29 0, upF fc 0 (fa 0), ?_, ?_, h0.tht l2 l3 upF_s (f3.tr (SX.up (Or.inl rfl)))⟩
      · have hsub : (9999 : Int32) - nI k = nI (9999 - k) := pk_sub (a := 9999) (by omega)
        have tf := h0.thR (Th.of p3 p2)
        simp only [fX7_check, o_ws hL h.1, hp, C_within, decide_eq_true hx, if_true, Option.bind_some, kp, if_neg hk0, o_t hL rx, o_i hL rx, cv_R hL B2' r2, p1, o_t hL tf, cg_4 hL B2' p2, U4, hsub, min_nI (show n < 2 ^ 31 by omega) (show 9999 - k < 2 ^ 31 by omega), hNe, m1, l1]
      · simp only [fX8_check, rg29 hR, rpu29 hR, isIn_t k64_1 k64_30, decide_eq_true hx, if_true, Option.bind_some, rg3 hR, e3, if_neg hk0, rg0 hR, rg1 hR, rg2 hR, rcv hR, A1, A2, k1', A3, m1, kb]
        unfold ckA
        by_cases q1 : J = m
        · rw [if_pos (by rw [q1])]
          by_cases q2 : J = 2 * N
          · rw [if_pos (by rw [q2]), if_pos ⟨q1, q2⟩]
          · rw [if_neg (fun z => q2 ((nI_eq (by omega) (by omega)).mp z)), if_neg (fun z => q2 z.2), show (1 : Int32) + nI J = nI (1 + J) from nI_add 1 _]
        · rw [if_neg (fun z => q1 ((nI_eq (by omega) (by omega)).mp z)), if_neg (fun z => q1 z.1), show (1 : Int32) + nI J = nI (1 + J) from nI_add 1 _]
  · refine ⟨-1000000001, c0, upd fi 29 0, fa, ?_, ?_, h0⟩
    · simp only [fX7_check, o_ws hL h.1, hp, C_within, decide_eq_false hx, Bool.false_eq_true, if_false, Option.bind_some]
    · simp only [fX8_check, rg29 hR, rpu29 hR, isIn_t k64_1 k64_30, decide_eq_false hx, Bool.false_eq_true, if_false, Option.bind_some]
end PJ1
