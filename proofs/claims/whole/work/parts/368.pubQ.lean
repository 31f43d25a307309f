section PQ
variable {nT B : Nat} {nd nd2 : Nat → Option Nat} {c e : Nat → pE} {ad ad2 tx : Nat → Nat} {fi fj : Nat → Int32} {fa fb fc : Nat → Nat → Int32} {s u : Nat → Int32}
theorem Inv.sl (h : Inv nT c ad fi fa) (hc : ∀ j, ¬ (450 ≤ j ∧ j < 490) → e j = c j) (hf : ∀ j, ¬ (7 ≤ j ∧ j ≤ 11) → fb j = fa j) (hs : ∀ k, k < 5 → SLok1 e ad fb k) : Inv nT e ad fi fb := by
  obtain ⟨o, ⟨r1, r2, r3, r4⟩, sh, sl, w1, w2⟩ := h.1
  refine h.rst (fun k h1 h2 => hc k (by omega)) ⟨(hc 0 (by omega)).trans o, ⟨?_, ?_, ?_, r4⟩, ⟨?_, fun k hk => ?_⟩, ⟨?_, hs⟩, ?_, w2⟩ rfl (hf 0 (by omega)) (hf 1 (by omega))
  · rw [hc 400 (by omega)]; exact r1
  · rw [hc 401 (by omega), hf 13 (by omega)]; exact r2
  · rw [hc 402 (by omega)]; exact r3
  · rw [hc 410 (by omega)]; exact sh.1
  · unfold SHok1
    rw [hc (420 + k) (by omega), hc (430 + k) (by omega), hf 4 (by omega), hf 5 (by omega), hf 6 (by omega)]
    exact sh.2 k hk
  · rw [hc 440 (by omega)]; exact sl.1
  · rw [hc 490 (by omega), hf 28 (by omega)]; exact w1
theorem SL_o {q : Nat} (h : SLok1 c ad fa q) (h1 : e (450 + q) = c (450 + q)) (h2 : e (460 + q) = c (460 + q)) (h3 : e (470 + q) = c (470 + q)) (h4 : e (480 + q) = c (480 + q)) (f7 : fb 7 q = fa 7 q) (f8 : fb 8 q = fa 8 q) (f9 : fb 9 q = fa 9 q) (f10 : fb 10 q = fa 10 q) (f11 : ∀ i, i < 24 → fb 11 (24 * q + i) = fa 11 (24 * q + i)) : SLok1 e ad fb q := by
  obtain ⟨kd, sc, wi, so, ln, nu, g, a1, a2, a3, a4, a5, a6, a7, a8⟩ := h
  refine ⟨kd, sc, wi, so, ln, nu, g, by rw [h1, f7]; exact a1, h2.trans a2, h3.trans a3, h4.trans a4, by rw [f7]; exact a5, ?_, ?_, ?_⟩
  · rw [f7, f8, f9]; exact a6
  · rw [f7, f10]
    intro z
    obtain ⟨b1, b2, b3⟩ := a7 z
    exact ⟨b1, b2, fun i hi => by rw [f11 i hi]; exact b3 i hi⟩
  · rw [f7, f8]; exact a8
theorem C_become3 (hL : Lay nd ad (KC nT)) {d d2 p p2 : Nat} (hd : KC nT d) (hd2 : KC nT d2) (hp : KC nT p) (hp2 : KC nT p2) (n1 : p ≠ d) (n2 : p2 ≠ d) (n3 : d2 ≠ d) {a b x y : Int32} {f g : Nat → Int32} (h1 : c d = .inr (3, [.int a, .int b, .ref (ad d2)])) (h2 : c d2 = .inl (0, 24, .inl g)) (h3 : c p = .inr (3, [.int x, .int y, .ref (ad p2)])) (h4 : c p2 = .inl (0, 24, .inl f)) : fX3_become (ad d) (ad p) (MM nd c) = some (MM nd (upC (upC c d (.inr (3, [.int x, .int y, .ref (ad d2)]))) d2 (.inl (0, 24, .inl (va_cpy f g 0 0 24))))) := by
  unfold fX3_become
  rw [gI_MM (f := 0) hL hp h3 rfl]
  simp only [Option.bind_some]
  rw [pI_MM (f := 0) hL hd h1 (by simp)]
  simp only [Option.bind_some]
  rw [gI_MM (f := 1) hL hp ((upC_n n1).trans h3) rfl]
  simp only [Option.bind_some]
  rw [pI_MM (f := 1) hL hd upC_s (by simp), upC_2]
  simp only [Option.bind_some]
  rw [gR_MM (f := 2) hL hp ((upC_n n1).trans h3) rfl]
  simp only [Option.bind_some]
  rw [gR_MM (f := 2) (v := ad d2) hL hd upC_s rfl]
  simp only [Option.bind_some]
  rw [show cpI (MM nd (upC c d (.inr (3, (([Value.int a, .int b, .ref (ad d2)].set 0 (.int x)).set 1 (.int y)))))) (ad p2) 0 (ad d2) 0 24 = _ from cpI_MM (sp := 0) (dp := 0) (n := 24) hL hp2 ((upC_n n2).trans h4) hd2 ((upC_n n3).trans h2) (by decide) (by decide) (by decide) (by decide)]
  rfl
theorem L_lay (hL : Lay nd ad (KC nT)) (hR : Lay nd2 ad2 KR) (h : Inv nT c ad fi fa) (x a v : Int32) : Sim nT nd nd2 ad ad2 c fi fa (fX7_lay (ad 0) x a v) (fX8_lay (ad2 31) x a v) := by
  obtain ⟨tx, r, w, h4⟩ := h.n
  by_cases hx : 0 ≤ x ∧ x ≤ 4
  · obtain ⟨k, j1, -, j3⟩ := bt (a := 0) (b := 4) hx (by omega) (by omega)
    subst j1
    have hk : k < 5 := by omega
    obtain ⟨kd, sc, wi, so, ln, nu, g, a1, a2, a3, a4, a5, a6, a7, a8⟩ := h.1.2.2.2.1.2 k hk
    have g0 : gI (MM nd c) (ad (450 + k)) 4 0 = some (fa 7 k) := gI_MM hL (K450 hk) a1 rfl
    have pt : pI (MM nd c) (ad (450 + k)) 4 0 a = some (MM nd (upC c (450 + k) (.inr (4, [.int a, .ref (ad (460 + k)), .ref (ad (470 + k)), .int nu])))) := by
      rw [pI_MM (f := 0) hL (K450 hk) a1 (by simp)]; rfl
    -- a number, or nothing
    have num : ∀ (t : Nat), a = nI t → (t = 0 ∨ t = 3) → Sim nT nd nd2 ad ad2 c fi fa (fX7_lay (ad 0) (nI k) a v) (fX8_lay (ad2 31) (nI k) a v) := by
      intro t ht ht2
      have ha : 0 ≤ a ∧ a ≤ 3 := by rw [ht]; exact ⟨nI_pos' (by omega), nI_le (b := 3) (by omega) (by omega)⟩
      have n1 : ¬ a = 1 := by rw [ht]; rcases ht2 with z | z <;> subst z <;> decide
      have n2 : ¬ a = 2 := by rw [ht]; rcases ht2 with z | z <;> subst z <;> decide
      have pn : pI (MM nd (upC c (450 + k) (.inr (4, [.int a, .ref (ad (460 + k)), .ref (ad (470 + k)), .int nu])))) (ad (450 + k)) 4 3 v = some (MM nd (upC c (450 + k) (.inr (4, [.int a, .ref (ad (460 + k)), .ref (ad (470 + k)), .int v])))) := by
        rw [pI_MM (f := 3) hL (K450 hk) upC_s (by simp), upC_2]; rfl
      have y4 : ∀ (X : Option Int32), (if a = 0 then some (1 : Int32) else if a = 3 then some 1 else X) = some 1 := by
        intro X
        rw [ht]
        rcases ht2 with z | z <;> subst z <;> rfl
      refine ⟨fa 7 k, upC c (450 + k) (.inr (4, [.int a, .ref (ad (460 + k)), .ref (ad (470 + k)), .int v])), fi, upF (upF (upF fa 7 (upd (fa 7) k a)) 8 (upd (fa 8) k v)) 9 (upd (fa 9) k 0), ?_, ?_, h.sl (fun j hj => upC_n (by omega)) (fun j hj => by rw [upF_n (by omega), upF_n (by omega), upF_n (by omega)]) (fun q hq => ?_)⟩
      · simp only [fX7_lay, C_isSl, decide_eq_true hx, C_within, decide_eq_true ha, if_true, if_neg n1, if_neg n2, o_sl hL h.1, sl_l hL h.1 hk, g0, pt, pn, Option.bind_some]
      · have e8 : upF fa 7 (upd (fa 7) k a) 8 = fa 8 := upF_n (by decide)
        have e9 : upF (upF fa 7 (upd (fa 7) k a)) 8 (upd (fa 8) k v) 9 = fa 9 := by rw [upF_n (by decide), upF_n (by decide)]
        simp only [fX8_lay]
        rw [y4]
        simp only [R_isSl, decide_eq_true hx, if_true, show ¬ (1 : Int32) = 0 by decide, if_false, if_neg n1, if_neg n2, rg7 hR, rl7 hR hk, rs7 hR hk, rg8 hR, rs8 hR hk, e8, rg9 hR, rs9 hR hk, e9, Option.bind_some]
      · by_cases eq : q = k
        · subst eq
          refine ⟨kd, sc, wi, so, ln, v, g, ?_, (upC_n (by omega)).trans a2, (upC_n (by omega)).trans a3, (upC_n (by omega)).trans a4, ⟨t, ?_, by omega⟩, ?_, ?_, ?_⟩
          · rw [upF_n (by decide), upF_n (by decide), upF_s, upd_s, upC_s]
          · rw [upF_n (by decide), upF_n (by decide), upF_s, upd_s]; exact ht
          · rw [upF_n (by decide), upF_n (by decide), upF_s, upd_s]; exact fun z => absurd z n1
          · rw [upF_n (show ¬ 7 = 9 by decide), upF_n (show ¬ 7 = 8 by decide), upF_s, upd_s]; exact fun z => absurd z n2
          · intro _; rw [upF_n (by decide), upF_s, upd_s]
        · exact SL_o (h.1.2.2.2.1.2 q hq) (upC_n (by omega)) (upC_n (by omega)) (upC_n (by omega)) (upC_n (by omega)) (by rw [upF_n (by decide), upF_n (by decide), upF_s, upd_n eq]) (by rw [upF_n (by decide), upF_s, upd_n eq]) (by rw [upF_s, upd_n eq]) (by rw [upF_n (by decide), upF_n (by decide), upF_n (by decide)]) (fun i hi => by rw [upF_n (by decide), upF_n (by decide), upF_n (by decide)])
    by_cases t0 : a = 0
    · exact num 0 t0 (Or.inl rfl)
    · by_cases t3 : a = 3
      · exact num 3 t3 (Or.inr rfl)
      · by_cases t1 : a = 1
        · subst t1
          cases hs : spQ (fa 0) v with
          | false =>
            refine Sim.same (r := -1000000001) h ?_ ?_
            · simp only [fX7_lay, C_isSl, decide_eq_true hx, C_within, show decide ((0 : Int32) ≤ 1 ∧ (1 : Int32) ≤ 3) = true from rfl, if_true, o_n hL h.1, cv_R hL B1 r, C_isStop hL B1 r, hs, Bool.false_eq_true, if_false, Option.bind_some]
            · simp only [fX8_lay, if_neg t0, if_neg t3, if_true, rcv hR, R_isS hR, hs, Bool.false_eq_true, if_false, show ¬ (1 : Int32) = 2 by decide, R_isSl, decide_eq_true hx, Option.bind_some]
          | true =>
            obtain ⟨i, i1, i2, i3⟩ := spQ_t w hs
            subst i1
            obtain ⟨⟨kn, k1, k2⟩, -⟩ := w.sp i2
            have n420 : 100 + 20 + i ≠ 460 + k := by omega
            have bc := C_become5 (c := upC c (450 + k) (.inr (4, [.int 1, .ref (ad (460 + k)), .ref (ad (470 + k)), .int nu]))) hL (K460 hk) (KC_sp B1 i3) n420 ((upC_n (by omega)).trans a2) ((upC_n (by omega)).trans (sp_at r i3 i2))
            have r2 : RingOK nT (upC c (450 + k) (.inr (4, [.int 1, .ref (ad (460 + k)), .ref (ad (470 + k)), .int nu]))) ad 100 (fa 0) tx := RingOK.cg (fun j hj => upC_n (by omega)) r
            have g1 : gR (MM nd (upC c (450 + k) (.inr (4, [.int 1, .ref (ad (460 + k)), .ref (ad (470 + k)), .int nu])))) (ad (450 + k)) 4 1 = some (ad (460 + k)) := gR_MM hL (K450 hk) upC_s rfl
            have on : gR (MM nd (upC c (450 + k) (.inr (4, [.int 1, .ref (ad (460 + k)), .ref (ad (470 + k)), .int nu])))) (ad 0) 7 0 = some (ad 100) := gR_MM hL KC_0 ((upC_n (by omega)).trans h.1.1) rfl
            have cv : ∀ {α : Type} {x : Option α}, cV (MM nd (upC c (450 + k) (.inr (4, [.int 1, .ref (ad (460 + k)), .ref (ad (470 + k)), .int nu])))) (ad (460 + k)) 5 x = x := cV_MM hL (K460 hk) ((upC_n (by omega)).trans a2)
            refine ⟨fa 7 k, _, fi, upF (upF (upF fa 7 (upd (fa 7) k 1)) 8 (upd (fa 8) k (fa 0 (42 + 3 * i)))) 9 (upd (fa 9) k (wthS (fa 0 (42 + 3 * i)) (fa 0 (43 + 3 * i)))), ?_, ?_, h.sl (e := upC (upC c (450 + k) (.inr (4, [.int 1, .ref (ad (460 + k)), .ref (ad (470 + k)), .int nu]))) (460 + k) (.inr (5, [.int (fa 0 (42 + 3 * i)), .int (fa 0 (43 + 3 * i)), .int (fa 0 (44 + 3 * i))]))) (fun j hj => by rw [upC_n (by omega), upC_n (by omega)]) (fun j hj => by rw [upF_n (by omega), upF_n (by omega), upF_n (by omega)]) (fun q hq => ?_)⟩
            · simp only [fX7_lay, C_isSl, decide_eq_true hx, C_within, show decide ((0 : Int32) ≤ 1 ∧ (1 : Int32) ≤ 3) = true from rfl, if_true, o_n hL h.1, cv_R hL B1 r, C_isStop hL B1 r, hs, show ¬ (1 : Int32) = 2 by decide, if_false, o_sl hL h.1, sl_l hL h.1 hk, g0, pt, g1, on, cr_3 hL B1 r2, cl_sp hL B1 r2 i3, cv, bc, Option.bind_some]
            · have e8 : upF fa 7 (upd (fa 7) k 1) 8 = fa 8 := upF_n (by decide)
              have e0 : upF fa 7 (upd (fa 7) k 1) 0 = fa 0 := upF_n (by decide)
              have e9 : upF (upF fa 7 (upd (fa 7) k 1)) 8 (upd (fa 8) k (fa 0 (42 + 3 * i))) 9 = fa 9 := by rw [upF_n (by decide), upF_n (by decide)]
              have e90 : upF (upF fa 7 (upd (fa 7) k 1)) 8 (upd (fa 8) k (fa 0 (42 + 3 * i))) 0 = fa 0 := by rw [upF_n (by decide), upF_n (by decide)]
              simp only [fX8_lay, if_neg t0, if_neg t3, if_true, rcv hR, R_isS hR, hs, R_isSl, decide_eq_true hx, show ¬ (1 : Int32) = 0 by decide, show ¬ (1 : Int32) = 2 by decide, if_false, rg7 hR, rl7 hR hk, rs7 hR hk, rg8 hR, R_of0 hR (show i < 1000 by omega), e0, rs8 hR hk, e8, rg9 hR, R_worth hR (show i < 1000 by omega), e90, rs9 hR hk, e9, Option.bind_some]
            · by_cases eq : q = k
              · subst eq
                refine ⟨fa 0 (42 + 3 * i), fa 0 (43 + 3 * i), fa 0 (44 + 3 * i), so, ln, nu, g, ?_, upC_s, ?_, ?_, ⟨1, ?_, by omega⟩, ?_, ?_, ?_⟩
                · rw [upF_n (by decide), upF_n (by decide), upF_s, upd_s, upC_n (by omega), upC_s]
                · rw [upC_n (by omega), upC_n (by omega)]; exact a3
                · rw [upC_n (by omega), upC_n (by omega)]; exact a4
                · rw [upF_n (by decide), upF_n (by decide), upF_s, upd_s]; rfl
                · intro _
                  refine ⟨⟨kn, k1, k2⟩, ?_, ?_⟩
                  · rw [upF_n (by decide), upF_s, upd_s]
                  · rw [upF_s, upd_s]
                · rw [upF_n (show ¬ 7 = 9 by decide), upF_n (show ¬ 7 = 8 by decide), upF_s, upd_s]; exact fun z => absurd z (by decide)
                · rw [upF_n (show ¬ 7 = 9 by decide), upF_n (show ¬ 7 = 8 by decide), upF_s, upd_s]; exact fun z => absurd z (by decide)
              · exact SL_o (h.1.2.2.2.1.2 q hq) (by rw [upC_n (by omega), upC_n (by omega)]) (by rw [upC_n (by omega), upC_n (by omega)]) (by rw [upC_n (by omega), upC_n (by omega)]) (by rw [upC_n (by omega), upC_n (by omega)]) (by rw [upF_n (by decide), upF_n (by decide), upF_s, upd_n eq]) (by rw [upF_n (by decide), upF_s, upd_n eq]) (by rw [upF_s, upd_n eq]) (by rw [upF_n (by decide), upF_n (by decide), upF_n (by decide)]) (fun i hi => by rw [upF_n (by decide), upF_n (by decide), upF_n (by decide)])
        · by_cases t2 : a = 2
          · subst t2
            by_cases hv : 0 ≤ v ∧ v ≤ 3
            · obtain ⟨j, i1, -, i3⟩ := bt (a := 0) (b := 3) hv (by omega) (by omega)
              subst i1
              have hj : j < 4 := by omega
              obtain ⟨l, l1, l2⟩ := sh_n h.1 hj
              rcases sh_s h.1 hj with ⟨s1, s2⟩ | ⟨s1, s2, s3⟩
              · refine Sim.same (r := -1000000011) h ?_ ?_
                · simp only [fX7_lay, C_isSl, decide_eq_true hx, C_within, show decide ((0 : Int32) ≤ 2 ∧ (2 : Int32) ≤ 3) = true from rfl, if_true, if_neg t1, C_isSh, decide_eq_true hv, o_sh hL h.1, sh_l hL h.1 hj, sh_0 hL h.1 hj, if_pos s1, Option.bind_some]
                · simp only [fX8_lay, if_neg t0, if_neg t3, if_neg t1, if_true, R_isSh, decide_eq_true hv, R_isSl, decide_eq_true hx, show ¬ (1 : Int32) = 0 by decide, if_false, rg4 hR, rl4 hR hj, if_neg s2, Option.bind_some]
              · obtain ⟨b1, ⟨f, f1, f2⟩, -⟩ := h.1.2.2.1.2 j hj
                have bc := C_become3 (c := upC c (450 + k) (.inr (4, [.int 2, .ref (ad (460 + k)), .ref (ad (470 + k)), .int nu]))) hL (K470 hk) (K480 hk) (K420 hj) (K430 hj) (by omega) (by omega) (by omega) ((upC_n (by omega)).trans a3) ((upC_n (by omega)).trans a4) ((upC_n (by omega)).trans b1) ((upC_n (by omega)).trans f1)
                have g2 : gR (MM nd (upC c (450 + k) (.inr (4, [.int 2, .ref (ad (460 + k)), .ref (ad (470 + k)), .int nu])))) (ad (450 + k)) 4 2 = some (ad (470 + k)) := gR_MM hL (K450 hk) upC_s rfl
                have on : gR (MM nd (upC c (450 + k) (.inr (4, [.int 2, .ref (ad (460 + k)), .ref (ad (470 + k)), .int nu])))) (ad 0) 7 5 = some (ad 410) := gR_MM hL KC_0 ((upC_n (by omega)).trans h.1.1) rfl
                have ol : ldR (MM nd (upC c (450 + k) (.inr (4, [.int 2, .ref (ad (460 + k)), .ref (ad (470 + k)), .int nu])))) (ad 410) 4 (nI j) = some (ad (420 + j)) := by
                  obtain ⟨gg, gg1, gg2⟩ := h.1.2.2.1.1
                  exact ldR_MM hL (by unfold KC; omega) ((upC_n (by omega)).trans gg1) hj (by decide) (gg2 j hj)
                have cv : ∀ {α : Type} {x : Option α}, cV (MM nd (upC c (450 + k) (.inr (4, [.int 2, .ref (ad (460 + k)), .ref (ad (470 + k)), .int nu])))) (ad (470 + k)) 3 x = x := cV_MM hL (K470 hk) ((upC_n (by omega)).trans a3)
                have lp : ∀ fd : Nat → Nat → Int32, loopF (fX8_lay_b1 (ad2 31) (nI k) (nI j)) bigN ((0 : Int32), MR nd2 ad2 fi fd) = some (MR nd2 ad2 fi (upF fd 11 (va_cpy (fd 6) (fd 11) (24 * j) (24 * k) 24))) := by
                  intro fd
                  have := loop_for (b := fX8_lay_b1 (ad2 31) (nI k) (nI j)) (fun i => (nI i, MR nd2 ad2 fi (upF fd 11 (va_cpy (fd 6) (fd 11) (24 * j) (24 * k) i)))) 24 (MR nd2 ad2 fi (upF fd 11 (va_cpy (fd 6) (fd 11) (24 * j) (24 * k) 24))) (by omega) (fun i hi => by
                    have e6 : upF fd 11 (va_cpy (fd 6) (fd 11) (24 * j) (24 * k) i) 6 = fd 6 := upF_n (by decide)
                    simp only [fX8_lay_b1, if_neg (show ¬ (24 : Int32) ≤ nI i from nI_ge (b := 24) hi (by omega)), rg11 hR, rg6 hR, ix24, rl6 hR (show 24 * j + i < 96 by omega), e6, rs11 hR (show 24 * k + i < 120 by omega), upF_s, upF_2, Option.bind_some, ixp1, cpy_s]) (by
                    simp only [fX8_lay_b1, if_pos (show (24 : Int32) ≤ nI 24 from Int32.le_refl _)])
                  rw [cpy_0, upF_id] at this
                  exact this
                refine ⟨fa 7 k, _, fi, upF (upF (upF (upF (upF fa 7 (upd (fa 7) k 2)) 8 (upd (fa 8) k (nI j))) 9 (upd (fa 9) k 0)) 10 (upd (fa 10) k (fa 5 j))) 11 (va_cpy (fa 6) (fa 11) (24 * j) (24 * k) 24), ?_, ?_, h.sl (e := upC (upC (upC c (450 + k) (.inr (4, [.int 2, .ref (ad (460 + k)), .ref (ad (470 + k)), .int nu]))) (470 + k) (.inr (3, [.int (fa 4 j), .int (fa 5 j), .ref (ad (480 + k))]))) (480 + k) (.inl (0, 24, .inl (va_cpy f g 0 0 24)))) (fun q hq => by rw [upC_n (by omega), upC_n (by omega), upC_n (by omega)]) (fun q hq => by rw [upF_n (by omega), upF_n (by omega), upF_n (by omega), upF_n (by omega), upF_n (by omega)]) (fun q hq => ?_)⟩
                · simp only [fX7_lay, C_isSl, decide_eq_true hx, C_within, show decide ((0 : Int32) ≤ 2 ∧ (2 : Int32) ≤ 3) = true from rfl, if_true, if_neg t1, C_isSh, decide_eq_true hv, o_sh hL h.1, sh_l hL h.1 hj, sh_0 hL h.1 hj, if_neg s1, o_sl hL h.1, sl_l hL h.1 hk, g0, pt, g2, on, ol, cv, bc, Option.bind_some]
                · have e8 : upF fa 7 (upd (fa 7) k 2) 8 = fa 8 := upF_n (by decide)
                  have e9 : upF (upF fa 7 (upd (fa 7) k 2)) 8 (upd (fa 8) k (nI j)) 9 = fa 9 := by rw [upF_n (by decide), upF_n (by decide)]
                  have e5 : upF (upF (upF fa 7 (upd (fa 7) k 2)) 8 (upd (fa 8) k (nI j))) 9 (upd (fa 9) k 0) 5 = fa 5 := by rw [upF_n (by decide), upF_n (by decide), upF_n (by decide)]
                  have e10 : upF (upF (upF fa 7 (upd (fa 7) k 2)) 8 (upd (fa 8) k (nI j))) 9 (upd (fa 9) k 0) 10 = fa 10 := by rw [upF_n (by decide), upF_n (by decide), upF_n (by decide)]
                  have e6 : upF (upF (upF (upF fa 7 (upd (fa 7) k 2)) 8 (upd (fa 8) k (nI j))) 9 (upd (fa 9) k 0)) 10 (upd (fa 10) k (fa 5 j)) 6 = fa 6 := by rw [upF_n (by decide), upF_n (by decide), upF_n (by decide), upF_n (by decide)]
                  have e11 : upF (upF (upF (upF fa 7 (upd (fa 7) k 2)) 8 (upd (fa 8) k (nI j))) 9 (upd (fa 9) k 0)) 10 (upd (fa 10) k (fa 5 j)) 11 = fa 11 := by rw [upF_n (by decide), upF_n (by decide), upF_n (by decide), upF_n (by decide)]
                  simp only [fX8_lay, if_neg t0, if_neg t3, if_neg t1, if_true, R_isSh, decide_eq_true hv, R_isSl, decide_eq_true hx, show ¬ (1 : Int32) = 0 by decide, if_false, rg4 hR, rl4 hR hj, if_pos s2, rg7 hR, rl7 hR hk, rs7 hR hk, rg8 hR, rs8 hR hk, e8, rg9 hR, rs9 hR hk, e9, rg10 hR, rg5 hR, rl5 hR hj, e5, rs10 hR hk, e10, lp, e6, e11, Option.bind_some]
                · by_cases eq : q = k
                  · subst eq
                    have e7 : upF (upF (upF (upF (upF fa 7 (upd (fa 7) q 2)) 8 (upd (fa 8) q (nI j))) 9 (upd (fa 9) q 0)) 10 (upd (fa 10) q (fa 5 j))) 11 (va_cpy (fa 6) (fa 11) (24 * j) (24 * q) 24) 7 q = 2 := by rw [upF_n (by decide), upF_n (by decide), upF_n (by decide), upF_n (by decide), upF_s, upd_s]
                    refine ⟨kd, sc, wi, fa 4 j, fa 5 j, nu, _, ?_, ?_, ?_, upC_s, ⟨2, ?_, by omega⟩, ?_, ?_, ?_⟩
                    · rw [e7, upC_n (by omega), upC_n (by omega), upC_s]
                    · rw [upC_n (by omega), upC_n (by omega), upC_n (by omega)]; exact a2
                    · rw [upC_n (by omega), upC_s]
                    · rw [e7]; rfl
                    · rw [e7]; exact fun z => absurd z (by decide)
                    · intro _
                      refine ⟨?_, ⟨l, l1, l2⟩, fun i hi => ?_⟩
                      · rw [upF_n (by decide), upF_s, upd_s]
                      · rw [upF_s]
                        unfold va_cpy
                        rw [if_pos (by omega), if_pos (by omega), f2 _ (by omega)]
                        congr 1
                        omega
                    · rw [e7]; exact fun z => absurd z (by decide)
                  · exact SL_o (h.1.2.2.2.1.2 q hq) (by rw [upC_n (by omega), upC_n (by omega), upC_n (by omega)]) (by rw [upC_n (by omega), upC_n (by omega), upC_n (by omega)]) (by rw [upC_n (by omega), upC_n (by omega), upC_n (by omega)]) (by rw [upC_n (by omega), upC_n (by omega), upC_n (by omega)]) (by rw [upF_n (by decide), upF_n (by decide), upF_n (by decide), upF_n (by decide), upF_s, upd_n eq]) (by rw [upF_n (by decide), upF_n (by decide), upF_n (by decide), upF_s, upd_n eq]) (by rw [upF_n (by decide), upF_n (by decide), upF_s, upd_n eq]) (by rw [upF_n (by decide), upF_s, upd_n eq]) (fun i hi => by
                      rw [upF_s]
                      unfold va_cpy
                      rw [if_neg (by omega)])
            · refine Sim.same (r := -1000000001) h ?_ ?_
              · simp only [fX7_lay, C_isSl, decide_eq_true hx, C_within, show decide ((0 : Int32) ≤ 2 ∧ (2 : Int32) ≤ 3) = true from rfl, if_true, if_neg t1, C_isSh, decide_eq_false hv, Bool.false_eq_true, if_false, Option.bind_some]
              · simp only [fX8_lay, if_neg t0, if_neg t3, if_neg t1, if_true, R_isSh, decide_eq_false hv, R_isSl, decide_eq_true hx, Bool.false_eq_true, if_false, Option.bind_some]
          · have ha : ¬ (0 ≤ a ∧ a ≤ 3) := by
              intro z
              obtain ⟨j, j1, -, j3⟩ := bt (a := 0) (b := 3) z (by omega) (by omega)
              subst j1
              rcases (show j = 0 ∨ j = 1 ∨ j = 2 ∨ j = 3 by omega) with y | y | y | y <;> subst y
              · exact t0 rfl
              · exact t1 rfl
              · exact t2 rfl
              · exact t3 rfl
            refine Sim.same (r := -1000000001) h ?_ ?_
            · simp only [fX7_lay, C_isSl, decide_eq_true hx, C_within, decide_eq_false ha, if_true, Bool.false_eq_true, if_false, Option.bind_some]
            · simp only [fX8_lay, if_neg t0, if_neg t3, if_neg t1, if_neg t2, R_isSl, decide_eq_true hx, if_true, Option.bind_some]
  · refine Sim.same (r := -1000000001) h ?_ ?_
    · simp only [fX7_lay, C_isSl, decide_eq_false hx, Bool.false_eq_true, if_false, Option.bind_some]
    · simp only [fX8_lay]
      have : ∀ (X : Option Int32), (∃ z, X = some z) → (X.bind fun y4 => (fX8_isSlot x (MR nd2 ad2 fi fa)).bind fun b5 => if b5 = true then (if y4 = 0 then some ((-1000000001 : Int32), MR nd2 ad2 fi fa) else none) else some ((-1000000001 : Int32), MR nd2 ad2 fi fa)) = some (-1000000001, MR nd2 ad2 fi fa) := by
        rintro X ⟨z, rfl⟩
        simp only [R_isSl, decide_eq_false hx, Bool.false_eq_true, if_false, Option.bind_some]
      simp only [R_isSl, R_isSh, R_isS hR, rcv hR, decide_eq_false hx, Bool.false_eq_true, if_false, Option.bind_some, ite_some]
end PQ
