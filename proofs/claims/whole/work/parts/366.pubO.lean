section PO
variable {nT B : Nat} {nd nd2 : Nat → Option Nat} {c e : Nat → pE} {ad ad2 tx : Nat → Nat} {fi fj : Nat → Int32} {fa fb fc : Nat → Nat → Int32} {s u : Nat → Int32}
def hasB (l : Nat) (x y : Int32) : Bool := decide (0 ≤ y ∧ y ≤ nI l) && decide (0 ≤ x ∧ x ≤ nI l - y)
theorem C_has (hL : Lay nd ad (KC nT)) (h : Rest c ad fi fa) {k l : Nat} (hk : k < 4) (l1 : fa 5 k = nI l) (x y : Int32) : fX3_hasPlaces (ad (420 + k)) x y (MM nd c) = some (hasB l x y) := by
  unfold fX3_hasPlaces hasB
  simp only [sh_1 hL h hk, l1, C_within, Option.bind_some]
  cases h1 : decide (0 ≤ y ∧ y ≤ nI l) <;> cases h2 : decide (0 ≤ x ∧ x ≤ nI l - y) <;> rfl
theorem has_t {l : Nat} (hl : l ≤ 24) {x y : Int32} (h : hasB l x y = true) : ∃ a n, x = nI a ∧ y = nI n ∧ a + n ≤ l := by
  unfold hasB at h
  rw [Bool.and_eq_true, decide_eq_true_eq, decide_eq_true_eq] at h
  obtain ⟨n, n1, -, n3⟩ := bt (a := 0) (b := l) h.1 (by omega) (by omega)
  subst n1
  have h2 := h.2
  rw [pk_sub n3] at h2
  obtain ⟨a, a1, -, a3⟩ := bt (a := 0) (b := l - n) h2 (by omega) (by omega)
  exact ⟨a, n, a1, rfl, by omega⟩
theorem cmp_ref {a n l : Nat} (ha : a < 2 ^ 31) (hn : n < 2 ^ 31) (hl : l ≤ 24) : (lg_cmp ((nI a).toInt64 + (nI n).toInt64) (nI l).toInt64 ≤ 0 ↔ a + n ≤ l) := by
  rw [lg_cmp_le, nI_l ha, nI_l hn, nI_l (by omega), lN_add, Int64.le_iff_toInt_le, show (lN (a + n)).toInt = ((a + n : Nat) : Int) from lg_ofNat_toInt (by omega), show (lN l).toInt = ((l : Nat) : Int) from lg_ofNat_toInt (by omega)]
  omega
theorem has_f {l a n : Nat} (hl : l ≤ 24) (h : a + n ≤ l) : hasB l (nI a) (nI n) = true := by
  unfold hasB
  rw [Bool.and_eq_true, decide_eq_true_eq, decide_eq_true_eq, pk_sub (by omega)]
  exact ⟨⟨nI_pos' (by omega), nI_le (by omega) (by omega)⟩, ⟨nI_pos' (by omega), nI_le (by omega) (by omega)⟩⟩
theorem L_copy (hL : Lay nd ad (KC nT)) (hR : Lay nd2 ad2 KR) (h : Inv nT c ad fi fa) (x p y q v : Int32) : Sim nT nd nd2 ad ad2 c fi fa (fX7_copy (ad 0) x p y q v) (fX8_copy (ad2 31) x p y q v) := by
  by_cases hx : 0 ≤ x ∧ x ≤ 3
  · by_cases hy : 0 ≤ y ∧ y ≤ 3
    · obtain ⟨k, j1, -, j3⟩ := bt (a := 0) (b := 3) hx (by omega) (by omega)
      subst j1
      have hk : k < 4 := by omega
      obtain ⟨t, t1, -, t3⟩ := bt (a := 0) (b := 3) hy (by omega) (by omega)
      subst t1
      have ht : t < 4 := by omega
      obtain ⟨l, l1, l2⟩ := sh_n h.1 hk
      obtain ⟨m, m1, m2⟩ := sh_n h.1 ht
      rcases sh_s h.1 hk with ⟨s1, s2⟩ | ⟨s1, s2, s3⟩
      · refine Sim.same (r := -1000000011) h ?_ ?_
        · simp only [fX7_copy, C_isSh, decide_eq_true hx, decide_eq_true hy, if_true, o_sh hL h.1, sh_l hL h.1 hk, sh_l hL h.1 ht, sh_0 hL h.1 hk, if_pos s1, Option.bind_some]
        · simp only [fX8_copy, R_isSh, decide_eq_true hx, decide_eq_true hy, if_true, rg4 hR, rl4 hR hk, if_pos (Int32.not_le.mp s2), Option.bind_some]
      · rcases sh_s h.1 ht with ⟨u1, u2⟩ | ⟨u1, u2, u3⟩
        · refine Sim.same (r := -1000000011) h ?_ ?_
          · simp only [fX7_copy, C_isSh, decide_eq_true hx, decide_eq_true hy, if_true, o_sh hL h.1, sh_l hL h.1 hk, sh_l hL h.1 ht, sh_0 hL h.1 hk, sh_0 hL h.1 ht, if_neg s1, if_pos u1, Option.bind_some]
          · simp only [fX8_copy, R_isSh, decide_eq_true hx, decide_eq_true hy, if_true, rg4 hR, rl4 hR hk, rl4 hR ht, if_neg (Int32.not_lt.mpr s2), if_neg u2, Option.bind_some]
        · by_cases hsame : fa 4 k = fa 4 t
          · by_cases H : hasB l p v = true ∧ hasB m q v = true
            · obtain ⟨a, n, rfl, rfl, q3⟩ := has_t l2 H.1
              obtain ⟨b, n2, rfl, w2, w3⟩ := has_t m2 H.2
              have hn2 : n = n2 := (nI_eq (by omega) (by omega)).mp w2
              subst hn2
              obtain ⟨-, ⟨f, f1, f2⟩, -⟩ := h.1.2.2.1.2 k hk
              obtain ⟨-, ⟨g, g1, g2⟩, -⟩ := h.1.2.2.1.2 t ht
              have hcp := cpI_MM hL (K430 (nT := nT) hk) f1 (K430 ht) g1 (by omega) (by omega) (sp := a) (dp := b) (n := n) (by omega) (by omega)
              have cm1 : ¬ (0 < lg_cmp ((nI a).toInt64 + (nI n).toInt64) (nI l).toInt64) := by rw [Int32.not_lt]; exact (cmp_ref (by omega) (by omega) l2).mpr q3
              have cm2 : lg_cmp ((nI b).toInt64 + (nI n).toInt64) (nI m).toInt64 ≤ 0 := (cmp_ref (by omega) (by omega) m2).mpr w3
              have lp0 : loopF (fX8_copy_b0 (ad2 31) (nI k) (nI a) (nI n)) bigN ((0 : Int32), MR nd2 ad2 fi fa) = some (MR nd2 ad2 fi (upF fa 27 (va_cpy (fa 6) (fa 27) (24 * k + a) 0 n))) := by
                have := loop_for (b := fX8_copy_b0 (ad2 31) (nI k) (nI a) (nI n)) (fun i => (nI i, MR nd2 ad2 fi (upF fa 27 (va_cpy (fa 6) (fa 27) (24 * k + a) 0 i)))) n (MR nd2 ad2 fi (upF fa 27 (va_cpy (fa 6) (fa 27) (24 * k + a) 0 n))) (by omega) (fun i hi => by
                  have e6 : upF fa 27 (va_cpy (fa 6) (fa 27) (24 * k + a) 0 i) 6 = fa 6 := upF_n (by decide)
                  simp only [fX8_copy_b0, if_neg (nI_ge hi (show n < 2 ^ 31 by omega)), rg27 hR, rg6 hR, ix24, nI_add, rl6 hR (show 24 * k + a + i < 96 by omega), e6, rs27 hR (show i < 24 by omega), upF_s, upF_2, Option.bind_some, ixp1, cpy_s, Nat.zero_add]) (by
                  simp only [fX8_copy_b0, if_pos (nI_le (Nat.le_refl n) (show n < 2 ^ 31 by omega))])
                rw [cpy_0, upF_id] at this
                exact this
              generalize hF : va_cpy (fa 6) (fa 27) (24 * k + a) 0 n = F at lp0
              have lp1 : loopF (fX8_copy_b1 (ad2 31) (nI t) (nI b) (nI n)) bigN ((0 : Int32), MR nd2 ad2 fi (upF fa 27 F)) = some (MR nd2 ad2 fi (upF (upF fa 27 F) 6 (va_cpy F (fa 6) 0 (24 * t + b) n))) := by
                have := loop_for (b := fX8_copy_b1 (ad2 31) (nI t) (nI b) (nI n)) (fun i => (nI i, MR nd2 ad2 fi (upF (upF fa 27 F) 6 (va_cpy F (fa 6) 0 (24 * t + b) i)))) n (MR nd2 ad2 fi (upF (upF fa 27 F) 6 (va_cpy F (fa 6) 0 (24 * t + b) n))) (by omega) (fun i hi => by
                  have e27 : upF (upF fa 27 F) 6 (va_cpy F (fa 6) 0 (24 * t + b) i) 27 = F := by rw [upF_n (by decide), upF_s]
                  simp only [fX8_copy_b1, if_neg (nI_ge hi (show n < 2 ^ 31 by omega)), rg27 hR, rg6 hR, ix24, nI_add, rl27 hR (show i < 24 by omega), e27, rs6 hR (show 24 * t + b + i < 96 by omega), upF_s, upF_2, Option.bind_some, ixp1, cpy_s, Nat.zero_add]) (by
                  simp only [fX8_copy_b1, if_pos (nI_le (Nat.le_refl n) (show n < 2 ^ 31 by omega))])
                rw [cpy_0] at this
                have e : upF (upF fa 27 F) 6 (fa 6) = upF fa 27 F := by
                  have z := upF_id (fa := upF fa 27 F) (k := 6)
                  rw [upF_n (by decide)] at z
                  exact z
                rw [e] at this
                exact this
              have h2 : Inv nT c ad fi (upF fa 27 F) := h.scr ScC.rf (upF_n (by decide)) (SX.up (by omega))
              refine ⟨nI n, _, fi, _, ?_, ?_, h2.sh (e := upC c (430 + t) (.inl (0, 24, .inl (va_cpy f g a b n)))) (fb := upF (upF fa 27 F) 6 (va_cpy F (fa 6) 0 (24 * t + b) n)) (fun j hj => upC_n (by omega)) (fun j _ _ h6 => upF_n h6) (fun z hz => ?_)⟩
              · simp only [fX7_copy, C_isSh, decide_eq_true hx, decide_eq_true hy, if_true, o_sh hL h.1, sh_l hL h.1 hk, sh_l hL h.1 ht, sh_0 hL h.1 hk, sh_0 hL h.1 ht, if_neg s1, if_neg u1, if_pos hsame, sh_v hL h.1 hk, sh_v hL h.1 ht, C_has hL h.1 hk l1, C_has hL h.1 ht m1, H.1, H.2, sh_2 hL h.1 hk, sh_2 hL h.1 ht, hcp, Option.bind_some]
              · simp only [fX8_copy, R_isSh, decide_eq_true hx, decide_eq_true hy, if_true, rg4 hR, rl4 hR hk, rl4 hR ht, if_neg (Int32.not_lt.mpr s2), if_pos u2, if_pos hsame, if_neg (nI_pos (show a < 2 ^ 31 by omega)), if_neg (nI_pos (show b < 2 ^ 31 by omega)), if_neg (nI_pos (show n < 2 ^ 31 by omega)), rg5 hR, rl5 hR hk, rl5 hR ht, l1, m1, if_neg cm1, if_pos cm2, lp0, lp1, Option.bind_some]
              · unfold SHok1
                obtain ⟨b1, ⟨g3, b2, b3⟩, b4⟩ := h2.1.2.2.1.2 z hz
                rw [upF_s, upF_n (show ¬ 4 = 6 by decide), upF_n (show ¬ 5 = 6 by decide), upC_n (by omega)]
                refine ⟨b1, ?_, b4⟩
                by_cases ez : z = t
                · subst ez
                  refine ⟨_, upC_s, fun i hi => ?_⟩
                  unfold va_cpy
                  by_cases hr : b ≤ i ∧ i < b + n
                  · rw [if_pos hr, if_pos (by omega), f2 _ (by omega), ← hF]
                    unfold va_cpy
                    rw [if_pos (by omega)]
                    congr 1
                    omega
                  · rw [if_neg hr, if_neg (by omega), g2 i hi]
                · refine ⟨g3, (upC_n (by omega)).trans b2, fun i hi => ?_⟩
                  rw [b3 i hi, upF_n (by decide)]
                  unfold va_cpy
                  rw [if_neg (by omega)]
            · refine Sim.same (r := -1000000013) h ?_ ?_
              · simp only [fX7_copy, C_isSh, decide_eq_true hx, decide_eq_true hy, if_true, o_sh hL h.1, sh_l hL h.1 hk, sh_l hL h.1 ht, sh_0 hL h.1 hk, sh_0 hL h.1 ht, if_neg s1, if_neg u1, if_pos hsame, sh_v hL h.1 hk, sh_v hL h.1 ht, C_has hL h.1 hk l1, C_has hL h.1 ht m1, Option.bind_some]
                by_cases H1 : hasB l p v = true
                · rw [if_pos H1, if_neg (fun z => H ⟨H1, z⟩)]
                · rw [if_neg H1]
              · simp only [fX8_copy, R_isSh, decide_eq_true hx, decide_eq_true hy, if_true, rg4 hR, rl4 hR hk, rl4 hR ht, if_neg (Int32.not_lt.mpr s2), if_pos u2, if_pos hsame, rg5 hR, rl5 hR hk, rl5 hR ht, l1, m1, Option.bind_some]
                by_cases c1 : p < 0
                · rw [if_pos c1]
                · rw [if_neg c1]
                  by_cases c2 : q < 0
                  · rw [if_pos c2]
                  · rw [if_neg c2]
                    by_cases c3 : v < 0
                    · rw [if_pos c3]
                    · rw [if_neg c3]
                      obtain ⟨a, a1, rfl⟩ := nI_of c1
                      obtain ⟨b, b1, rfl⟩ := nI_of c2
                      obtain ⟨n, n1, rfl⟩ := nI_of c3
                      by_cases H1 : a + n ≤ l
                      · have H2 : ¬ b + n ≤ m := fun z => H ⟨has_f l2 H1, has_f m2 z⟩
                        rw [if_neg (by rw [Int32.not_lt]; exact (cmp_ref a1 n1 l2).mpr H1), if_neg (fun z => H2 ((cmp_ref b1 n1 m2).mp z))]
                      · rw [if_pos (by rw [← Int32.not_le]; exact fun z => H1 ((cmp_ref a1 n1 l2).mp z))]
          · refine Sim.same (r := -1000000012) h ?_ ?_
            · simp only [fX7_copy, C_isSh, decide_eq_true hx, decide_eq_true hy, if_true, o_sh hL h.1, sh_l hL h.1 hk, sh_l hL h.1 ht, sh_0 hL h.1 hk, sh_0 hL h.1 ht, if_neg s1, if_neg u1, if_neg hsame, Option.bind_some]
            · simp only [fX8_copy, R_isSh, decide_eq_true hx, decide_eq_true hy, if_true, rg4 hR, rl4 hR hk, rl4 hR ht, if_neg (Int32.not_lt.mpr s2), if_pos u2, if_neg hsame, Option.bind_some]
    · refine Sim.same (r := -1000000001) h ?_ ?_
      · simp only [fX7_copy, C_isSh, decide_eq_true hx, decide_eq_false hy, if_true, Bool.false_eq_true, if_false, Option.bind_some]
      · simp only [fX8_copy, R_isSh, decide_eq_true hx, decide_eq_false hy, if_true, Bool.false_eq_true, if_false, Option.bind_some]
  · refine Sim.same (r := -1000000001) h ?_ ?_
    · simp only [fX7_copy, C_isSh, decide_eq_false hx, Bool.false_eq_true, if_false, Option.bind_some]
    · simp only [fX8_copy, R_isSh, decide_eq_false hx, Bool.false_eq_true, if_false, Option.bind_some]
end PO
