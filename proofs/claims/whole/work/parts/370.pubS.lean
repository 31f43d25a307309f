section PS
variable {nT B : Nat} {nd nd2 : Nat → Option Nat} {c e : Nat → pE} {ad ad2 tx : Nat → Nat} {fi fj : Nat → Int32} {fa fb fc : Nat → Nat → Int32} {s u : Nat → Int32}
def bfS (x y z : Int32) (i : Nat) : Int32 := byS (if 4 ≤ i then (if 8 ≤ i then z else y) else x) (i % 4)
theorem L_feed (hL : Lay nd ad (KC nT)) (hR : Lay nd2 ad2 KR) (h : Inv nT c ad fi fa) (x y z : Int32) : Sim nT nd nd2 ad ad2 c fi fa (fX7_feed (ad 0) x y z) (fX8_feed (ad2 31) x y z) := by
  obtain ⟨⟨t, f, u, ft, ky, lv, sc, r1⟩, ⟨g, r2, r3⟩, r4, l, r5, r6⟩ := h.1.2.1
  have g1 : gI (MM nd c) (ad 400) 1 1 = some (fi 14) := gI_MM hL K400 r1 rfl
  have h12 : nI l + 12 = nI (l + 12) := nI_add l 12
  by_cases hl : l + 12 ≤ 96
  · have cond : nI l + 12 ≤ 96 := by rw [h12]; exact nI_le (b := 96) hl (by omega)
    rw [r5] at r1
    have s1 := C_addBytes hL r1 r2 (by omega) x
    generalize hc1 : upC (upC c 401 (.inl (0, 96, .inl (va_cpy (byS x) g 0 l 4)))) 400 (.inr (1, rdF ad (nI (l + 4)) t f u ft ky lv sc)) = c1 at s1
    have c1a : c1 400 = .inr (1, rdF ad (nI (l + 4)) t f u ft ky lv sc) := by rw [← hc1, upC_s]
    have c1b : c1 401 = .inl (0, 96, .inl (va_cpy (byS x) g 0 l 4)) := by rw [← hc1, upC_n (by omega), upC_s]
    have c1n : ∀ j, j ≠ 400 → j ≠ 401 → c1 j = c j := fun j h1 h2 => by rw [← hc1, upC_n h1, upC_n h2]
    have s2 := C_addBytes hL c1a c1b (by omega) y
    generalize hc2 : upC (upC c1 401 (.inl (0, 96, .inl (va_cpy (byS y) (va_cpy (byS x) g 0 l 4) 0 (l + 4) 4)))) 400 (.inr (1, rdF ad (nI (l + 4 + 4)) t f u ft ky lv sc)) = c2 at s2
    have c2a : c2 400 = .inr (1, rdF ad (nI (l + 4 + 4)) t f u ft ky lv sc) := by rw [← hc2, upC_s]
    have c2b : c2 401 = .inl (0, 96, .inl (va_cpy (byS y) (va_cpy (byS x) g 0 l 4) 0 (l + 4) 4)) := by rw [← hc2, upC_n (by omega), upC_s]
    have c2n : ∀ j, j ≠ 400 → j ≠ 401 → c2 j = c j := fun j h1 h2 => by rw [← hc2, upC_n h1, upC_n h2]; exact c1n j h1 h2
    have s3 := C_addBytes hL c2a c2b (by omega) z
    generalize hc3 : upC (upC c2 401 (.inl (0, 96, .inl (va_cpy (byS z) (va_cpy (byS y) (va_cpy (byS x) g 0 l 4) 0 (l + 4) 4) 0 (l + 4 + 4) 4)))) 400 (.inr (1, rdF ad (nI (l + 4 + 4 + 4)) t f u ft ky lv sc)) = c3 at s3
    have c3a : c3 400 = .inr (1, rdF ad (nI (l + 4 + 4 + 4)) t f u ft ky lv sc) := by rw [← hc3, upC_s]
    have c3b : c3 401 = .inl (0, 96, .inl (va_cpy (byS z) (va_cpy (byS y) (va_cpy (byS x) g 0 l 4) 0 (l + 4) 4) 0 (l + 4 + 4) 4)) := by rw [← hc3, upC_n (by omega), upC_s]
    have c3n : ∀ j, j ≠ 400 → j ≠ 401 → c3 j = c j := fun j h1 h2 => by rw [← hc3, upC_n h1, upC_n h2]; exact c2n j h1 h2
    have o1 : gR (MM nd c1) (ad 0) 7 4 = some (ad 400) := gR_MM hL KC_0 ((c1n 0 (by omega) (by omega)).trans h.1.1) rfl
    have o2 : gR (MM nd c2) (ad 0) 7 4 = some (ad 400) := gR_MM hL KC_0 ((c2n 0 (by omega) (by omega)).trans h.1.1) rfl
    have o3 : gR (MM nd c3) (ad 0) 7 4 = some (ad 400) := gR_MM hL KC_0 ((c3n 0 (by omega) (by omega)).trans h.1.1) rfl
    have v0 : ∀ {α : Type} {q : Option α}, cV (MM nd c) (ad 400) 1 q = q := cV_MM hL K400 r1
    have v1 : ∀ {α : Type} {q : Option α}, cV (MM nd c1) (ad 400) 1 q = q := cV_MM hL K400 c1a
    have v2 : ∀ {α : Type} {q : Option α}, cV (MM nd c2) (ad 400) 1 q = q := cV_MM hL K400 c2a
    have g3 : gI (MM nd c3) (ad 400) 1 1 = some (nI (l + 12)) := gI_MM hL K400 c3a rfl
    have lp := loop_for (b := fX8_feed_b0 (ad2 31) x y z) (fun i => (nI i, MR nd2 ad2 (upd fi 14 (nI (l + i))) (upF fa 13 (va_cpy (bfS x y z) (fa 13) 0 l i)))) 12 (MR nd2 ad2 (upd fi 14 (nI (l + 12))) (upF fa 13 (va_cpy (bfS x y z) (fa 13) 0 l 12))) (by omega) (fun i hi => by
      have e2 : ∀ v, upd (upd fi 14 (nI (l + i))) 14 v = upd fi 14 v := fun v => by funext j; by_cases hj : j = 14 <;> simp [upd, hj]
      have hs : ((((24 : Int32) - (8 : Int32) * nI (i % 4)) &&& 31).toBitVec.smod 32).toNat = 24 - 8 * (i % 4) := by
        rcases (show i % 4 = 0 ∨ i % 4 = 1 ∨ i % 4 = 2 ∨ i % 4 = 3 by omega) with q | q | q | q <;> rw [q] <;> decide
      have hy : (if (4 : Int32) ≤ nI i then (if (8 : Int32) ≤ nI i then some z else some y) else some x) = some (if 4 ≤ i then (if 8 ≤ i then z else y) else x) := by
        by_cases h4 : 4 ≤ i
        · rw [if_pos (show (4 : Int32) ≤ nI i from nI_le (a := 4) h4 (by omega)), if_pos h4]
          by_cases h8 : 8 ≤ i
          · rw [if_pos (show (8 : Int32) ≤ nI i from nI_le (a := 8) h8 (by omega)), if_pos h8]
          · rw [if_neg (show ¬ (8 : Int32) ≤ nI i from nI_ge (b := 8) (by omega) (by omega)), if_neg h8]
        · rw [if_neg (show ¬ (4 : Int32) ≤ nI i from nI_ge (b := 4) (by omega) (by omega)), if_neg h4]
      have hr : rmI (nI i) 4 = some (nI (i % 4)) := rmI_nI (d := 4) (by omega) (by omega) (by omega)
      simp only [fX8_feed_b0, if_neg (show ¬ (12 : Int32) ≤ nI i from nI_ge (b := 12) hi (by omega)), hy, rg13 hR, rg14 hR, upd_s, hr, by_a _ _ hs, rs13 hR (show l + i < 96 by omega), upF_s, upF_2, rpu14 hR, nI_1, e2, Option.bind_some, cpy_s, Nat.zero_add]
      rfl) (by
      simp only [fX8_feed_b0, if_pos (show (12 : Int32) ≤ nI 12 from Int32.le_refl _)])
    have ei : upd fi 14 (nI (l + 0)) = fi := by
      rw [Nat.add_zero, ← r5]; exact upd_id
    rw [ei, cpy_0, upF_id] at lp
    refine ⟨nI (l + 12), c3, upd fi 14 (nI (l + 12)), upF fa 13 (va_cpy (bfS x y z) (fa 13) 0 l 12), ?_, ?_, h.rd (fun j hj => c3n j (by omega) (by omega)) (upd_n (by omega)) (upd_n (by omega)) (fun j hj => upF_n hj) ⟨⟨t, f, u, ft, ky, lv, sc, by rw [upd_s]; exact c3a⟩, ⟨_, c3b, ?_⟩, by rw [c3n 402 (by omega) (by omega)]; exact r4, l + 12, upd_s, hl⟩⟩
    · simp only [fX7_feed, o_r hL h.1, g1, r5, if_pos cond, v0, s1, o1, v1, s2, o2, v2, s3, o3, g3, Option.bind_some]
    · simp only [fX8_feed, rg14 hR, r5, if_pos cond, Option.bind_some]
      rw [show ((0 : Int32), MR nd2 ad2 fi fa) = (nI 0, MR nd2 ad2 fi fa) from rfl, lp]
      simp only [Option.bind_some, rg14 hR, upd_s]
    · rw [upd_s, nt_nI (by omega), upF_s]
      intro j hj
      have key : va_cpy (byS z) (va_cpy (byS y) (va_cpy (byS x) g 0 l 4) 0 (l + 4) 4) 0 (l + 4 + 4) 4 j = va_cpy (bfS x y z) (fa 13) 0 l 12 j ∧ ∃ b, va_cpy (bfS x y z) (fa 13) 0 l 12 j = nI b ∧ b < 256 := by
        unfold va_cpy
        by_cases h1 : j < l
        · rw [if_neg (by omega), if_neg (by omega), if_neg (by omega), if_neg (by omega)]
          exact r3 j (by rw [r5, nt_nI (by omega)]; exact h1)
        · rw [if_pos (show l ≤ j ∧ j < l + 12 by omega)]
          unfold bfS
          refine ⟨?_, byS_lt _ _⟩
          by_cases h2 : j < l + 4
          · rw [if_neg (by omega), if_neg (by omega), if_pos (by omega), if_neg (by omega), show (0 + (j - l)) % 4 = 0 + (j - l) by omega]
          · by_cases h3 : j < l + 8
            · rw [if_neg (by omega), if_pos (by omega), if_pos (by omega), if_neg (by omega), show (0 + (j - l)) % 4 = 0 + (j - (l + 4)) by omega]
            · rw [if_pos (by omega), if_pos (by omega), if_pos (by omega), show (0 + (j - l)) % 4 = 0 + (j - (l + 4 + 4)) by omega]
      exact key
  · have cond : ¬ nI l + 12 ≤ 96 := by rw [h12]; exact nI_ge (b := l + 12) (a := 96) (by omega) (by omega)
    refine Sim.same (r := -1000000003) h ?_ ?_
    · simp only [fX7_feed, o_r hL h.1, g1, r5, if_neg cond, Option.bind_some]
    · simp only [fX8_feed, rg14 hR, r5, if_neg cond, Option.bind_some]
end PS
