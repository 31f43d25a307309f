section PR
variable {nT B : Nat} {nd nd2 : Nat → Option Nat} {c e : Nat → pE} {ad ad2 tx : Nat → Nat} {fi fj : Nat → Int32} {fa fb fc : Nat → Nat → Int32} {s u : Nat → Int32}
theorem Inv.rd (h : Inv nT c ad fi fa) (hc : ∀ j, ¬ (400 ≤ j ∧ j ≤ 402) → e j = c j) (h3 : fj 3 = fi 3) (h29 : fj 29 = fi 29) (hf : ∀ j, j ≠ 13 → fb j = fa j) (hr : RDok e ad fj fb) : Inv nT e ad fj fb := by
  obtain ⟨o, -, sh, sl, w1, w2⟩ := h.1
  refine h.rst (fun k h1 h2 => hc k (by omega)) ⟨by rw [hc 0 (by omega), h3, h29]; exact o, hr, ⟨?_, fun k hk => ?_⟩, ⟨?_, fun k hk => ?_⟩, ?_, ?_⟩ h3 (hf 0 (by omega)) (hf 1 (by omega))
  · rw [hc 410 (by omega)]; exact sh.1
  · unfold SHok1
    rw [hc (420 + k) (by omega), hc (430 + k) (by omega), hf 4 (by omega), hf 5 (by omega), hf 6 (by omega)]
    exact sh.2 k hk
  · rw [hc 440 (by omega)]; exact sl.1
  · unfold SLok1
    rw [hc (450 + k) (by omega), hc (460 + k) (by omega), hc (470 + k) (by omega), hc (480 + k) (by omega), hf 7 (by omega), hf 8 (by omega), hf 9 (by omega), hf 10 (by omega), hf 11 (by omega)]
    exact sl.2 k hk
  · rw [hc 490 (by omega), hf 28 (by omega), h29]; exact w1
  · rw [h29]; exact w2
theorem K400 : KC nT 400 := by unfold KC; omega
theorem K401 : KC nT 401 := by unfold KC; omega
theorem K402 : KC nT 402 := by unfold KC; omega
theorem L_trim (hL : Lay nd ad (KC nT)) (hR : Lay nd2 ad2 KR) (h : Inv nT c ad fi fa) (x : Int32) : Sim nT nd nd2 ad ad2 c fi fa (fX7_trim (ad 0) x) (fX8_trim (ad2 31) x) := by
  obtain ⟨⟨t, f, u, ft, ky, lv, sc, r1⟩, ⟨g, r2, r3⟩, r4, l, r5, r6⟩ := h.1.2.1
  have g1 : gI (MM nd c) (ad 400) 1 1 = some (fi 14) := gI_MM hL K400 r1 rfl
  by_cases hx : 0 ≤ x ∧ x ≤ fi 14
  · have hx2 := hx
    rw [r5] at hx2
    obtain ⟨n, n1, -, n3⟩ := bt (a := 0) (b := l) hx2 (by omega) (by omega)
    have hp : pI (MM nd c) (ad 400) 1 1 x = some (MM nd (upC c 400 (.inr (1, [.ref (ad 401), .int x, .int t, .int f, .int u, .int ft, .int ky, .int lv, .ref (ad 402), .int sc])))) := by
      rw [pI_MM (f := 1) hL K400 r1 (by simp)]; rfl
    refine ⟨x, upC c 400 (.inr (1, [.ref (ad 401), .int x, .int t, .int f, .int u, .int ft, .int ky, .int lv, .ref (ad 402), .int sc])), upd fi 14 x, fa, ?_, ?_, h.rd (fun j hj => upC_n (by omega)) (upd_n (by omega)) (upd_n (by omega)) (fun _ _ => rfl) ⟨⟨t, f, u, ft, ky, lv, sc, ?_⟩, ⟨g, ?_, ?_⟩, ?_, n, ?_, by omega⟩⟩
    · simp only [fX7_trim, o_r hL h.1, g1, C_within, decide_eq_true hx, if_true, hp, Option.bind_some]
    · simp only [fX8_trim, rg14 hR, isIn_t k64_0 rfl, decide_eq_true hx, if_true, rpu14 hR, Option.bind_some]
    · rw [upC_s, upd_s]
    · rw [upC_n (by omega)]; exact r2
    · rw [upd_s, n1, nt_nI (by omega)]
      intro j hj
      exact r3 j (by rw [r5, nt_nI (by omega)]; omega)
    · rw [upC_n (by omega)]; exact r4
    · rw [upd_s]; exact n1
  · refine Sim.same (r := -1000000001) h ?_ ?_
    · simp only [fX7_trim, o_r hL h.1, g1, C_within, decide_eq_false hx, Bool.false_eq_true, if_false, Option.bind_some]
    · simp only [fX8_trim, rg14 hR, isIn_t k64_0 rfl, decide_eq_false hx, Bool.false_eq_true, if_false, Option.bind_some]
/-- a byte of four -/
def byS (p : Int32) (q : Nat) : Int32 := nI (p.toBitVec.toNat / 2 ^ (24 - 8 * q) % 256)
theorem byS_lt (p : Int32) (q : Nat) : ∃ b, byS p q = nI b ∧ b < 256 := ⟨_, rfl, Nat.mod_lt _ (by decide)⟩
theorem by_u (p s : Int32) {q : Nat} (hs : ((s.toUInt32 &&& Int32.toUInt32 31).toBitVec % 32).toNat = 24 - 8 * q) : ((p.toUInt32 >>> (s.toUInt32 &&& Int32.toUInt32 31)).toInt32) &&& (255 : Int32) = byS p q := by
  rw [pk_and _ 8 (by decide), pk_ushr p s _ hs]
  rfl
theorem by_a (p s : Int32) {q : Nat} (hs : (s.toBitVec.smod 32).toNat = 24 - 8 * q) : (p >>> s) &&& (255 : Int32) = byS p q := by
  rw [pk_and _ 8 (by decide)]
  unfold byS
  congr 1
  have h1 := pk_shr p s _ hs
  have h2 : (p >>> s).toInt = (p >>> s).toBitVec.toInt := rfl
  have h3 : p.toInt = p.toBitVec.toInt := rfl
  rw [h2, h3, BitVec.toInt_eq_toNat_cond, BitVec.toInt_eq_toNat_cond, Int.shiftRight_eq_div_pow] at h1
  have b1 := (p >>> s).toBitVec.isLt
  have b2 := p.toBitVec.isLt
  generalize (p >>> s).toBitVec.toNat = m at *
  generalize p.toBitVec.toNat = n at *
  have hq : 24 - 8 * q = 24 ∨ 24 - 8 * q = 16 ∨ 24 - 8 * q = 8 ∨ 24 - 8 * q = 0 := by omega
  rcases hq with e | e | e | e <;> rw [e] at h1 ⊢ <;> (split at h1 <;> split at h1 <;> omega)
def rdF (ad : Nat → Nat) (l t f u ft ky lv sc : Int32) : List Value := [.ref (ad 401), .int l, .int t, .int f, .int u, .int ft, .int ky, .int lv, .ref (ad 402), .int sc]
theorem C_addBytes (hL : Lay nd ad (KC nT)) {t f u ft ky lv sc : Int32} {l : Nat} {g : Nat → Int32} (h0 : c 400 = .inr (1, rdF ad (nI l) t f u ft ky lv sc)) (h1 : c 401 = .inl (0, 96, .inl g)) (hl : l + 4 ≤ 96) (p : Int32) : fX1_addBytes (ad 400) p (MM nd c) = some (MM nd (upC (upC c 401 (.inl (0, 96, .inl (va_cpy (byS p) g 0 l 4)))) 400 (.inr (1, rdF ad (nI (l + 4)) t f u ft ky lv sc)))) := by
  have lp := loop_for (b := fX1_addBytes_b0 (ad 400) p) (fun i => ((24 : Int32) - nI (8 * i), MM nd (upC (upC c 401 (.inl (0, 96, .inl (va_cpy (byS p) g 0 l i)))) 400 (.inr (1, rdF ad (nI (l + i)) t f u ft ky lv sc))))) 4 (MM nd (upC (upC c 401 (.inl (0, 96, .inl (va_cpy (byS p) g 0 l 4)))) 400 (.inr (1, rdF ad (nI (l + 4)) t f u ft ky lv sc)))) (by omega) (fun i hi => by
    have y0 : ¬ (24 : Int32) - nI (8 * i) < 0 := by rcases (show i = 0 ∨ i = 1 ∨ i = 2 ∨ i = 3 by omega) with z | z | z | z <;> subst z <;> decide
    have y1 : (24 : Int32) - nI (8 * i) + (-8) = 24 - nI (8 * (i + 1)) := by rcases (show i = 0 ∨ i = 1 ∨ i = 2 ∨ i = 3 by omega) with z | z | z | z <;> subst z <;> decide
    have y2 : ((((24 : Int32) - nI (8 * i)).toUInt32 &&& Int32.toUInt32 31).toBitVec % 32).toNat = 24 - 8 * i := by rcases (show i = 0 ∨ i = 1 ∨ i = 2 ∨ i = 3 by omega) with z | z | z | z <;> subst z <;> decide
    have gl : gI (MM nd (upC (upC c 401 (.inl (0, 96, .inl (va_cpy (byS p) g 0 l i)))) 400 (.inr (1, rdF ad (nI (l + i)) t f u ft ky lv sc)))) (ad 400) 1 1 = some (nI (l + i)) := gI_MM hL K400 upC_s rfl
    have gb : gR (MM nd (upC (upC c 401 (.inl (0, 96, .inl (va_cpy (byS p) g 0 l i)))) 400 (.inr (1, rdF ad (nI (l + i)) t f u ft ky lv sc)))) (ad 400) 1 0 = some (ad 401) := gR_MM hL K400 upC_s rfl
    have st : stI (MM nd (upC (upC c 401 (.inl (0, 96, .inl (va_cpy (byS p) g 0 l i)))) 400 (.inr (1, rdF ad (nI (l + i)) t f u ft ky lv sc)))) (ad 401) (nI (l + i)) (byS p i) = some (MM nd (upC (upC c 401 (.inl (0, 96, .inl (va_cpy (byS p) g 0 l (i + 1))))) 400 (.inr (1, rdF ad (nI (l + i)) t f u ft ky lv sc)))) := by
      rw [stI_MM hL K401 ((upC_n (by omega)).trans upC_s) (by omega) (by omega), cpy_s, Nat.zero_add]
      congr 2
      funext j
      by_cases e1 : j = 400
      · subst e1; rw [upC_n (by omega), upC_s, upC_s]
      · by_cases e2 : j = 401
        · subst e2; rw [upC_s, upC_n (by omega), upC_s]
        · rw [upC_n e2, upC_n e1, upC_n e2, upC_n e1, upC_n e2]
    have gl2 : gI (MM nd (upC (upC c 401 (.inl (0, 96, .inl (va_cpy (byS p) g 0 l (i + 1))))) 400 (.inr (1, rdF ad (nI (l + i)) t f u ft ky lv sc)))) (ad 400) 1 1 = some (nI (l + i)) := gI_MM hL K400 upC_s rfl
    have pu : pI (MM nd (upC (upC c 401 (.inl (0, 96, .inl (va_cpy (byS p) g 0 l (i + 1))))) 400 (.inr (1, rdF ad (nI (l + i)) t f u ft ky lv sc)))) (ad 400) 1 1 (nI (l + i + 1)) = some (MM nd (upC (upC c 401 (.inl (0, 96, .inl (va_cpy (byS p) g 0 l (i + 1))))) 400 (.inr (1, rdF ad (nI (l + i + 1)) t f u ft ky lv sc)))) := by
      rw [pI_MM (f := 1) hL K400 upC_s (by simp [rdF]), upC_2]; rfl
    simp only [fX1_addBytes_b0, if_neg y0, gl, if_neg (show ¬ (96 : Int32) ≤ nI (l + i) from nI_ge (b := 96) (by omega) (by omega)), gb, by_u p _ y2, st, gl2, nI_1, pu, y1, Option.bind_some]
    rfl) (by
    simp only [fX1_addBytes_b0, if_pos (show (24 : Int32) - nI (8 * 4) < 0 by decide)])
  have e0 : upC (upC c 401 (.inl (0, 96, .inl (va_cpy (byS p) g 0 l 0)))) 400 (.inr (1, rdF ad (nI (l + 0)) t f u ft ky lv sc)) = c := by
    rw [cpy_0]
    funext j
    by_cases e1 : j = 400
    · subst e1; rw [upC_s, h0]; rfl
    · rw [upC_n e1]
      by_cases e2 : j = 401
      · subst e2; rw [upC_s, h1]
      · rw [upC_n e2]
  rw [e0] at lp
  unfold fX1_addBytes
  rw [show ((24 : Int32), MM nd c) = ((24 : Int32) - nI (8 * 0), MM nd c) from rfl, lp]
  rfl
end PR
