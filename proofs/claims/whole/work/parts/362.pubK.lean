theorem cpy_s {f g : Nat → Int32} {sp dp n : Nat} : va_cpy f g sp dp (n + 1) = upd (va_cpy f g sp dp n) (dp + n) (f (sp + n)) := by
  funext j
  unfold va_cpy upd
  by_cases h : j = dp + n
  · subst h
    rw [if_pos ⟨Nat.le_add_right _ _, by omega⟩, if_pos rfl, Nat.add_sub_cancel_left]
  · rw [if_neg h]
    by_cases h2 : dp ≤ j ∧ j < dp + n
    · rw [if_pos ⟨h2.1, by omega⟩]; exact (if_pos h2).symm
    · rw [if_neg (by omega)]; exact (if_neg h2).symm
theorem cpy_0 {f g : Nat → Int32} {sp dp : Nat} : va_cpy f g sp dp 0 = g := by
  funext j
  unfold va_cpy
  rw [if_neg (by omega)]
theorem ix24 (k i : Nat) : (24 : Int32) * nI k + nI i = nI (24 * k + i) := by rw [show (24 : Int32) = nI 24 from rfl, pk_mul, nI_add]
theorem short16 (v : Int32) : (v <<< ((16 : Int32) &&& 31)) >>> ((16 : Int32) &&& 31) = v.toInt16.toInt32 := by
  apply Int32.toInt_inj.mp
  rw [pk_shr _ _ 16 (by decide), Int16.toInt_toInt32, Int32.toInt_toInt16]
  have h1 := pk_shl v ((16 : Int32) &&& 31) 16 (by decide)
  have h2 : (v <<< ((16 : Int32) &&& 31)).toInt = (v <<< ((16 : Int32) &&& 31)).toBitVec.toInt := rfl
  have h3 : v.toInt = v.toBitVec.toInt := rfl
  rw [h2, h3, BitVec.toInt_eq_toNat_cond, BitVec.toInt_eq_toNat_cond, h1]
  have hn := v.toBitVec.isLt
  generalize v.toBitVec.toNat = n at *
  rw [Int.shiftRight_eq_div_pow]
  simp only [Int.bmod]
  split <;> split <;> split <;> omega
section PK
variable {nT B : Nat} {nd nd2 : Nat → Option Nat} {c e : Nat → pE} {ad ad2 tx : Nat → Nat} {fi fj : Nat → Int32} {fa fb fc : Nat → Nat → Int32} {s u : Nat → Int32}
theorem K420 {k : Nat} (h : k < 4) : KC nT (420 + k) := by unfold KC; omega
theorem K430 {k : Nat} (h : k < 4) : KC nT (430 + k) := by unfold KC; omega
theorem sh_l (hL : Lay nd ad (KC nT)) (h : Rest c ad fi fa) {k : Nat} (hk : k < 4) : ldR (MM nd c) (ad 410) 4 (nI k) = some (ad (420 + k)) := by
  obtain ⟨g, g1, g2⟩ := h.2.2.1.1
  exact ldR_MM hL (by unfold KC; omega) g1 hk (by decide) (g2 k hk)
theorem sh_0 (hL : Lay nd ad (KC nT)) (h : Rest c ad fi fa) {k : Nat} (hk : k < 4) : gI (MM nd c) (ad (420 + k)) 3 0 = some (fa 4 k) := gI_MM hL (K420 hk) (h.2.2.1.2 k hk).1 rfl
theorem sh_1 (hL : Lay nd ad (KC nT)) (h : Rest c ad fi fa) {k : Nat} (hk : k < 4) : gI (MM nd c) (ad (420 + k)) 3 1 = some (fa 5 k) := gI_MM hL (K420 hk) (h.2.2.1.2 k hk).1 rfl
theorem sh_2 (hL : Lay nd ad (KC nT)) (h : Rest c ad fi fa) {k : Nat} (hk : k < 4) : gR (MM nd c) (ad (420 + k)) 3 2 = some (ad (430 + k)) := gR_MM hL (K420 hk) (h.2.2.1.2 k hk).1 rfl
theorem sh_v (hL : Lay nd ad (KC nT)) (h : Rest c ad fi fa) {k : Nat} (hk : k < 4) {α : Type} {x : Option α} : cV (MM nd c) (ad (420 + k)) 3 x = x := cV_MM hL (K420 hk) (h.2.2.1.2 k hk).1
theorem sh_p (hL : Lay nd ad (KC nT)) (h : Rest c ad fi fa) {k i : Nat} (hk : k < 4) (hi : i < 24) : ldI (MM nd c) (ad (430 + k)) (nI i) = some (fa 6 (24 * k + i)) := by
  obtain ⟨g, g1, g2⟩ := (h.2.2.1.2 k hk).2.1
  rw [ldI_MM hL (K430 hk) g1 hi (by decide), g2 i hi]
theorem sh_s (h : Rest c ad fi fa) {k : Nat} (hk : k < 4) : (fa 4 k = -1 ∧ ¬ 0 ≤ fa 4 k) ∨ (¬ fa 4 k = -1 ∧ 0 ≤ fa 4 k ∧ (fa 4 k = 0 ∨ fa 4 k = 1)) := by
  rcases (h.2.2.1.2 k hk).2.2.1 with e | e | e
  · exact Or.inl ⟨e, by rw [e]; decide⟩
  · exact Or.inr ⟨by rw [e]; decide, by rw [e]; decide, Or.inl e⟩
  · exact Or.inr ⟨by rw [e]; decide, by rw [e]; decide, Or.inr e⟩
theorem sh_n (h : Rest c ad fi fa) {k : Nat} (hk : k < 4) : ∃ l, fa 5 k = nI l ∧ l ≤ 24 := (h.2.2.1.2 k hk).2.2.2
theorem C_isSh (x : Int32) (m : Mem) : fX7_isSheet x m = some (decide (0 ≤ x ∧ x ≤ 3)) := by unfold fX7_isSheet; rw [C_within]; rfl
theorem R_isSh (x : Int32) (m : Mem) : fX8_isSheet x m = some (decide (0 ≤ x ∧ x ≤ 3)) := by unfold fX8_isSheet; rw [isIn_t k64_0 k64_3]; rfl
theorem C_isNum (hL : Lay nd ad (KC nT)) (h : Rest c ad fi fa) {k i : Nat} (hk : k < 4) (hi : i < 2 ^ 30) : fX3_isNumber (ad (420 + k)) (nI i) (MM nd c) = some (decide (i < nt (fa 5 k) ∧ ¬ fa 6 (24 * k + i) = -1000000005)) := by
  obtain ⟨l, l1, l2⟩ := sh_n h hk
  unfold fX3_isNumber
  simp only [sh_1 hL h hk, C_within, Option.bind_some, l1, nt_nI (show l < 2 ^ 31 by omega)]
  by_cases hl : i < l
  · rw [if_pos (decide_eq_true (pred_bt hl (by omega)))]
    simp only [sh_2 hL h hk, sh_p hL h hk (show i < 24 by omega), Option.bind_some]
    by_cases hz : fa 6 (24 * k + i) = -1000000005
    · rw [if_pos hz]; simp [hz]
    · rw [if_neg hz]; simp [hl, hz]
  · rw [if_neg]
    · simp [hl]
    · intro z
      obtain ⟨j, z1, z2⟩ := bt_pred (of_decide_eq_true z) (by omega)
      rw [nI_eq (by omega) (by omega)] at z1
      omega
/-- the sheets change -/
theorem Rest.sh (h : Rest c ad fi fa) (hc : ∀ j, ¬ (420 ≤ j ∧ j < 440) → e j = c j) (hf : ∀ j, j ≠ 4 → j ≠ 5 → j ≠ 6 → fb j = fa j) (hs : ∀ k, k < 4 → SHok1 e ad fb k) : Rest e ad fi fb := by
  obtain ⟨o, ⟨r1, r2, r3, r4⟩, sh, sl, w1, w2⟩ := h
  refine ⟨(hc 0 (by omega)).trans o, ?_, ⟨?_, hs⟩, ?_, ?_⟩
  · refine ⟨?_, ?_, ?_, r4⟩
    · rw [hc 400 (by omega)]; exact r1
    · rw [hc 401 (by omega), hf 13 (by omega) (by omega) (by omega)]; exact r2
    · rw [hc 402 (by omega)]; exact r3
  · rw [hc 410 (by omega)]; exact sh.1
  · refine ⟨by rw [hc 440 (by omega)]; exact sl.1, fun k hk => ?_⟩
    unfold SLok1
    rw [hc (450 + k) (by omega), hc (460 + k) (by omega), hc (470 + k) (by omega), hc (480 + k) (by omega), hf 7 (by omega) (by omega) (by omega), hf 8 (by omega) (by omega) (by omega), hf 9 (by omega) (by omega) (by omega), hf 10 (by omega) (by omega) (by omega), hf 11 (by omega) (by omega) (by omega)]
    exact sl.2 k hk
  · refine ⟨?_, w2⟩
    rw [hc 490 (by omega), hf 28 (by omega) (by omega) (by omega)]; exact w1
theorem Inv.sh (h : Inv nT c ad fi fa) (hc : ∀ j, ¬ (420 ≤ j ∧ j < 440) → e j = c j) (hf : ∀ j, j ≠ 4 → j ≠ 5 → j ≠ 6 → fb j = fa j) (hs : ∀ k, k < 4 → SHok1 e ad fb k) : Inv nT e ad fi fb := h.rst (fun k h1 h2 => hc k (by omega)) (h.1.sh hc hf hs) rfl (hf 0 (by omega) (by omega) (by omega)) (hf 1 (by omega) (by omega) (by omega))
theorem C_fill (hL : Lay nd ad (KC nT)) {k : Nat} (hk : KC nT k) {g : Nat → Int32} {n : Nat} (hn : n < 5000) (hc : c k = .inl (0, n, .inl g)) : fJ7_fill_53178 (ad k) 0 (MM nd c) = some (MM nd (upC c k (.inl (0, n, .inl (va_cpy (fun _ => 0) g 0 0 n))))) := by
  have := loop_for (b := fJ7_fill_53178_b0 (ad k) 0 (nI n)) (fun i => (nI i, MM nd (upC c k (.inl (0, n, .inl (va_cpy (fun _ => 0) g 0 0 i)))))) n (MM nd (upC c k (.inl (0, n, .inl (va_cpy (fun _ => 0) g 0 0 n))))) hn (fun i hi => by
    simp only [fJ7_fill_53178_b0, if_neg (nI_ge hi (show n < 2 ^ 31 by omega)), stI_MM hL hk upC_s hi (show n < 2 ^ 31 by omega), upC_2, Option.bind_some, ixp1, cpy_s, Nat.zero_add]) (by
    simp only [fJ7_fill_53178_b0, if_pos (nI_le (Nat.le_refl n) (show n < 2 ^ 31 by omega))])
  rw [cpy_0] at this
  have e0 : upC c k (.inl (0, n, .inl g)) = c := by
    funext j
    by_cases e : j = k
    · subst e; rw [upC_s, hc]
    · rw [upC_n e]
  rw [e0] at this
  unfold fJ7_fill_53178
  rw [alI_MM hL hk hc]
  simp only [Option.bind_some]
  rw [show ((0 : Int32), MM nd c) = (nI 0, MM nd c) from rfl, this]
  rfl
theorem C_begin (hL : Lay nd ad (KC nT)) (h : Rest c ad fi fa) {k : Nat} (hk : k < 4) (a b : Int32) : ∃ e, fX3_begin (ad (420 + k)) a b (MM nd c) = some (MM nd e) ∧ (∀ j, j ≠ 420 + k → j ≠ 430 + k → e j = c j) ∧ e (420 + k) = .inr (3, [.int a, .int b, .ref (ad (430 + k))]) ∧ ∃ g, e (430 + k) = .inl (0, 24, .inl g) ∧ ∀ i, i < 24 → g i = 0 := by
  obtain ⟨h1, ⟨g, g1, g2⟩, -⟩ := h.2.2.1.2 k hk
  unfold fX3_begin
  rw [pI_MM (f := 0) hL (K420 hk) h1 (by simp)]
  simp only [Option.bind_some]
  rw [pI_MM (f := 1) hL (K420 hk) upC_s (by simp), upC_2]
  simp only [Option.bind_some, List.set_cons_zero, List.set_cons_succ]
  rw [show gR (MM nd (upC c (420 + k) (.inr (3, [.int a, .int b, .ref (ad (430 + k))])))) (ad (420 + k)) 3 2 = some (ad (430 + k)) from gR_MM hL (K420 hk) upC_s rfl]
  simp only [Option.bind_some]
  rw [C_fill hL (K430 hk) (by omega) ((upC_n (by omega)).trans g1)]
  refine ⟨_, rfl, fun j h1 h2 => by rw [upC_n h2, upC_n h1], by rw [upC_n (by omega), upC_s], _, upC_s, fun i hi => ?_⟩
  unfold va_cpy
  rw [if_pos (by omega)]
theorem R_zero (hR : Lay nd2 ad2 KR) {k : Nat} (hk : k < 4) : loopF (fX8_sheet_b0 (ad2 31) (nI k)) bigN ((0 : Int32), MR nd2 ad2 fi fa) = some (MR nd2 ad2 fi (upF fa 6 (va_cpy (fun _ => 0) (fa 6) 0 (24 * k) 24))) := by
  have := loop_for (b := fX8_sheet_b0 (ad2 31) (nI k)) (fun i => (nI i, MR nd2 ad2 fi (upF fa 6 (va_cpy (fun _ => 0) (fa 6) 0 (24 * k) i)))) 24 (MR nd2 ad2 fi (upF fa 6 (va_cpy (fun _ => 0) (fa 6) 0 (24 * k) 24))) (by omega) (fun i hi => by
    simp only [fX8_sheet_b0, if_neg (show ¬ (24 : Int32) ≤ nI i from nI_ge (b := 24) hi (by omega)), rg6 hR, Option.bind_some, ix24, rs6 hR (show 24 * k + i < 96 by omega), upF_s, upF_2, ixp1, cpy_s]) (by
    simp only [fX8_sheet_b0, if_pos (show (24 : Int32) ≤ nI 24 from Int32.le_refl _)])
  rw [cpy_0, upF_id] at this
  exact this
theorem L_sheet (hL : Lay nd ad (KC nT)) (hR : Lay nd2 ad2 KR) (h : Inv nT c ad fi fa) (x a v : Int32) : Sim nT nd nd2 ad ad2 c fi fa (fX7_sheet (ad 0) x a v) (fX8_sheet (ad2 31) x a v) := by
  by_cases hx : 0 ≤ x ∧ x ≤ 3
  · obtain ⟨k, j1, -, j3⟩ := bt (a := 0) (b := 3) hx (by omega) (by omega)
    subst j1
    have hk : k < 4 := by omega
    by_cases ha : -1 ≤ a ∧ a ≤ 1
    · -- the sheet begins anew
      have fin : ∀ (w : Int32), (a = -1 ∨ a = 0 ∨ a = 1) → (∃ l, w = nI l ∧ l ≤ 24) → ∃ e, fX3_begin (ad (420 + k)) a w (MM nd c) = some (MM nd e) ∧ Inv nT e ad fi (upF (upF (upF fa 4 (upd (fa 4) k a)) 5 (upd (fa 5) k w)) 6 (va_cpy (fun _ => 0) (fa 6) 0 (24 * k) 24)) := by
        intro w ha3 hw
        obtain ⟨e, p1, p2, p3, g, p4, p5⟩ := C_begin hL h.1 hk a w
        refine ⟨e, p1, h.sh (fun j hj => p2 j (by omega) (by omega)) (fun j h4 h5 h6 => by rw [upF_n h6, upF_n h5, upF_n h4]) (fun q hq => ?_)⟩
        have e4 : upF (upF (upF fa 4 (upd (fa 4) k a)) 5 (upd (fa 5) k w)) 6 (va_cpy (fun _ => 0) (fa 6) 0 (24 * k) 24) 4 = upd (fa 4) k a := by rw [upF_n (by decide), upF_n (by decide), upF_s]
        have e5 : upF (upF (upF fa 4 (upd (fa 4) k a)) 5 (upd (fa 5) k w)) 6 (va_cpy (fun _ => 0) (fa 6) 0 (24 * k) 24) 5 = upd (fa 5) k w := by rw [upF_n (by decide), upF_s]
        unfold SHok1
        rw [e4, e5, upF_s]
        by_cases eq : q = k
        · subst eq
          rw [upd_s, upd_s]
          refine ⟨p3, ⟨g, p4, fun i hi => ?_⟩, ha3, hw⟩
          rw [p5 i hi]
          unfold va_cpy
          rw [if_pos (by omega)]
        · rw [upd_n eq, upd_n eq]
          obtain ⟨b1, ⟨g2, b2, b3⟩, b4⟩ := h.1.2.2.1.2 q hq
          refine ⟨(p2 _ (by omega) (by omega)).trans b1, ⟨g2, (p2 _ (by omega) (by omega)).trans b2, fun i hi => ?_⟩, b4⟩
          rw [b3 i hi]
          unfold va_cpy
          rw [if_neg (by omega)]
      have z4 : upF (upF fa 4 (upd (fa 4) k a)) 5 (upd (fa 5) k v) 6 = fa 6 := by rw [upF_n (by decide), upF_n (by decide)]
      have z4' : upF (upF fa 4 (upd (fa 4) k a)) 5 (upd (fa 5) k 0) 6 = fa 6 := by rw [upF_n (by decide), upF_n (by decide)]
      have z5 : upF fa 4 (upd (fa 4) k a) 5 = fa 5 := upF_n (by decide)
      by_cases am : a = -1
      · subst am
        obtain ⟨e, q1, q2⟩ := fin 0 (Or.inl rfl) ⟨0, rfl, by omega⟩
        refine ⟨0, e, fi, _, ?_, ?_, q2⟩
        · simp only [fX7_sheet, C_isSh, decide_eq_true hx, C_within, decide_eq_true ha, if_true, o_sh hL h.1, sh_l hL h.1 hk, sh_v hL h.1 hk, q1, Option.bind_some]
        · simp only [fX8_sheet, R_isSh, decide_eq_true hx, isIn_t k64_m1 k64_1, decide_eq_true ha, if_true, show (-1 : Int32) < 0 by decide, show ¬ (0 : Int32) ≤ -1 by decide, if_false, rg4 hR, rs4 hR hk, rg5 hR, rs5 hR hk, Option.bind_some, R_zero hR hk, z4', z5, rl5 hR hk]
          rw [upF_n (by decide), upF_s, upd_s]
      · have a01 : a = 0 ∨ a = 1 := by
          have h2 : 0 ≤ a := by
            have q1 := ha.1
            rw [Int32.le_iff_toInt_le] at q1 ⊢
            have q2 : a.toInt ≠ -1 := fun z => am (Int32.toInt_inj.mp z)
            have q3 : (-1 : Int32).toInt = -1 := rfl
            have q4 : (0 : Int32).toInt = 0 := rfl
            omega
          exact bt01 ⟨h2, ha.2⟩
        have ha0 : 0 ≤ a := by rcases a01 with z | z <;> rw [z] <;> decide
        have ha1 : ¬ a < 0 := Int32.not_lt.mpr ha0
        by_cases hv : v ≤ 24
        · by_cases hv0 : 0 ≤ v
          · obtain ⟨l, l1, -, l3⟩ := bt (a := 0) (b := 24) ⟨hv0, hv⟩ (by omega) (by omega)
            obtain ⟨e, q1, q2⟩ := fin v (Or.inr a01) ⟨l, l1, l3⟩
            refine ⟨v, e, fi, _, ?_, ?_, q2⟩
            · simp only [fX7_sheet, C_isSh, decide_eq_true hx, C_within, decide_eq_true ha, if_true, if_neg am, if_pos hv, if_pos hv0, o_sh hL h.1, sh_l hL h.1 hk, sh_v hL h.1 hk, q1, Option.bind_some]
            · have hz : loopF (fX8_sheet_b3 (ad2 31) (nI k)) bigN ((0 : Int32), MR nd2 ad2 fi (upF (upF fa 4 (upd (fa 4) k a)) 5 (upd (fa 5) k v))) = _ := R_zero hR hk
              simp only [fX8_sheet, R_isSh, decide_eq_true hx, isIn_t k64_m1 k64_1, decide_eq_true ha, if_true, if_neg ha1, if_pos hv, if_pos hv0, if_pos ha0, rg4 hR, rs4 hR hk, rg5 hR, rs5 hR hk, Option.bind_some, z5, hz, z4, rl5 hR hk]
              rw [upF_n (by decide), upF_s, upd_s]
          · refine Sim.same (r := -1000000014) h ?_ ?_
            · simp only [fX7_sheet, C_isSh, decide_eq_true hx, C_within, decide_eq_true ha, if_true, if_neg am, if_pos hv, if_neg hv0, Option.bind_some]
            · simp only [fX8_sheet, R_isSh, decide_eq_true hx, isIn_t k64_m1 k64_1, decide_eq_true ha, if_true, if_neg ha1, if_pos hv, if_neg hv0, Option.bind_some]
        · refine Sim.same (r := -1000000001) h ?_ ?_
          · simp only [fX7_sheet, C_isSh, decide_eq_true hx, C_within, decide_eq_true ha, if_true, if_neg am, if_neg hv, Option.bind_some]
          · simp only [fX8_sheet, R_isSh, decide_eq_true hx, isIn_t k64_m1 k64_1, decide_eq_true ha, if_true, if_neg ha1, if_neg hv, Option.bind_some]
    · refine Sim.same (r := -1000000001) h ?_ ?_
      · simp only [fX7_sheet, C_isSh, decide_eq_true hx, C_within, decide_eq_false ha, if_true, Bool.false_eq_true, if_false, Option.bind_some]
      · simp only [fX8_sheet, R_isSh, decide_eq_true hx, isIn_t k64_m1 k64_1, decide_eq_false ha, if_true, Bool.false_eq_true, if_false, Option.bind_some]
  · refine Sim.same (r := -1000000001) h ?_ ?_
    · simp only [fX7_sheet, C_isSh, decide_eq_false hx, Bool.false_eq_true, if_false, Option.bind_some]
    · simp only [fX8_sheet, R_isSh, decide_eq_false hx, Bool.false_eq_true, if_false, Option.bind_some]
end PK
