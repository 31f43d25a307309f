def isOfS (a w : Int32) : Bool := decide (w = a) || (decide (abv (nt a) = w) || decide (w = 0))
def fnS (s : Nat → Int32) (c : Nat) : Int32 := match lawS s 2 with
  | none => s (13 + 3 * c)
  | some t => evS s t (s (13 + 3 * c)) (s 4) 0
section CI
variable {nT B : Nat} {nd : Nat → Option Nat} {c : Nat → pE} {ad tx : Nat → Nat} {s : Nat → Int32}
theorem C_isKind (a : Int32) (m : Mem) : fX7_isKind a m = some (decide (0 ≤ a ∧ a ≤ 5)) := by
  unfold fX7_isKind
  rw [C_within]
  rfl
theorem C_isOf (hL : Lay nd ad (KC nT)) {k : Nat} (hk : KC nT k) {a b d : Int32} (hc : c k = .inr (5, [.int a, .int b, .int d])) {h : Nat} (ha : a = nI h) (h5 : h ≤ 5) (w : Int32) : fX5_isOf (ad k) w (MM nd c) = some (isOfS a w) := by
  unfold fX5_isOf isOfS
  have e1 : ldA a = some (abv (nt a)) := by
    unfold ldA
    rw [if_pos]
    rw [ha]
    exact ⟨nI_pos (by omega), by have := nt_nI (n := h) (by omega); unfold nt at this; omega⟩
  have e2 : 0 ≤ a ∧ a ≤ 5 := by rw [ha]; exact ⟨nI_pos' (by omega), nI_le (b := 5) h5 (by omega)⟩
  have e0 : gI (MM nd c) (ad k) 5 0 = some a := gI_MM hL hk hc rfl
  simp only [e0, Option.bind_some, C_isKind, e1]
  rw [if_pos (by simp only [decide_eq_true_eq]; exact e2)]
  by_cases h1 : abv (nt a) = w
  · rw [if_pos h1]
    simp only [Option.bind_some]
    by_cases h2 : w = a
    · rw [if_pos h2]; simp [h2]
    · rw [if_neg h2, if_neg (by decide)]; simp [h1]
  · rw [if_neg h1]
    simp only [Option.bind_some]
    by_cases h2 : w = a
    · rw [if_pos h2]; simp [h2]
    · rw [if_neg h2, if_pos trivial]
      by_cases h3 : w = 0
      · rw [if_pos h3]; simp [h3]
      · rw [if_neg h3]; simp [h1, h2, h3]
theorem isOf_lot {k h : Nat} (ha : s (42 + 3 * k) = nI h) (h5 : h ≤ 5) : isOfS (s (42 + 3 * k)) 1 = isLotS s k := by
  unfold isLotS
  rw [ha]
  rcases (show h = 0 ∨ h = 1 ∨ h = 2 ∨ h = 3 ∨ h = 4 ∨ h = 5 by omega) with e | e | e | e | e | e <;> subst e <;> rfl
theorem C_txt (hL : Lay nd ad (KC nT)) (h : RingOK nT c ad B s tx) {t : Nat} (ht : t < nt (s 3)) : tx t < nT ∧ TextOK c ad (tx t) s t := (h.2.2.2.2.1.elim fun g hg => (hg.2 t ht).2)
theorem C_val (hL : Lay nd ad (KC nT)) (h : RingOK nT c ad B s tx) (hw : Wf s) {t : Nat} (ht : t < nt (s 3)) (a b d : Int32) : ∃ e, cV (MM nd c) (ad (1000 + 3 * tx t)) 6 (fX6_value (ad (1000 + 3 * tx t)) a b d (MM nd c)) = some (evS s t a b d, MM nd e) ∧ ScT c e := by
  obtain ⟨h1, h2⟩ := C_txt hL h ht
  obtain ⟨e, h3, h4⟩ := C_value hL h1 h2 (hw.tx ht) a b d
  refine ⟨e, ?_, h4⟩
  have k0 : KC nT (1000 + 3 * tx t) := KC_tx (i := 0) h1 (by decide)
  rw [cV_MM hL k0 h2.1]
  exact h3
theorem C_holdsOf (hL : Lay nd ad (KC nT)) (hB : isB B) (h : RingOK nT c ad B s tx) (hw : Wf s) {i : Nat} (hi : i < nt (s 0)) : ∃ e, fX2_holdsOf (ad B) (ad (B + 10 + i)) (MM nd c) = some (hS s i, MM nd e) ∧ ScT c e := by
  obtain ⟨n, h1, h2, h3⟩ := hw.n0
  have h10 : i < 10 := by omega
  unfold fX2_holdsOf hS
  simp only [cv_R hL hB h, C_lawOf hL hB h hw (k := 0) (kv := 0) (by decide) rfl, Option.bind_some]
  cases hl : lawS s 0 with
  | none =>
    simp only [Option.map_none, C_sortNow hL hB h hw, Option.bind_some, cc_0 hL hB h h10 hi]
    refine ⟨c, ?_, ScT.rf⟩
    split <;> rfl
  | some t =>
    obtain ⟨-, ht, -⟩ := lawS_lt hw hl
    simp only [Option.map_some, C_sortNow hL hB h hw, Option.bind_some, cc_0 hL hB h h10 hi, cc_1 hL hB h h10 hi]
    obtain ⟨e, h4, h5⟩ := C_val hL h hw ht (s (12 + 3 * i)) (s (13 + 3 * i)) (sortS s)
    rw [h4]
    simp only [Option.bind_some, C_held (show (1 : Int32) ≤ 99 by decide)]
    exact ⟨e, rfl, h5⟩
theorem C_fineOf (hL : Lay nd ad (KC nT)) (hB : isB B) (h : RingOK nT c ad B s tx) (hw : Wf s) {i : Nat} (hi : i < nt (s 0)) : ∃ e, fX2_fineOf (ad B) (ad (B + 10 + i)) (MM nd c) = some (fnS s i, MM nd e) ∧ ScC c e := by
  obtain ⟨n, h1, h2, h3⟩ := hw.n0
  have h10 : i < 10 := by omega
  unfold fX2_fineOf fnS
  simp only [cv_R hL hB h, C_lawOf hL hB h hw (k := 2) (kv := 2) (by decide) rfl, Option.bind_some]
  cases hl : lawS s 2 with
  | none =>
    simp only [Option.map_none, Option.bind_some, cc_1 hL hB h h10 hi]
    exact ⟨c, rfl, ScC.rf⟩
  | some t =>
    obtain ⟨-, ht, -⟩ := lawS_lt hw hl
    simp only [Option.map_some, cg_4 hL hB h, Option.bind_some, cc_1 hL hB h h10 hi]
    obtain ⟨e, h4, h5⟩ := C_val hL h hw ht (s (13 + 3 * i)) (s 4) 0
    rw [h4]
    exact ⟨e, rfl, h5.1⟩
theorem C_lastsBy (hL : Lay nd ad (KC nT)) (hB : isB B) (h : RingOK nT c ad B s tx) (hw : Wf s) {k : Nat} (hk : k < nt (s 1)) (x : Int32) : ∃ e, fX2_lastsBy (ad B) (ad (B + 20 + k)) x (MM nd c) = some (lastS s k x, MM nd e) ∧ ScT c e := by
  obtain ⟨n, h1, h2, h3⟩ := hw.n1
  have h10 : k < 10 := by omega
  obtain ⟨⟨kd, k1, k2⟩, -⟩ := hw.sp hk
  have hmax : ∀ v : Int32, ∀ m : Mem, (∃ q, v = nI q ∧ q ≤ 999) → fJ9_max_7cf53 0 (v - 1) m = some (if v ≤ 0 then v else v - 1) := by
    rintro v m ⟨q, rfl, hq⟩
    unfold fJ9_max_7cf53
    rcases Nat.eq_zero_or_pos q with e | e
    · subst e; rfl
    · rw [if_neg (nI_nle (by omega) (by omega)), show nI q - 1 = nI (q - 1) from pk_sub (b := 1) (by omega)]
      by_cases e3 : q = 1
      · subst e3; rfl
      · rw [if_pos (show (0 : Int32) < nI (q - 1) from nI_lt (a := 0) (by omega) (by omega))]
  have tail : ∀ e, ScC c e → ((cV (MM nd e) (ad (B + 20 + k)) 5 (fX5_isOf (ad (B + 20 + k)) (1 : Int32) (MM nd e))).bind fun b12 =>
      if b12 = true then
        some (plainS s k + x, MM nd e)
      else
        (gI (MM nd e) (ad (B + 20 + k)) 5 0).bind fun x13 =>
        if x13 = (5 : Int32) then
          (fJ9_max_7cf53 (0 : Int32) (plainS s k - (1 : Int32)) (MM nd e)).bind fun x14 =>
          some (x14, MM nd e)
        else
          some (plainS s k, MM nd e)) = some (lastS s k x, MM nd e) := by
    intro e e2
    have he := h.sc hB e2
    unfold lastS
    simp only [Option.bind_some, cv_S hL hB he h10, C_isOf hL (KC_sp hB h10) (sp_at he h10 hk) k1 k2, isOf_lot k1 k2, cs_0 hL hB he h10 hk, hmax _ _ (plainS_in hw hk)]
    (repeat' split) <;> first | rfl | contradiction
  unfold fX2_lastsBy
  simp only [cv_R hL hB h, C_lawOf hL hB h hw (k := 1) (kv := 1) (by decide) rfl, Option.bind_some]
  cases hl : lawS s 1 with
  | none =>
    simp only [Option.map_none, Option.bind_some, cs_1 hL hB h h10 hk]
    have hp : plainS s k = s (43 + 3 * k) := by unfold plainS; rw [hl]
    have := tail c ScC.rf
    rw [hp] at this
    exact ⟨c, this, ScT.rf⟩
  | some t =>
    obtain ⟨-, ht, -⟩ := lawS_lt hw hl
    simp only [Option.map_some, cg_4 hL hB h, cg_8 hL hB h, Option.bind_some, cs_1 hL hB h h10 hk]
    obtain ⟨e, h4, h5⟩ := C_val hL h hw ht (s (43 + 3 * k)) (s 4) (s 8)
    rw [h4]
    simp only [Option.bind_some, C_held (show (0 : Int32) ≤ 999 by decide)]
    have hp : plainS s k = hld (evS s t (s (43 + 3 * k)) (s 4) (s 8)) 0 999 := by unfold plainS; rw [hl]
    have := tail e h5.1
    rw [hp] at this
    exact ⟨e, this, h5⟩
theorem C_stopNow (hL : Lay nd ad (KC nT)) (hB : isB B) (h : RingOK nT c ad B s tx) (hw : Wf s) : fX2_stopNow (ad B) (MM nd c) = some (if 0 < nt (s 1) then some (ad (B + 20 + stopS s)) else none) := by
  obtain ⟨n, h1, h2, h3⟩ := hw.n1
  obtain ⟨k, g1, g2, g3⟩ := hw.n4
  unfold fX2_stopNow stopS
  simp only [cg_sn hL hB h, cg_4 hL hB h, cr_3 hL hB h, Option.bind_some]
  rw [h3, g3, h1, g1]
  rcases Nat.eq_zero_or_pos n with e | e
  · subst e; rfl
  · rw [if_neg (nI_nle (by omega) (by omega)), if_pos e]
    have hx : fJ9_floorMod_7cf53 (nI k) (nI n) (MM nd c) = some (nI (k % n)) := by
      unfold fJ9_floorMod_7cf53
      rw [rmI_nI (by omega) e (by omega)]
      simp only [Option.bind_some]
      have hxor : (0 : Int32) ≤ nI k ^^^ nI n := by
        rw [show nI k ^^^ nI n = nI (k ^^^ n) from Int32.toBitVec_inj.mp (by rw [Int32.toBitVec_xor]; exact (BitVec.ofNat_xor ..).symm)]
        exact nI_pos' (Nat.xor_lt_two_pow (n := 31) (by omega) (by omega))
      rw [if_pos hxor]
    rw [hx]
    have := Nat.mod_lt k e
    simp only [Option.bind_some, cl_sp hL hB h (show k % n < 10 by omega)]
end CI
