/-- the scratch rows may change: named, pile -/
def Sc (fa fb : Nat → Nat → Int32) : Prop := ∀ k, k ≠ 25 → k ≠ 26 → fb k = fa k
theorem Sc.rf {fa : Nat → Nat → Int32} : Sc fa fa := fun _ _ _ => rfl
theorem Sc.tr {fa fb fc : Nat → Nat → Int32} (h : Sc fa fb) (h2 : Sc fb fc) : Sc fa fc := fun k a b => (h2 k a b).trans (h k a b)
theorem Sc.u25 {fa : Nat → Nat → Int32} {g : Nat → Int32} : Sc fa (upF fa 25 g) := fun k a _ => upF_n a
theorem Sc.u26 {fa : Nat → Nat → Int32} {g : Nat → Int32} : Sc fa (upF fa 26 g) := fun k _ a => upF_n a
theorem Sc.z {fa fb : Nat → Nat → Int32} (h : Sc fa fb) : fb 0 = fa 0 := h 0 (by decide) (by decide)
theorem hld_in {v a b : Int32} {x y : Nat} (ha : a = nI x) (hb : b = nI y) (hxy : x ≤ y) (hy : y < 2 ^ 31) : ∃ h, hld v a b = nI h ∧ x ≤ h ∧ h ≤ y := by
  unfold hld
  subst ha; subst hb
  split
  · next h1 =>
    split
    · next h2 =>
      obtain ⟨j, hj, rfl⟩ := nI_of (x := v) (fun z => nI_pos (by omega : x < 2 ^ 31) (Int32.lt_of_le_of_lt h1 z))
      exact ⟨j, rfl, (nI_leI (by omega) hj).mp h1, (nI_leI hj hy).mp h2⟩
    · exact ⟨y, rfl, hxy, Nat.le_refl _⟩
  · exact ⟨x, rfl, Nat.le_refl _, hxy⟩
theorem hS_in {s : Nat → Int32} (hw : Wf s) {c : Nat} (hc : c < nt (s 0)) : ∃ h, hS s c = nI h ∧ 1 ≤ h ∧ h ≤ 99 := by
  unfold hS
  split
  · split
    · exact ⟨1, rfl, by omega, by omega⟩
    · obtain ⟨⟨h, h1, h2, h3⟩, -⟩ := hw.ch hc
      exact ⟨h, h1, h2, by omega⟩
  · exact hld_in (x := 1) (y := 99) rfl rfl (by omega) (by omega)
section RC
variable {nd : Nat → Option Nat} {ad : Nat → Nat} {fi : Nat → Int32} {fa : Nat → Nat → Int32}
theorem oI_lt0 {o : Option Nat} (h : ∀ t, o = some t → t < 2 ^ 31) : oI o < 0 ↔ o = none := by
  cases o with
  | none => exact ⟨fun _ => rfl, fun _ => by decide⟩
  | some t => exact ⟨fun z => absurd z (nI_pos (h t rfl)), fun z => by cases z⟩
theorem lawS_lt {s : Nat → Int32} (hw : Wf s) {key : Int32} {t : Nat} (h : lawS s key = some t) : t < 14 ∧ t < nt (s 3) ∧ s (92 + 200 * t) = key := by
  obtain ⟨n, h1, h2, h3⟩ := hw.n3
  obtain ⟨h4, h5⟩ := cnsF_lt h
  exact ⟨by omega, h4, h5⟩
theorem R_holds (hL : Lay nd ad KR) (hw : Wf (fa 0)) {c : Nat} (hc : c < nt (fa 0 0)) : ∃ fb, fX8_holds (ad 31) (nI c) (MR nd ad fi fa) = some (hS (fa 0) c, MR nd ad fi fb) ∧ Sc fa fb := by
  obtain ⟨n, h1, h2, h3⟩ := hw.n0
  have hc9 : c < 1000 := by omega
  unfold fX8_holds hS
  simp only [rcv hL, R_counts hL hw, Option.bind_some]
  cases hl : lawS (fa 0) 0 with
  | none =>
    rw [show oI none = -1 from rfl, if_neg (by decide)]
    simp only [R_sortNow hL hw, Option.bind_some, R_own0 hL hc9]
    split
    · exact ⟨fa, rfl, Sc.rf⟩
    · exact ⟨fa, rfl, Sc.rf⟩
  | some t =>
    obtain ⟨ht, ht2, hk⟩ := lawS_lt hw hl
    have e1 : ∀ g, upF fa 25 g 0 = fa 0 := fun g => upF_n (by decide)
    have hso : ∀ g, fX8_sortNow (ad 31) (MR nd ad fi (upF fa 25 g)) = some (sortS (fa 0)) := fun g => by rw [R_sortNow hL (by rw [e1]; exact hw), e1]
    rw [show oI (some t) = nI t from rfl, if_pos (nI_pos' (by omega))]
    simp only [rg25 hL, Option.bind_some, R_own0 hL hc9]
    rw [show (104 : Int32) = nI 104 from rfl, rs25 hL (by omega)]
    simp only [rg25 hL, rcv hL, Option.bind_some, R_own1 hL hc9]
    rw [show (97 : Int32) = nI 97 from rfl, rs25 hL (by omega), upF_2, upF_s]
    simp only [rg25 hL, rcv hL, Option.bind_some, hso, e1]
    rw [show (102 : Int32) = nI 102 from rfl, rs25 hL (by omega), upF_2, upF_s]
    obtain ⟨p, hp⟩ := R_worked (fi := fi) (fa := upF fa 25 (upd (upd (upd (fa 25) 104 (fa 0 (12 + 3 * c))) 97 (fa 0 (13 + 3 * c))) 102 (sortS (fa 0)))) hL ht (by rw [e1]; exact hw.tx ht2) (nmS (fa 0 (92 + 200 * t)) (fa 0 (12 + 3 * c)) (fa 0 (13 + 3 * c)) (sortS (fa 0))) (by
      rw [e1, upF_s, hk]
      intro v hv
      rcases hv.1 rfl with rfl | rfl | rfl
      · rfl
      · rfl
      · rfl)
    simp only [rcv hL, Option.bind_some, hp, R_held, e1]
    exact ⟨_, rfl, Sc.u25.tr Sc.u26⟩
theorem R_roundOf (hL : Lay nd ad KR) (hw : Wf (fa 0)) : ∃ fb, fX8_roundOf (ad 31) (MR nd ad fi fa) = some (nI (rndS (fa 0)), MR nd ad fi fb) ∧ Sc fa fb := by
  obtain ⟨n, h1, h2, h3⟩ := hw.n0
  obtain ⟨r, h4, fb, h5, h6⟩ := loop_rel (b := fX8_roundOf_b0 (ad 31)) (s := ((0 : Int32), (0 : Int32), MR nd ad fi fa))
    (fun k st => ∃ fb, st = (nI (rndF (fa 0) k), nI k, MR nd ad fi fb) ∧ Sc fa fb) (fun r => ∃ fb, r = (nI (rndS (fa 0)), MR nd ad fi fb) ∧ Sc fa fb) n (by omega) ⟨fa, rfl, Sc.rf⟩ (by
      rintro k st hk ⟨fb, rfl, hb⟩
      have hz := hb.z
      have g0 : ¬ nI n ≤ nI k := nI_ge hk (by omega)
      simp only [fX8_roundOf_b0, rg0 hL, rk0 hL, rcv hL, Option.bind_some, R_own2 hL (show k < 1000 by omega), hz, h1, if_neg g0, ixp1]
      rw [rndF_s]
      by_cases hh : fa 0 (14 + 3 * k) = 0
      · obtain ⟨fc, e1, e2⟩ := R_holds (fi := fi) hL (by rw [hz]; exact hw) (by rw [hz]; omega : k < nt (fb 0 0))
        obtain ⟨x, e3, e4, e5⟩ := hS_in hw (c := k) (by omega)
        rw [if_pos hh, if_pos (inS_t hh), e1]
        simp only [Option.bind_some, hz, e3, nI_add, nt_nI (show x < 2 ^ 31 by omega)]
        exact ⟨_, rfl, fc, rfl, hb.tr e2⟩
      · rw [if_neg hh, if_neg (inS_f hh)]
        simp only [Option.bind_some]
        exact ⟨_, rfl, fb, by rw [show nI (rndF (fa 0) k) + 0 = nI (rndF (fa 0) k + 0) from nI_add _ 0], hb⟩)
    (by
      rintro st ⟨fb, rfl, hb⟩
      have hz := hb.z
      simp only [fX8_roundOf_b0, rg0 hL, rk0 hL, Option.bind_some, hz, h1]
      rw [if_pos (nI_le (Nat.le_refl _) (by omega))]
      exact ⟨_, rfl, fb, by unfold rndS; rw [h3], hb⟩)
  refine ⟨fb, ?_, h6⟩
  unfold fX8_roundOf
  rw [h4, h5]
  rfl
end RC
