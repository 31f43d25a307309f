def cpT (n : Nat) (f g : Nat → Int32) : Nat → Int32 := fun j => if j < n then f j else g j
theorem cpT_s (n : Nat) (f g : Nat → Int32) : cpT (n + 1) f g = upd (cpT n f g) n (f n) := by
  funext j
  unfold cpT upd
  by_cases h : j = n
  · subst h; simp
  · by_cases h2 : j < n
    · simp [h, h2, Nat.lt_succ_of_lt h2]
    · have : ¬ j < n + 1 := by omega
      simp [h, h2, this]
theorem cpT_0 (f g : Nat → Int32) : cpT 0 f g = g := by funext j; simp [cpT]
theorem cpT_back {n : Nat} {s u g : Nat → Int32} (h : ∀ j, n ≤ j → u j = s j) : cpT n (cpT n s g) u = s := by
  funext j
  unfold cpT
  by_cases hj : j < n
  · simp [hj]
  · simp [hj, h j (by omega)]
theorem cpT_lt {n j : Nat} {f g : Nat → Int32} (h : j < n) : cpT n f g j = f j := by simp [cpT, h]
theorem cpT_ge {n j : Nat} {f g : Nat → Int32} (h : ¬ j < n) : cpT n f g j = g j := by simp [cpT, h]
section RF
variable {nd : Nat → Option Nat} {ad : Nat → Nat} {fi : Nat → Int32} {fa : Nat → Nat → Int32}
theorem R_goesMany (hL : Lay nd ad KR) (hw : Wf (fa 0)) {n : Nat} (hn : n < 5000) (h4 : nt (fa 0 4) + n < 2 ^ 30) : ∃ fb, fX8_goesMany (ad 31) (nI n) (MR nd ad fi fa) = some (lsT n (fa 0), MR nd ad fi fb) ∧ Sc (upF fa 0 (itT n (fa 0))) fb := by
  obtain ⟨r, h1, fb, rfl, h2⟩ := loop_rel (b := fX8_goesMany_b0 (ad 31) (nI n)) (s := ((-1 : Int32), (0 : Int32), MR nd ad fi fa))
    (fun i st => ∃ fb, st = (lsT i (fa 0), nI i, MR nd ad fi fb) ∧ Sc (upF fa 0 (itT i (fa 0))) fb)
    (fun r => ∃ fb, r = (lsT n (fa 0), MR nd ad fi fb) ∧ Sc (upF fa 0 (itT n (fa 0))) fb) n hn ⟨fa, rfl, by rw [show itT 0 (fa 0) = fa 0 from rfl, upF_id]; exact Sc.rf⟩ (by
      rintro i st hi ⟨fb, rfl, hs⟩
      obtain ⟨w, -, -⟩ := itT_ok hw (n := i) (by omega)
      have hz : fb 0 = itT i (fa 0) := by rw [hs.z, upF_s]
      obtain ⟨fc, p1, p2⟩ := R_turn (fi := fi) (fa := fb) hL (by rw [hz]; exact w)
      rw [hz] at p1 p2
      simp only [fX8_goesMany_b0, if_neg (nI_ge hi (show n < 2 ^ 31 by omega)), rcv hL, p1, Option.bind_some, ixp1]
      refine ⟨_, rfl, fc, rfl, fun k h25 h26 => (p2 k h25 h26).trans ?_⟩
      by_cases hk : k = 0
      · subst hk; rw [upF_s, upF_s, itT_s]
      · rw [upF_n hk, upF_n hk, hs k h25 h26, upF_n hk])
    (by
      rintro st ⟨fb, rfl, hs⟩
      simp only [fX8_goesMany_b0, if_pos (nI_le (Nat.le_refl n) (show n < 2 ^ 31 by omega))]
      exact ⟨_, rfl, fb, rfl, hs⟩)
  unfold fX8_goesMany
  rw [h1]
  exact ⟨fb, rfl, h2⟩
theorem R_spread (hL : Lay nd ad KR) (hw : Wf (fa 0)) : fX8_spread (ad 31) (MR nd ad fi fa) = some (sprS (fa 0)) := by
  obtain ⟨n, h1, h2, h3⟩ := hw.n0
  obtain ⟨⟨r1, r2⟩, e, hr⟩ := loop_rel (b := fX8_spread_b0 (ad 31) (MR nd ad fi fa)) (s := ((100 : Int32), (0 : Int32), (0 : Int32)))
    (fun i st => ∃ a, st = (a, mxF (fa 0) i, nI i) ∧ ((i = 0 ∧ a = 100) ∨ (1 ≤ i ∧ a = mnF (fa 0) i)))
    (fun r => ∃ a, r = (a, mxF (fa 0) n) ∧ (1 ≤ n → a = mnF (fa 0) n)) n (by omega) ⟨100, rfl, Or.inl ⟨rfl, rfl⟩⟩ (by
      rintro i st hi ⟨a, rfl, ha⟩
      have g0 : ¬ nI n ≤ nI i := nI_ge hi (by omega)
      simp only [fX8_spread_b0, rg0 hL, rk0 hL, rcv hL, Option.bind_some, h1, if_neg g0, R_own1 hL (show i < 1000 by omega), ite_some, ixp1]
      refine ⟨_, rfl, (if a ≤ fa 0 (13 + 3 * i) then a else fa 0 (13 + 3 * i)), ?_, Or.inr ⟨by omega, ?_⟩⟩
      · rw [mxF_s]
      · rw [mnF_s]
        rcases ha with ⟨rfl, rfl⟩ | ⟨h1', rfl⟩
        · obtain ⟨-, ⟨q, q1, q2⟩, -⟩ := hw.ch (c := 0) (by omega)
          show (if (100 : Int32) ≤ fa 0 (13 + 3 * 0) then (100 : Int32) else fa 0 (13 + 3 * 0)) = if (99 : Int32) ≤ fa 0 (13 + 3 * 0) then 99 else fa 0 (13 + 3 * 0)
          rw [q1, if_neg (show ¬ (100 : Int32) ≤ nI q from nI_ge (b := 100) (by omega) (by omega))]
          by_cases hq : q = 99
          · subst hq; rfl
          · rw [if_neg (show ¬ (99 : Int32) ≤ nI q from nI_ge (b := 99) (by omega) (by omega))]
        · rfl)
    (by
      rintro st ⟨a, rfl, ha⟩
      simp only [fX8_spread_b0, rg0 hL, rk0 hL, Option.bind_some, h1, if_pos (nI_le (Nat.le_refl n) (show n < 2 ^ 31 by omega))]
      refine ⟨_, rfl, a, rfl, fun hn => ?_⟩
      rcases ha with ⟨e1, e2⟩ | ⟨e1, e2⟩
      · omega
      · exact e2)
  obtain ⟨a, hr1, hr2⟩ := hr
  cases hr1
  unfold fX8_spread sprS
  rw [e]
  simp only [rg0 hL, rk0 hL, Option.bind_some]
  by_cases h0 : fa 0 0 = 0
  · rw [if_pos h0, if_pos h0]
  · rw [if_neg h0, if_neg h0, h3]
    have : 1 ≤ n := by
      rcases Nat.eq_zero_or_pos n with z | z
      · subst z; exact absurd h1 h0
      · exact z
    rw [hr2 this]
theorem R_without (hL : Lay nd ad KR) (hw : Wf (fa 0)) : fX8_without (ad 31) (MR nd ad fi fa) = some (nI (wtS (fa 0))) := by
  obtain ⟨n, h1, h2, h3⟩ := hw.n0
  have e : loopF (fX8_without_b0 (ad 31) (MR nd ad fi fa)) bigN ((0 : Int32), (0 : Int32)) = some (nI (wtF (fa 0) n)) := by
    refine loop_for (fun i => (nI (wtF (fa 0) i), nI i)) n _ (by omega) ?_ ?_
    · intro i hi
      simp only [fX8_without_b0, rg0 hL, rk0 hL, rcv hL, Option.bind_some, h1, if_neg (nI_ge hi (show n < 2 ^ 31 by omega)), R_own1 hL (show i < 1000 by omega), ite_some, ixp1]
      rw [wtF_s]
      split
      · rw [show nI (wtF (fa 0) i) + 1 = _ from nI_1 _]
      · rw [show nI (wtF (fa 0) i) + 0 = _ from nI_add _ 0]
    · simp only [fX8_without_b0, rg0 hL, rk0 hL, Option.bind_some, h1, if_pos (nI_le (Nat.le_refl n) (show n < 2 ^ 31 by omega))]
  unfold fX8_without wtS
  rw [e, h3]
  rfl
theorem R_laysBy (hL : Lay nd ad KR) : fX8_laysBy (ad 31) (MR nd ad fi fa) = some (MR nd ad fi (upF fa 12 (cpT 92 (fa 0) (fa 12)))) := by
  have e : loopF (fX8_laysBy_b0 (ad 31)) bigN ((0 : Int32), MR nd ad fi fa) = some (MR nd ad fi (upF fa 12 (cpT 92 (fa 0) (fa 12)))) := by
    have := loop_for (b := fX8_laysBy_b0 (ad 31)) (fun i => (nI i, MR nd ad fi (upF fa 12 (cpT i (fa 0) (fa 12))))) 92 (MR nd ad fi (upF fa 12 (cpT 92 (fa 0) (fa 12)))) (by omega) (fun i hi => by
      have e0 : upF fa 12 (cpT i (fa 0) (fa 12)) 0 = fa 0 := upF_n (by decide)
      simp only [fX8_laysBy_b0, rg0 hL, rg12 hL, Option.bind_some, if_neg (show ¬ (92 : Int32) ≤ nI i from nI_ge (b := 92) hi (by omega)), rl0 hL (show i < 3092 by omega), rs12 hL hi, upF_s, upF_2, e0, ixp1, cpT_s]) (by
      simp only [fX8_laysBy_b0, if_pos (show (92 : Int32) ≤ nI 92 from Int32.le_refl _)])
    rw [cpT_0, upF_id] at this
    exact this
  unfold fX8_laysBy
  rw [e]
  rfl
theorem R_laysBack (hL : Lay nd ad KR) : fX8_laysBack (ad 31) (MR nd ad fi fa) = some (MR nd ad fi (upF fa 0 (cpT 92 (fa 12) (fa 0)))) := by
  have e : loopF (fX8_laysBack_b0 (ad 31)) bigN ((0 : Int32), MR nd ad fi fa) = some (MR nd ad fi (upF fa 0 (cpT 92 (fa 12) (fa 0)))) := by
    have := loop_for (b := fX8_laysBack_b0 (ad 31)) (fun i => (nI i, MR nd ad fi (upF fa 0 (cpT i (fa 12) (fa 0))))) 92 (MR nd ad fi (upF fa 0 (cpT 92 (fa 12) (fa 0)))) (by omega) (fun i hi => by
      have e0 : upF fa 0 (cpT i (fa 12) (fa 0)) 12 = fa 12 := upF_n (by decide)
      simp only [fX8_laysBack_b0, rg0 hL, rg12 hL, Option.bind_some, if_neg (show ¬ (92 : Int32) ≤ nI i from nI_ge (b := 92) hi (by omega)), rl12 hL hi, rs0 hL (show i < 3092 by omega), upF_s, upF_2, e0, ixp1, cpT_s]) (by
      simp only [fX8_laysBack_b0, if_pos (show (92 : Int32) ≤ nI 92 from Int32.le_refl _)])
    rw [cpT_0, upF_id] at this
    exact this
  unfold fX8_laysBack
  rw [e]
  rfl
theorem R_setAside (hL : Lay nd ad KR) {k l : Nat} (hk : k = 0 ∨ k = 1 ∨ k = 2) (hl : l = 0 ∨ l = 1 ∨ l = 2) (hne : k ≠ l) : fX8_setAside (ad 31) (ad k) (ad l) (MR nd ad fi fa) = some (MR nd ad fi (upF fa l (cpT 2892 (fa k) (fa l)))) := by
  have ak : k ∈ arrR := by rcases hk with rfl | rfl | rfl <;> decide
  have al : l ∈ arrR := by rcases hl with rfl | rfl | rfl <;> decide
  have lk : lenR k = 3092 := by rcases hk with rfl | rfl | rfl <;> rfl
  have ll : lenR l = 3092 := by rcases hl with rfl | rfl | rfl <;> rfl
  have e : loopF (fX8_setAside_b0 (ad k) (ad l)) bigN ((0 : Int32), MR nd ad fi fa) = some (MR nd ad fi (upF fa l (cpT 2892 (fa k) (fa l)))) := by
    have := loop_for (b := fX8_setAside_b0 (ad k) (ad l)) (fun i => (nI i, MR nd ad fi (upF fa l (cpT i (fa k) (fa l))))) 2892 (MR nd ad fi (upF fa l (cpT 2892 (fa k) (fa l)))) (by omega) (fun i hi => by
      have e0 : upF fa l (cpT i (fa k) (fa l)) k = fa k := upF_n hne
      simp only [fX8_setAside_b0, if_neg (show ¬ (2892 : Int32) ≤ nI i from nI_ge (b := 2892) hi (by omega)), rld hL ak (show i < lenR k by omega), rst hL al (show i < lenR l by omega), Option.bind_some, upF_s, upF_2, e0, ixp1, cpT_s]) (by
      simp only [fX8_setAside_b0, if_pos (show (2892 : Int32) ≤ nI 2892 from Int32.le_refl _)])
    rw [cpT_0, upF_id] at this
    exact this
  unfold fX8_setAside
  rw [e]
  rfl
theorem R_fine (hL : Lay nd ad KR) (hw : Wf (fa 0)) {i : Nat} (hi : i < nt (fa 0 0)) : ∃ fb, fX8_fine (ad 31) (nI i) (MR nd ad fi fa) = some (fnS (fa 0) i, MR nd ad fi fb) ∧ Sc fa fb := by
  obtain ⟨n, h1, h2, h3⟩ := hw.n0
  have hc : fX8_isChild (ad 31) (nI i) (MR nd ad fi fa) = some true := by
    rw [R_isChild hL, h1, show nI n - 1 = nI (n - 1) from pk_sub (b := 1) (by omega)]
    simp only [Option.some.injEq, decide_eq_true_eq]
    exact ⟨nI_pos' (by omega), nI_le (by omega) (by omega)⟩
  unfold fX8_fine fnS
  simp only [rcv hL, hc, Option.bind_some, if_true, R_counts hL hw, R_own1 hL (show i < 1000 by omega)]
  cases hl : lawS (fa 0) 2 with
  | none => exact ⟨fa, by rw [show oI none = -1 from rfl, if_neg (by decide)], Sc.rf⟩
  | some t =>
    obtain ⟨ht, ht2, hkk⟩ := lawS_lt hw hl
    have e1 : ∀ g, upF fa 25 g 0 = fa 0 := fun g => upF_n (by decide)
    rw [show oI (some t) = nI t from rfl, if_pos (nI_pos' (by omega)), show (97 : Int32) = nI 97 from rfl]
    simp only [rg25 hL, Option.bind_some]
    rw [rs25 hL (by omega)]
    simp only [rg25 hL, rg0 hL, rk4 hL, Option.bind_some, e1]
    rw [show (112 : Int32) = nI 112 from rfl, rs25 hL (by omega), upF_2, upF_s]
    obtain ⟨p, hp⟩ := R_worked (fi := fi) (fa := upF fa 25 (upd (upd (fa 25) 97 (fa 0 (13 + 3 * i))) 112 (fa 0 4))) hL ht (by rw [e1]; exact hw.tx ht2) (nmS (fa 0 (92 + 200 * t)) (fa 0 (13 + 3 * i)) (fa 0 4) 0) (by
      rw [e1, upF_s, hkk]
      intro v hv
      rcases hv.2.2 rfl with rfl | rfl
      · rfl
      · rfl)
    simp only [rcv hL, Option.bind_some, hp, e1]
    exact ⟨_, rfl, Sc.u25.tr Sc.u26⟩
end RF
