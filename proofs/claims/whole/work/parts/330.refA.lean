section RA
variable {nd : Nat → Option Nat} {ad : Nat → Nat} {fi : Nat → Int32} {fa : Nat → Nat → Int32}
theorem rk0 (hL : Lay nd ad KR) : ldI (MR nd ad fi fa) (ad 0) (0 : Int32) = some (fa 0 0) := rl0 (j := 0) hL (by decide)
theorem wk0 (hL : Lay nd ad KR) {v : Int32} : stI (MR nd ad fi fa) (ad 0) (0 : Int32) v = some (MR nd ad fi (upF fa 0 (upd (fa 0) 0 v))) := rs0 (j := 0) hL (by decide)
theorem rk1 (hL : Lay nd ad KR) : ldI (MR nd ad fi fa) (ad 0) (1 : Int32) = some (fa 0 1) := rl0 (j := 1) hL (by decide)
theorem wk1 (hL : Lay nd ad KR) {v : Int32} : stI (MR nd ad fi fa) (ad 0) (1 : Int32) v = some (MR nd ad fi (upF fa 0 (upd (fa 0) 1 v))) := rs0 (j := 1) hL (by decide)
theorem rk2 (hL : Lay nd ad KR) : ldI (MR nd ad fi fa) (ad 0) (2 : Int32) = some (fa 0 2) := rl0 (j := 2) hL (by decide)
theorem wk2 (hL : Lay nd ad KR) {v : Int32} : stI (MR nd ad fi fa) (ad 0) (2 : Int32) v = some (MR nd ad fi (upF fa 0 (upd (fa 0) 2 v))) := rs0 (j := 2) hL (by decide)
theorem rk3 (hL : Lay nd ad KR) : ldI (MR nd ad fi fa) (ad 0) (3 : Int32) = some (fa 0 3) := rl0 (j := 3) hL (by decide)
theorem wk3 (hL : Lay nd ad KR) {v : Int32} : stI (MR nd ad fi fa) (ad 0) (3 : Int32) v = some (MR nd ad fi (upF fa 0 (upd (fa 0) 3 v))) := rs0 (j := 3) hL (by decide)
theorem rk4 (hL : Lay nd ad KR) : ldI (MR nd ad fi fa) (ad 0) (4 : Int32) = some (fa 0 4) := rl0 (j := 4) hL (by decide)
theorem wk4 (hL : Lay nd ad KR) {v : Int32} : stI (MR nd ad fi fa) (ad 0) (4 : Int32) v = some (MR nd ad fi (upF fa 0 (upd (fa 0) 4 v))) := rs0 (j := 4) hL (by decide)
theorem rk5 (hL : Lay nd ad KR) : ldI (MR nd ad fi fa) (ad 0) (5 : Int32) = some (fa 0 5) := rl0 (j := 5) hL (by decide)
theorem wk5 (hL : Lay nd ad KR) {v : Int32} : stI (MR nd ad fi fa) (ad 0) (5 : Int32) v = some (MR nd ad fi (upF fa 0 (upd (fa 0) 5 v))) := rs0 (j := 5) hL (by decide)
theorem rk6 (hL : Lay nd ad KR) : ldI (MR nd ad fi fa) (ad 0) (6 : Int32) = some (fa 0 6) := rl0 (j := 6) hL (by decide)
theorem wk6 (hL : Lay nd ad KR) {v : Int32} : stI (MR nd ad fi fa) (ad 0) (6 : Int32) v = some (MR nd ad fi (upF fa 0 (upd (fa 0) 6 v))) := rs0 (j := 6) hL (by decide)
theorem rk7 (hL : Lay nd ad KR) : ldI (MR nd ad fi fa) (ad 0) (7 : Int32) = some (fa 0 7) := rl0 (j := 7) hL (by decide)
theorem wk7 (hL : Lay nd ad KR) {v : Int32} : stI (MR nd ad fi fa) (ad 0) (7 : Int32) v = some (MR nd ad fi (upF fa 0 (upd (fa 0) 7 v))) := rs0 (j := 7) hL (by decide)
theorem rk8 (hL : Lay nd ad KR) : ldI (MR nd ad fi fa) (ad 0) (8 : Int32) = some (fa 0 8) := rl0 (j := 8) hL (by decide)
theorem wk8 (hL : Lay nd ad KR) {v : Int32} : stI (MR nd ad fi fa) (ad 0) (8 : Int32) v = some (MR nd ad fi (upF fa 0 (upd (fa 0) 8 v))) := rs0 (j := 8) hL (by decide)
theorem rk9 (hL : Lay nd ad KR) : ldI (MR nd ad fi fa) (ad 0) (9 : Int32) = some (fa 0 9) := rl0 (j := 9) hL (by decide)
theorem wk9 (hL : Lay nd ad KR) {v : Int32} : stI (MR nd ad fi fa) (ad 0) (9 : Int32) v = some (MR nd ad fi (upF fa 0 (upd (fa 0) 9 v))) := rs0 (j := 9) hL (by decide)
theorem rk10 (hL : Lay nd ad KR) : ldI (MR nd ad fi fa) (ad 0) (10 : Int32) = some (fa 0 10) := rl0 (j := 10) hL (by decide)
theorem wk10 (hL : Lay nd ad KR) {v : Int32} : stI (MR nd ad fi fa) (ad 0) (10 : Int32) v = some (MR nd ad fi (upF fa 0 (upd (fa 0) 10 v))) := rs0 (j := 10) hL (by decide)
theorem rk11 (hL : Lay nd ad KR) : ldI (MR nd ad fi fa) (ad 0) (11 : Int32) = some (fa 0 11) := rl0 (j := 11) hL (by decide)
theorem wk11 (hL : Lay nd ad KR) {v : Int32} : stI (MR nd ad fi fa) (ad 0) (11 : Int32) v = some (MR nd ad fi (upF fa 0 (upd (fa 0) 11 v))) := rs0 (j := 11) hL (by decide)
theorem ix12 (c : Nat) : (12 : Int32) + (3 : Int32) * nI c = nI (12 + 3 * c) := by rw [lit32, lit32, pk_mul, nI_add]
theorem ix42 (c : Nat) : (42 : Int32) + (3 : Int32) * nI c = nI (42 + 3 * c) := by rw [lit32, lit32, pk_mul, nI_add]
theorem ix72 (c : Nat) : (72 : Int32) + nI c = nI (72 + c) := by rw [lit32, nI_add]
theorem ix92 (c : Nat) : (92 : Int32) + (200 : Int32) * nI c = nI (92 + 200 * c) := by rw [lit32, lit32, pk_mul, nI_add]
theorem ixp1 (c : Nat) : nI c + (1 : Int32) = nI (c + 1) := nI_1 c
theorem ixp2 (c : Nat) : nI c + (2 : Int32) = nI (c + 2) := by rw [lit32, nI_add]
theorem ixp4 (c : Nat) : nI c + (4 : Int32) = nI (c + 4) := by rw [lit32, nI_add]
theorem ix2m (c : Nat) : (2 : Int32) * nI c = nI (2 * c) := by rw [lit32, pk_mul]
theorem R_own0 (hL : Lay nd ad KR) {c : Nat} (hc : c < 1000) : fX8_own (ad 31) (nI c) 0 (MR nd ad fi fa) = some (fa 0 (12 + 3 * c)) := by
  unfold fX8_own
  rw [rg0 hL, Option.bind_some, ix12, show nI (12 + 3 * c) + 0 = nI (12 + 3 * c) from nI_add (12 + 3 * c) 0, rl0 hL (by omega)]
  rfl
theorem R_own1 (hL : Lay nd ad KR) {c : Nat} (hc : c < 1000) : fX8_own (ad 31) (nI c) 1 (MR nd ad fi fa) = some (fa 0 (13 + 3 * c)) := by
  unfold fX8_own
  rw [rg0 hL, Option.bind_some, ix12, ixp1, rl0 hL (by omega), show 12 + 3 * c + 1 = 13 + 3 * c by omega]
  rfl
theorem R_own2 (hL : Lay nd ad KR) {c : Nat} (hc : c < 1000) : fX8_own (ad 31) (nI c) 2 (MR nd ad fi fa) = some (fa 0 (14 + 3 * c)) := by
  unfold fX8_own
  rw [rg0 hL, Option.bind_some, ix12, ixp2, rl0 hL (by omega), show 12 + 3 * c + 2 = 14 + 3 * c by omega]
  rfl
theorem R_of0 (hL : Lay nd ad KR) {c : Nat} (hc : c < 1000) : fX8_of (ad 31) (nI c) 0 (MR nd ad fi fa) = some (fa 0 (42 + 3 * c)) := by
  unfold fX8_of
  rw [rg0 hL, Option.bind_some, ix42, show nI (42 + 3 * c) + 0 = nI (42 + 3 * c) from nI_add (42 + 3 * c) 0, rl0 hL (by omega)]
  rfl
theorem R_of1 (hL : Lay nd ad KR) {c : Nat} (hc : c < 1000) : fX8_of (ad 31) (nI c) 1 (MR nd ad fi fa) = some (fa 0 (43 + 3 * c)) := by
  unfold fX8_of
  rw [rg0 hL, Option.bind_some, ix42, ixp1, rl0 hL (by omega), show 42 + 3 * c + 1 = 43 + 3 * c by omega]
  rfl
theorem R_of2 (hL : Lay nd ad KR) {c : Nat} (hc : c < 1000) : fX8_of (ad 31) (nI c) 2 (MR nd ad fi fa) = some (fa 0 (44 + 3 * c)) := by
  unfold fX8_of
  rw [rg0 hL, Option.bind_some, ix42, ixp2, rl0 hL (by omega), show 42 + 3 * c + 2 = 44 + 3 * c by omega]
  rfl
theorem k64_sub (x : Int32) (y : Int32) : (x - y).toInt64 = (x - y).toInt64 := rfl
theorem R_isChild (hL : Lay nd ad KR) (x : Int32) : fX8_isChild (ad 31) x (MR nd ad fi fa) = some (decide (0 ≤ x ∧ x ≤ fa 0 0 - 1)) := by
  unfold fX8_isChild
  rw [rg0 hL, Option.bind_some, rk0 hL, Option.bind_some, k64_0, isIn_32]
  rfl
theorem R_isStop (hL : Lay nd ad KR) (x : Int32) : fX8_isStop (ad 31) x (MR nd ad fi fa) = some (decide (0 ≤ x ∧ x ≤ fa 0 1 - 1)) := by
  unfold fX8_isStop
  rw [rg0 hL, Option.bind_some, rk1 hL, Option.bind_some, k64_0, isIn_32]
  rfl
theorem R_isText (hL : Lay nd ad KR) (x : Int32) : fX8_isText (ad 31) x (MR nd ad fi fa) = some (decide (0 ≤ x ∧ x ≤ fa 0 3 - 1)) := by
  unfold fX8_isText
  rw [rg0 hL, Option.bind_some, rk3 hL, Option.bind_some, k64_0, isIn_32]
  rfl
theorem R_sortNow (hL : Lay nd ad KR) (hw : Wf (fa 0)) : fX8_sortNow (ad 31) (MR nd ad fi fa) = some (sortS (fa 0)) := by
  obtain ⟨n, h1, h2, h3⟩ := hw.n4
  obtain ⟨p, h4, h5, h6⟩ := hw.n2
  unfold fX8_sortNow sortS
  rw [rg0 hL]
  simp only [Option.bind_some, rk4 hL, rk2 hL, h1, h4]
  rw [nt_nI (by omega), nt_nI (by omega)]
  by_cases h : n < p
  · rw [if_neg (nI_ge h (by omega)), if_pos h, ix72, rl0 hL (by omega)]
    rfl
  · rw [if_pos (nI_le (by omega) (by omega)), if_neg h]
theorem R_held (v a b : Int32) (m : Mem) : fX8_held v a b m = some (hld v a b) := by
  unfold fX8_held hld
  split
  · split <;> rfl
  · rfl
theorem R_many (hL : Lay nd ad KR) (hw : Wf (fa 0)) : fX8_many (ad 31) (MR nd ad fi fa) = some (nI (manyS (fa 0))) := by
  obtain ⟨n, h1, h2, h3⟩ := hw.n0
  unfold fX8_many manyS
  have e : loopF (fX8_many_b0 (ad 31) (MR nd ad fi fa)) bigN ((0 : Int32), (0 : Int32)) = some (nI (cntS (fa 0) n)) := by
    refine loop_for (fun i => (nI (cntS (fa 0) i), nI i)) n _ (by omega) ?_ ?_
    · intro i hi
      simp only [fX8_many_b0, rg0 hL, rk0 hL, rcv hL, Option.bind_some, h1, R_own2 hL (show i < 1000 by omega), ixp1]
      rw [if_neg (nI_ge hi (by omega))]
      have hb := (hw.ch (by omega : i < nt (fa 0 0))).2.2
      have hx : nI (cntS (fa 0) i) + (1 - fa 0 (14 + 3 * i)) = nI (cntS (fa 0) (i + 1)) := by
        rw [cntS_s]
        rcases hb with hb | hb
        · rw [if_pos (inS_t hb), hb]; exact nI_1 (cntS (fa 0) i)
        · rw [if_neg (inS_f (by rw [hb]; decide)), hb]; exact nI_add (cntS (fa 0) i) 0
      rw [hx]
    · simp only [fX8_many_b0, rg0 hL, rk0 hL, Option.bind_some, h1]
      rw [if_pos (nI_le (Nat.le_refl _) (by omega))]
  rw [e, h3]
  rfl
theorem R_on (hL : Lay nd ad KR) (hw : Wf (fa 0)) {c i : Nat} (h0 : 0 < nt (fa 0 0)) (hc : c < 2000) (hi : i < 2000) : fX8_on (ad 31) (nI c) (nI i) (MR nd ad fi fa) = some (nI (onS (fa 0) c i)) := by
  obtain ⟨n, h1, h2, h3⟩ := hw.n0
  rw [h3] at h0
  unfold fX8_on onS
  rw [rg0 hL]
  simp only [Option.bind_some, rk0 hL, rk5 hL, h1]
  rw [nt_nI (by omega)]
  have hm : i % n < n := Nat.mod_lt _ h0
  by_cases hway : fa 0 5 = 1
  · rw [if_pos hway, if_pos hway, nI_add, rmI_nI (by omega) h0 (by omega)]
    rfl
  · rw [if_neg hway, if_neg hway, rmI_nI (by omega) h0 (by omega), Option.bind_some, nI_add, pk_sub (by omega), rmI_nI (by omega) h0 (by omega)]
    rfl
theorem onS_lt {s : Nat → Int32} (h0 : 0 < nt (s 0)) (c i : Nat) : onS s c i < nt (s 0) := by
  unfold onS
  split <;> exact Nat.mod_lt _ h0
theorem nxF_lt {s : Nat → Int32} (h0 : 0 < nt (s 0)) {c : Nat} : ∀ {k i d : Nat}, nxF s c k i = some d → d < nt (s 0) ∧ inS s d = true := by
  intro k
  induction k with
  | zero => intro i d h; cases h
  | succ k ih =>
    intro i d h
    unfold nxF at h
    split at h
    · next hh => cases h; exact ⟨onS_lt h0 c i, hh⟩
    · exact ih h
theorem R_nextOf (hL : Lay nd ad KR) (hw : Wf (fa 0)) {c : Nat} (hc : c < 2000) : fX8_nextOf (ad 31) (nI c) (MR nd ad fi fa) = some (oI (nextS (fa 0) c)) := by
  obtain ⟨n, h1, h2, h3⟩ := hw.n0
  unfold fX8_nextOf nextS
  rw [h3]
  obtain ⟨r, h4, h5⟩ := loop_gen (b := fX8_nextOf_b0 (ad 31) (nI c) (MR nd ad fi fa)) (fun i y => y = nI (i + 1) ∧ nxF (fa 0) c (n - i) (i + 1) = nxF (fa 0) c n 1) (fun r => r = oI (nxF (fa 0) c n 1)) n (by
    rintro i y ⟨rfl, h6⟩ hi
    by_cases hin : i < n
    · have e1 : n - i = (n - (i + 1)) + 1 := by omega
      rw [e1, nxF_s] at h6
      have g0 : ¬ nI n < nI (i + 1) := nI_nlt (by omega) (by omega)
      have hon := onS_lt (s := fa 0) (by omega : 0 < nt (fa 0 0)) c (i + 1)
      simp only [fX8_nextOf_b0, rg0 hL, rk0 hL, rcv hL, Option.bind_some, h1, if_neg g0, R_on hL hw (by omega : 0 < nt (fa 0 0)) hc (by omega : i + 1 < 2000), R_own2 hL (show onS (fa 0) c (i + 1) < 1000 by omega), ixp1]
      by_cases hh : fa 0 (14 + 3 * onS (fa 0) c (i + 1)) = 0
      · refine Or.inl ⟨_, by rw [if_pos hh], ?_⟩
        rw [if_pos (inS_t hh)] at h6
        rw [← h6]; rfl
      · refine Or.inr ⟨hin, _, by rw [if_neg hh], rfl, ?_⟩
        rw [if_neg (inS_f hh)] at h6
        exact h6
    · have e1 : n - i = 0 := by omega
      rw [e1] at h6
      refine Or.inl ⟨-1, ?_, by rw [← h6]; rfl⟩
      have g0 : nI n < nI (i + 1) := nI_lt (by omega) (by omega)
      simp only [fX8_nextOf_b0, rg0 hL, rk0 hL, Option.bind_some, h1, if_pos g0]) bigN 0 1 ⟨rfl, rfl⟩ (Nat.zero_le _) (by rw [bigN_eq]; omega)
  rw [h4, h5]
theorem R_counts (hL : Lay nd ad KR) (hw : Wf (fa 0)) (key : Int32) : fX8_counts (ad 31) key (MR nd ad fi fa) = some (oI (lawS (fa 0) key)) := by
  obtain ⟨n, h1, h2, h3⟩ := hw.n3
  unfold fX8_counts lawS
  have e : loopF (fX8_counts_b0 (ad 31) key (MR nd ad fi fa)) bigN ((-1 : Int32), (0 : Int32)) = some (oI (cnsF (fa 0) key n)) := by
    refine loop_for (fun i => (oI (cnsF (fa 0) key i), nI i)) n _ (by omega) ?_ ?_
    · intro i hi
      simp only [fX8_counts_b0, fX8_textAt, rg0 hL, rk3 hL, rcv hL, Option.bind_some, h1, ix92, ixp1]
      rw [if_neg (nI_ge hi (by omega)), rl0 hL (by omega)]
      simp only [Option.bind_some]
      rw [cnsF_s]
      by_cases hh : fa 0 (92 + 200 * i) = key
      · simp only [if_pos hh]; rfl
      · simp only [if_neg hh]; rfl
    · simp only [fX8_counts_b0, rg0 hL, rk3 hL, Option.bind_some, h1]
      rw [if_pos (nI_le (Nat.le_refl _) (by omega))]
  rw [e, h3]
  rfl
theorem cnsF_lt {s : Nat → Int32} {key : Int32} : ∀ {n t : Nat}, cnsF s key n = some t → t < n ∧ s (92 + 200 * t) = key := by
  intro n
  induction n with
  | zero => intro t h; cases h
  | succ n ih =>
    intro t h
    unfold cnsF at h
    split at h
    · next hh => cases h; exact ⟨by omega, hh⟩
    · obtain ⟨h1, h2⟩ := ih h; exact ⟨by omega, h2⟩
end RA
