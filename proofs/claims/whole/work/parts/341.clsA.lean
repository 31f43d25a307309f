theorem C_within (x a b : Int32) (m : Mem) : fX7_within x a b m = some (decide (a ≤ x ∧ x ≤ b)) := by
  unfold fX7_within
  by_cases h1 : x < a
  · rw [if_pos h1]; simp [Int32.not_le.mpr h1]
  · rw [if_neg h1]
    by_cases h2 : b < x
    · rw [if_pos h2]; simp [Int32.not_le.mpr h2]
    · rw [if_neg h2]; simp [Int32.not_lt.mp h1, Int32.not_lt.mp h2]
theorem C_held {v a b : Int32} (hab : a ≤ b) (m : Mem) : fX7_heldWithin v a b m = some (hld v a b) := by
  unfold fX7_heldWithin fJ9_min_7cf53 fJ9_max_7cf53 hld
  simp only [ite_some, Option.bind_some]
  rw [Int32.le_iff_toInt_le] at hab
  congr 1
  simp only [Int32.lt_iff_toInt_lt, Int32.le_iff_toInt_le]
  (repeat' split) <;> first | rfl | (apply Int32.toInt_inj.mp; omega) | omega
section CF
variable {nT B : Nat} {nd : Nat → Option Nat} {c : Nat → pE} {ad tx : Nat → Nat} {s : Nat → Int32}
theorem C_isChild (hL : Lay nd ad (KC nT)) (hB : isB B) (h : RingOK nT c ad B s tx) (x : Int32) : fX2_isChild (ad B) x (MM nd c) = some (decide (0 ≤ x ∧ x < s 0)) := by
  unfold fX2_isChild
  by_cases h1 : x < 0
  · rw [if_pos h1]; simp [Int32.not_le.mpr h1]
  · rw [if_neg h1, cg_n hL hB h]
    simp only [Option.bind_some]
    by_cases h2 : s 0 ≤ x
    · rw [if_pos h2]; simp [Int32.not_lt.mpr h2]
    · rw [if_neg h2]; simp [Int32.not_lt.mp h1, Int32.not_le.mp h2]
theorem C_isC (hL : Lay nd ad (KC nT)) (hB : isB B) (h : RingOK nT c ad B s tx) (hw : Wf s) {i : Nat} (hi : i < 2 ^ 31) : fX2_isChild (ad B) (nI i) (MM nd c) = some (decide (i < nt (s 0))) := by
  obtain ⟨n, h1, h2, h3⟩ := hw.n0
  rw [C_isChild hL hB h, h1, nt_nI (by omega)]
  congr 1
  simp [nI_pos' hi, nI_ltI hi (show n < 2 ^ 31 by omega)]
theorem C_isIn (hL : Lay nd ad (KC nT)) (hB : isB B) (h : RingOK nT c ad B s tx) (hw : Wf s) {i : Nat} (hi : i < 2 ^ 31) : fX2_isIn (ad B) (nI i) (MM nd c) = some (decide (i < nt (s 0)) && inS s i) := by
  obtain ⟨n, h1, h2, h3⟩ := hw.n0
  unfold fX2_isIn
  simp only [cv_R hL hB h, C_isC hL hB h hw hi, Option.bind_some]
  by_cases hn : i < nt (s 0)
  · rw [if_pos (by simpa using hn), cr_1 hL hB h]
    simp only [Option.bind_some, cl_ch hL hB h (show i < 10 by omega), cc_2 hL hB h (show i < 10 by omega) hn, inS]
    by_cases h0 : s (14 + 3 * i) = 0
    · rw [if_pos h0]; simp [hn, h0]
    · rw [if_neg h0]; simp [h0]
  · rw [if_neg (by simpa using hn)]; simp [hn]
theorem C_inCount (hL : Lay nd ad (KC nT)) (hB : isB B) (h : RingOK nT c ad B s tx) (hw : Wf s) : fX2_inCount (ad B) (MM nd c) = some (nI (manyS s)) := by
  obtain ⟨n, h1, h2, h3⟩ := hw.n0
  unfold fX2_inCount manyS
  have e : loopF (fX2_inCount_b0 (ad B) (MM nd c)) bigN ((0 : Int32), (0 : Int32)) = some (nI (cntS s n)) := by
    refine loop_for (fun i => (nI (cntS s i), nI i)) n _ (by omega) ?_ ?_
    · intro i hi
      simp only [fX2_inCount_b0, cg_n hL hB h, cr_1 hL hB h, Option.bind_some, h1, cl_ch hL hB h (show i < 10 by omega), cc_2 hL hB h (show i < 10 by omega) (by omega), ixp1]
      rw [if_neg (nI_ge hi (by omega))]
      have hb := (hw.ch (by omega : i < nt (s 0))).2.2
      have hx : nI (cntS s i) + (1 - s (14 + 3 * i)) = nI (cntS s (i + 1)) := by
        rw [cntS_s]
        rcases hb with hb | hb
        · rw [if_pos (inS_t hb), hb]; exact nI_1 (cntS s i)
        · rw [if_neg (inS_f (by rw [hb]; decide)), hb]; exact nI_add (cntS s i) 0
      rw [hx]
    · simp only [fX2_inCount_b0, cg_n hL hB h, Option.bind_some, h1]
      rw [if_pos (nI_le (Nat.le_refl _) (by omega))]
  rw [e, h3]
  rfl
theorem C_stepFrom (hL : Lay nd ad (KC nT)) (hB : isB B) (h : RingOK nT c ad B s tx) (hw : Wf s) {i : Nat} (hi : i < nt (s 0)) : fX2_stepFrom (ad B) (nI i) (MM nd c) = some (nI (onS s i 1)) := by
  obtain ⟨n, h1, h2, h3⟩ := hw.n0
  unfold fX2_stepFrom onS
  simp only [cg_5 hL hB h, cg_n hL hB h, Option.bind_some, ite_some, h1, ixp1]
  rw [nt_nI (by omega)]
  rw [h3] at hi
  by_cases hway : s 5 = 1
  · simp only [if_pos hway]
    by_cases hl : i + 1 < n
    · rw [if_pos (nI_lt hl (by omega)), if_pos (nI_pos' (by omega)), Nat.mod_eq_of_lt hl]
    · rw [if_neg (nI_nlt (by omega) (by omega)), show i + 1 = n by omega, Nat.mod_self]; rfl
  · simp only [if_neg hway]
    by_cases hi0 : i = 0
    · subst hi0
      have e1 : nI 0 - 1 = (-1 : Int32) := by decide
      rw [e1, if_pos (Int32.lt_of_lt_of_le (by decide : (-1 : Int32) < 0) (nI_pos' (by omega))), if_neg (by decide), show nI n - 1 = nI (n - 1) from pk_sub (b := 1) (by omega)]
      by_cases hn1 : n = 1
      · subst hn1; rfl
      · rw [Nat.mod_eq_of_lt (show 1 < n by omega), show 0 + n - 1 = n - 1 by omega, Nat.mod_eq_of_lt (by omega)]
    · rw [show nI i - 1 = nI (i - 1) from pk_sub (b := 1) (by omega), if_pos (nI_lt (by omega) (by omega)), if_pos (nI_pos' (by omega)), Nat.mod_eq_of_lt (show 1 < n by omega), show i + n - 1 = (i - 1) + n by omega, Nat.add_mod_right, Nat.mod_eq_of_lt (by omega)]
theorem C_nextOf (hL : Lay nd ad (KC nT)) (hB : isB B) (h : RingOK nT c ad B s tx) (hw : Wf s) {d : Nat} (hd : d < nt (s 0) ∨ nt (s 0) = 0) : fX2_nextOf (ad B) (nI d) (MM nd c) = some (oI (nextS s d)) := by
  obtain ⟨n, h1, h2, h3⟩ := hw.n0
  unfold fX2_nextOf nextS
  rw [h3] at hd ⊢
  obtain ⟨r, h4, h5⟩ := loop_gen (b := fX2_nextOf_b0 (ad B) (MM nd c)) (fun i y => (y = (nI (onS s d i), nI i) ∨ (n = 0 ∧ y = (nI d, nI i))) ∧ nxF s d (n - i) (i + 1) = nxF s d n 1) (fun r => r = oI (nxF s d n 1)) n (by
    rintro i y ⟨hy, h6⟩ hi
    by_cases hin : i < n
    · have hy2 : y = (nI (onS s d i), nI i) := hy.elim (fun z => z) (fun z => absurd z.1 (by omega))
      subst hy2
      rw [show n - i = (n - (i + 1)) + 1 by omega, nxF_s] at h6
      have hon := onS_lt (s := s) (by omega : 0 < nt (s 0)) d i
      have hon2 := onS_lt (s := s) (by omega : 0 < nt (s 0)) d (i + 1)
      have est := C_stepFrom hL hB h hw hon
      rw [onS_on (by omega) (by omega)] at est
      have g0 : ¬ nI n ≤ nI i := nI_ge hin (by omega)
      simp only [fX2_nextOf_b0, cg_n hL hB h, cv_R hL hB h, Option.bind_some, h1, if_neg g0, est, C_isIn hL hB h hw (show onS s d (i + 1) < 2 ^ 31 by omega), ixp1]
      by_cases hh : inS s (onS s d (i + 1)) = true
      · have hon3 := hon2
        rw [h1] at hon3
        refine Or.inl ⟨_, by rw [if_pos (by simp [hon3, hh])], ?_⟩
        rw [if_pos hh] at h6
        rw [← h6]; rfl
      · refine Or.inr ⟨hin, _, by rw [if_neg (by simp [hh])], Or.inl rfl, ?_⟩
        rw [if_neg hh] at h6
        exact h6
    · rw [show n - i = 0 by omega] at h6
      refine Or.inl ⟨-1, ?_, by rw [← h6]; rfl⟩
      have hy2 : ∃ z, y = (z, nI i) := hy.elim (fun z => ⟨_, z⟩) (fun z => ⟨_, z.2⟩)
      obtain ⟨z, rfl⟩ := hy2
      simp only [fX2_nextOf_b0, cg_n hL hB h, Option.bind_some, h1, if_pos (nI_le (show n ≤ i by omega) (show i < 2 ^ 31 by omega))]) bigN 0 (nI d, 0) (by
        refine ⟨?_, rfl⟩
        rcases hd with hd | hd
        · exact Or.inl (by rw [onS_0 (by omega)]; rfl)
        · exact Or.inr ⟨hd, rfl⟩) (Nat.zero_le _) (by rw [bigN_eq]; omega)
  rw [h4, h5]
theorem C_sortNow (hL : Lay nd ad (KC nT)) (hB : isB B) (h : RingOK nT c ad B s tx) (hw : Wf s) : fX2_sortNow (ad B) (MM nd c) = some (sortS s) := by
  obtain ⟨k, h1, h2, h3⟩ := hw.n4
  obtain ⟨p, h4, h5, h6⟩ := hw.n2
  unfold fX2_sortNow sortS
  simp only [cg_4 hL hB h, cg_pn hL hB h, cr_2 hL hB h, Option.bind_some, C_within, h1, h4]
  rw [nt_nI (by omega), nt_nI (by omega)]
  by_cases hk : k < p
  · rw [if_pos (by rw [show nI p - 1 = nI (p - 1) from pk_sub (b := 1) (by omega)]; simp only [decide_eq_true_eq]; exact ⟨nI_pos' (by omega), nI_le (by omega) (by omega)⟩), if_pos hk, cl_pp hL hB h (by omega) (by omega)]
    rfl
  · rw [if_neg, if_neg hk]
    simp only [decide_eq_true_eq]
    rintro ⟨-, z⟩
    rcases Nat.eq_zero_or_pos p with e | e
    · subst e
      exact absurd (Int32.le_trans (nI_pos' (n := k) (by omega)) z) (by decide)
    · rw [show nI p - 1 = nI (p - 1) from pk_sub (b := 1) (by omega), nI_leI (by omega) (by omega)] at z
      omega
theorem C_lawOf (hL : Lay nd ad (KC nT)) (hB : isB B) (h : RingOK nT c ad B s tx) (hw : Wf s) {k : Nat} (hk : k < 3) {kv : Int32} (hkv : kv = nI k) : fX2_lawOf (ad B) kv (MM nd c) = some ((lawS s kv).map (fun t => ad (1000 + 3 * tx t))) := by
  obtain ⟨n, h1, h2, h3⟩ := hw.n3
  subst hkv
  unfold fX2_lawOf
  simp only [cr_5 hL hB h, cl_lw hL hB h hk, cg_tn hL hB h, cr_4 hL hB h, Option.bind_some, C_within, h1]
  cases hl : lawS s (nI k) with
  | none =>
    rw [if_neg (by simp only [decide_eq_true_eq]; rintro ⟨z, -⟩; exact absurd z (by decide))]
    rfl
  | some t =>
    obtain ⟨ht, ht2, -⟩ := lawS_lt hw hl
    rw [show oI (some t) = nI t from rfl, if_pos (by rw [show nI n - 1 = nI (n - 1) from pk_sub (b := 1) (by omega)]; simp only [decide_eq_true_eq]; exact ⟨nI_pos' (by omega), nI_le (by omega) (by omega)⟩), cl_tx hL hB h ht2 ht]
    rfl
theorem C_joined {v : Int32} (hv : v ∈ ([38, 42, 43, 45, 47, 60, 61, 62, 124] : List Int32)) (x y : Int32) (m : Mem) : fX6_joined v x y m = some (jnS v x y) := by
  have e1 : ∀ a b : Int32, (if b ≤ a then some (0 : Int32) else some 1) = some (if a < b then 1 else 0) := by
    intro a b
    by_cases h : a < b
    · rw [if_neg (Int32.not_le.mpr h), if_pos h]
    · rw [if_pos (Int32.not_lt.mp h), if_neg h]
  simp only [List.mem_cons, List.mem_nil_iff, or_false] at hv
  rcases hv with rfl | rfl | rfl | rfl | rfl | rfl | rfl | rfl | rfl
  · show (if x = 0 then some (0 : Int32) else if y = 0 then some 0 else some 1) = some (if x = 0 then 0 else if y = 0 then 0 else 1)
    (repeat' split) <;> rfl
  · rfl
  · rfl
  · rfl
  · show (if y = 0 then some (0 : Int32) else (dvI x y).bind fun x1 => some x1) = some (if y = 0 then 0 else x / y)
    split
    · rfl
    · next h0 => unfold dvI; rw [if_neg h0]; rfl
  · exact e1 x y
  · show (if x = y then some (1 : Int32) else some 0) = some (if x = y then 1 else 0)
    split <;> rfl
  · exact e1 y x
  · show (if x = 0 then (if y = 0 then some (0 : Int32) else some 1) else some 1) = some (if x = 0 then (if y = 0 then 0 else 1) else 1)
    (repeat' split) <;> rfl
end CF
