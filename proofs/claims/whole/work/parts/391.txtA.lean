/-! A NEW TEXT -/
section TA
variable {nT B : Nat} {nd nd2 : Nat → Option Nat} {c e : Nat → pE} {ad ad2 tx : Nat → Nat} {fi fj : Nat → Int32} {fa fb fc : Nat → Nat → Int32} {s u : Nat → Int32}
theorem TxOK.e2 {t : Nat} (hu : ∀ j, 92 + 200 * t ≤ j → j < 292 + 200 * t → u j = s j) (h : TxOK s t) : TxOK u t := by
  obtain ⟨h1, ⟨n, h2, h3⟩, h4, h5⟩ := h
  have hc : cnS u t = cnS s t := by unfold cnS; rw [hu _ (by omega) (by omega)]
  have hn : cnS s t = n := by unfold cnS; rw [h2]; exact nt_nI (by omega)
  have hd : ∀ k, k ≤ n → dpS u t k = dpS s t k := by
    intro k
    induction k with
    | zero => intro _; rfl
    | succ k ih =>
      intro hk
      rw [dpS_s, dpS_s, ih (by omega)]
      unfold whS vlS
      rw [hu _ (by omega) (by omega), hu _ (by omega) (by omega)]
  refine ⟨by rw [hu _ (by omega) (by omega)]; exact h1, ⟨n, by rw [hu _ (by omega) (by omega)]; exact h2, h3⟩, fun k hk => ?_, by rw [hc, hd _ (by omega)]; exact h5⟩
  rw [hc] at hk
  have := h4 k hk
  unfold stOK whS vlS at this ⊢
  rw [hu _ (by omega) (by omega), hu _ (by omega) (by omega), hu _ (by omega) (by omega), hd _ (by omega)]
  exact this
theorem TextOK.e2 {x t : Nat} (hX : TxOK s t) (hu : ∀ j, 92 + 200 * t ≤ j → j < 292 + 200 * t → u j = s j) (h : TextOK c ad x s t) : TextOK c ad x u t := by
  obtain ⟨-, ⟨n, h2, h3⟩, -⟩ := hX
  have hc : cnS u t = cnS s t := by unfold cnS; rw [hu _ (by omega) (by omega)]
  have hn : cnS s t = n := by unfold cnS; rw [h2]; exact nt_nI (by omega)
  obtain ⟨a1, ⟨g, a2, a3⟩, p, a4⟩ := h
  refine ⟨by rw [hu _ (by omega) (by omega), hu _ (by omega) (by omega)]; exact a1, ⟨g, by rw [hc]; exact a2, fun k hk => ?_⟩, p, by rw [hc]; exact a4⟩
  rw [hc] at hk
  unfold whS vlS
  rw [hu _ (by omega) (by omega), hu _ (by omega) (by omega), hu _ (by omega) (by omega)]
  exact a3 k hk
/-- rows that agree but for how many texts there are, and behind the texts -/
theorem Wf.e2 (w : Wf s) {n : Nat} (h3 : u 3 = nI n ∧ n ≤ 14) (hu : ∀ j, j < 92 + 200 * nt (s 3) → j ≠ 3 → u j = s j) (hx : ∀ t, t < n → TxOK u t) : Wf u := by
  obtain ⟨n0, p1, p2, p3⟩ := w.n0
  obtain ⟨n1, q1, q2, q3⟩ := w.n1
  obtain ⟨n2, r1, r2, r3⟩ := w.n2
  obtain ⟨a0, a1, a2, a3, a4, a5, a6, a7, a8, a9, a10, a11⟩ := w
  refine ⟨by rw [hu _ (by omega) (by omega)]; exact a0, by rw [hu _ (by omega) (by omega)]; exact a1, by rw [hu _ (by omega) (by omega)]; exact a2, ⟨n, h3⟩, by rw [hu _ (by omega) (by omega)]; exact a4, by rw [hu _ (by omega) (by omega)]; exact a5, by rw [hu 6 (by omega) (by omega), hu 0 (by omega) (by omega)]; exact a6, by rw [hu _ (by omega) (by omega)]; exact a7, ?_, ?_, ?_, ?_⟩
  · rw [hu 0 (by omega) (by omega)]
    intro c hc
    rw [hu _ (by omega) (by omega), hu _ (by omega) (by omega), hu _ (by omega) (by omega)]
    exact a8 c hc
  · rw [hu 1 (by omega) (by omega)]
    intro c hc
    rw [hu _ (by omega) (by omega), hu _ (by omega) (by omega), hu _ (by omega) (by omega)]
    exact a9 c hc
  · rw [hu 2 (by omega) (by omega)]
    intro c hc
    rw [hu _ (by omega) (by omega)]
    exact a10 c hc
  · rw [h3.1]
    intro t ht
    rw [nt_nI (by omega)] at ht
    exact hx t ht
theorem RingOK.e2 (w : Wf s) (hu : ∀ j, j < 92 + 200 * nt (s 3) → u j = s j) (h : RingOK nT c ad B s tx) : RingOK nT c ad B u tx := by
  obtain ⟨n0, p1, p2, p3⟩ := w.n0
  obtain ⟨n1, q1, q2, q3⟩ := w.n1
  obtain ⟨n2, r1, r2, r3⟩ := w.n2
  have er : ringF ad B u = ringF ad B s := by
    unfold ringF
    rw [hu 0 (by omega), hu 1 (by omega), hu 2 (by omega), hu 3 (by omega), hu 4 (by omega), hu 5 (by omega), hu 6 (by omega), hu 7 (by omega), hu 8 (by omega), hu 9 (by omega), hu 10 (by omega), hu 11 (by omega)]
  obtain ⟨a0, a1, ⟨g2, a2, a2'⟩, a3, ⟨g4, a4, a4'⟩, ⟨g5, a5, a5'⟩, a6, a7, a8⟩ := h
  refine ⟨by rw [er]; exact a0, a1, ⟨g2, a2, ?_⟩, a3, ⟨g4, a4, ?_⟩, ⟨g5, a5, fun k hk => ?_⟩, a6, fun i hi => ?_, fun i hi => ?_⟩
  · rw [hu 2 (by omega)]
    intro i hi
    rw [hu _ (by omega)]
    exact a2' i hi
  · rw [hu 3 (by omega)]
    intro t ht
    exact ⟨(a4' t ht).1, (a4' t ht).2.1, TextOK.e2 (w.tx ht) (fun j h1 h2 => hu j (by omega)) (a4' t ht).2.2⟩
  · have : lawS u (nI k) = lawS s (nI k) := by
      unfold lawS
      rw [hu 3 (by omega)]
      exact cnsF_cg (fun t ht => hu _ (by omega))
    rw [this]
    exact a5' k hk
  · obtain ⟨x, y, z, b1, b2⟩ := a7 i hi
    refine ⟨x, y, z, b1, ?_⟩
    rw [hu 0 (by omega)]
    intro h9
    rw [hu _ (by omega), hu _ (by omega), hu _ (by omega)]
    exact b2 h9
  · obtain ⟨x, y, z, b1, b2⟩ := a8 i hi
    refine ⟨x, y, z, b1, ?_⟩
    rw [hu 1 (by omega)]
    intro h9
    rw [hu _ (by omega), hu _ (by omega), hu _ (by omega)]
    exact b2 h9
/-- the reader has read, the row behind the texts is written on: both still stand together -/
theorem Inv.red (h : Inv nT c ad fi fa) {t f v ft ky lv sc : Int32} {p : Nat → Int32} (h14 : fj 14 = 0) (hk : ∀ k, ¬ (14 ≤ k ∧ k ≤ 24) → fj k = fi k) (hb : ∀ k, k ≠ 0 → fb k = fa k) (h0 : ∀ j, j < 92 + 200 * nt (fa 0 3) → fb 0 j = fa 0 j) : Inv nT (rdC ad c 0 t f v ft ky lv sc p) ad fj fb ∧ Wf (fb 0) ∧ nt (fb 0 4) ≤ 9999 := by
  obtain ⟨-, ⟨g, r2, -⟩, -⟩ := h.1.2.1
  have i1 : Inv nT (rdC ad c 0 t f v ft ky lv sc p) ad fj fa := by
    refine h.rd (fun j hj => ?_) (hk 3 (by omega)) (hk 29 (by omega)) (fun _ _ => rfl) ⟨⟨t, f, v, ft, ky, lv, sc, ?_⟩, ⟨g, ?_, fun j hj => ?_⟩, ⟨p, ?_⟩, 0, h14, by omega⟩
    · unfold rdC; rw [upC_n (by omega), upC_n (by omega)]
    · rw [h14]; exact upC_s
    · unfold rdC; rw [upC_n (by omega), upC_n (by omega)]; exact r2
    · rw [h14] at hj; exact absurd hj (Nat.not_lt_zero j)
    · unfold rdC; rw [upC_n (by omega), upC_s]
  obtain ⟨tx, a1, a2, a3⟩ := i1.n
  have w2 : Wf (fb 0) := by
    obtain ⟨n, n1, n2, n3⟩ := a2.n3
    refine a2.e2 (n := n) ⟨by rw [h0 3 (by omega)]; exact n1, n2⟩ (fun j h1 _ => h0 j h1) (fun t ht => (a2.tx (by omega)).e2 (fun j h1 h2 => h0 j (by omega)))
  have w4 : nt (fb 0 4) ≤ 9999 := by rw [h0 4 (by omega)]; exact a3
  exact ⟨i1.now ChB.rf (a1.e2 a2 h0) w2 w4 (fun k hk => hb k (by omega)), w2, w4⟩
theorem RingOK.gr {ad' : Nat → Nat} (hB : isB B) (ha : ∀ k, KC nT k → ad' k = ad k) (hc : ∀ k, KC nT k → e k = c k) (h : RingOK nT c ad B s tx) : RingOK (nT + 1) e ad' B s tx := by
  obtain ⟨a0, ⟨g1, a1, b1⟩, a2, ⟨g3, a3, b3⟩, ⟨g4, a4, a4'⟩, a5, a6, a7, a8⟩ := h
  have er : ringF ad' B s = ringF ad B s := by
    unfold ringF
    rw [ha _ (KC_B hB (i := 1) (by omega)), ha _ (KC_B hB (i := 2) (by omega)), ha _ (KC_B hB (i := 3) (by omega)), ha _ (KC_B hB (i := 4) (by omega)), ha _ (KC_B hB (i := 5) (by omega)), ha _ (KC_B hB (i := 6) (by omega))]
  refine ⟨by rw [hc _ (KC_B0 hB), er]; exact a0, ⟨g1, by rw [hc _ (KC_B hB (by omega))]; exact a1, fun i hi => by rw [ha _ (KC_ch hB hi)]; exact b1 i hi⟩, by rw [hc _ (KC_B hB (by omega))]; exact a2, ⟨g3, by rw [hc _ (KC_B hB (by omega))]; exact a3, fun i hi => by rw [ha _ (KC_sp hB hi)]; exact b3 i hi⟩, ⟨g4, by rw [hc _ (KC_B hB (by omega))]; exact a4, fun t ht => ?_⟩, by rw [hc _ (KC_B hB (by omega))]; exact a5, by rw [hc _ (KC_B hB (by omega))]; exact a6, fun i hi => by rw [hc _ (KC_ch hB hi)]; exact a7 i hi, fun i hi => by rw [hc _ (KC_sp hB hi)]; exact a8 i hi⟩
  obtain ⟨t1, t2, t3, t4, t5⟩ := a4' t ht
  have kx : KC nT (1000 + 3 * tx t) := KC_tx (i := 0) t2 (by omega)
  refine ⟨by rw [ha _ kx]; exact t1, by omega, ?_, ?_, ?_⟩
  · rw [hc _ kx, ha _ (KC_tx t2 (i := 1) (by omega)), ha _ (KC_tx t2 (i := 2) (by omega))]; exact t3
  · rw [hc _ (KC_tx t2 (by omega))]; exact t4
  · rw [hc _ (KC_tx t2 (by omega))]; exact t5
theorem Inv.gr {ad' : Nat → Nat} (ha : ∀ k, KC nT k → ad' k = ad k) (hc : ∀ k, KC nT k → e k = c k) (h : Inv nT c ad fi fa) : Inv (nT + 1) e ad' fi fa := by
  obtain ⟨⟨h1, ⟨⟨t, f, u, ft, ky, lv, sc, r1⟩, ⟨g, r2, r2'⟩, ⟨g', r3⟩, r4⟩, ⟨⟨g5, s1, s1'⟩, s2⟩, ⟨⟨g6, s3, s3'⟩, s4⟩, w1, w2⟩, ⟨tx, n1, n2, n3⟩, ⟨s5, t5, h5⟩, s6, t6, h6, h7⟩ := h
  refine ⟨⟨?_, ⟨⟨t, f, u, ft, ky, lv, sc, ?_⟩, ⟨g, ?_, r2'⟩, ⟨g', ?_⟩, r4⟩, ⟨⟨g5, ?_, fun k hk => ?_⟩, fun k hk => ?_⟩, ⟨⟨g6, ?_, fun k hk => ?_⟩, fun k hk => ?_⟩, ?_, w2⟩, ⟨tx, n1.gr B1 ha hc, n2, n3⟩, ⟨s5, t5, h5.gr B2' ha hc⟩, s6, t6, h6.gr B3 ha hc, h7⟩
  · rw [hc 0 (by unfold KC; omega), h1]
    unfold objF
    rw [ha 100 (by unfold KC; omega), ha 200 (by unfold KC; omega), ha 300 (by unfold KC; omega), ha 400 (by unfold KC; omega), ha 410 (by unfold KC; omega), ha 440 (by unfold KC; omega), ha 490 (by unfold KC; omega)]
  · rw [hc 400 (by unfold KC; omega), r1, ha 401 (by unfold KC; omega), ha 402 (by unfold KC; omega)]
  · rw [hc 401 (by unfold KC; omega)]; exact r2
  · rw [hc 402 (by unfold KC; omega)]; exact r3
  · rw [hc 410 (by unfold KC; omega)]; exact s1
  · rw [ha _ (by unfold KC; omega)]; exact s1' k hk
  · unfold SHok1
    rw [hc _ (by unfold KC; omega), hc _ (by unfold KC; omega), ha _ (by unfold KC; omega)]
    exact s2 k hk
  · rw [hc 440 (by unfold KC; omega)]; exact s3
  · rw [ha _ (by unfold KC; omega)]; exact s3' k hk
  · unfold SLok1
    rw [hc (450 + k) (by unfold KC; omega), hc (460 + k) (by unfold KC; omega), hc (470 + k) (by unfold KC; omega), hc (480 + k) (by unfold KC; omega), ha _ (by unfold KC; omega), ha _ (by unfold KC; omega), ha _ (by unfold KC; omega)]
    exact s4 k hk
  · rw [hc 490 (by unfold KC; omega)]; exact w1
theorem dpB_S (n : Nat) : ∀ k, dpB s (96 + 200 * n) k = dpS s n k := by
  intro k
  induction k with
  | zero => rfl
  | succ k ih =>
    rw [dpB_s, dpS_s, ih]
    unfold whS vlS
    rw [show 96 + 200 * n + 2 * k + 1 = 97 + 200 * n + 2 * k by omega]
def adT (s : Nat → Int32) (n : Nat) (ky lv sg : Int32) : Nat → Int32 := upd (upd (upd (upd s (92 + 200 * n) ky) (93 + 200 * n) lv) (94 + 200 * n) sg) 3 (nI (n + 1))
theorem adT_lo {n : Nat} {ky lv sg : Int32} {j : Nat} (h : j < 92 + 200 * n) (h3 : j ≠ 3) : adT s n ky lv sg j = s j := by
  unfold adT; rw [upd_n (by omega), upd_n (by omega), upd_n (by omega), upd_n (by omega)]
theorem adT_hi {n : Nat} {ky lv sg : Int32} {j : Nat} (h : 95 + 200 * n ≤ j) : adT s n ky lv sg j = s j := by
  unfold adT; rw [upd_n (by omega), upd_n (by omega), upd_n (by omega), upd_n (by omega)]
theorem adT_3 {n : Nat} {ky lv sg : Int32} : adT s n ky lv sg 3 = nI (n + 1) := upd_s
theorem adT_ky {n : Nat} {ky lv sg : Int32} : adT s n ky lv sg (92 + 200 * n) = ky := by
  unfold adT; rw [upd_n (by omega), upd_n (by omega), upd_n (by omega), upd_s]
theorem adT_lv {n : Nat} {ky lv sg : Int32} : adT s n ky lv sg (93 + 200 * n) = lv := by
  unfold adT; rw [upd_n (by omega), upd_n (by omega), upd_s]
theorem adT_sg {n : Nat} {ky lv sg : Int32} : adT s n ky lv sg (94 + 200 * n) = sg := by
  unfold adT; rw [upd_n (by omega), upd_s]
theorem TxOK.new {n κ σ : Nat} {lv : Int32} (hκ : κ < 3) (hσ : σ ≤ 92) (h1 : ∀ k, k < σ → stB s (96 + 200 * n) (nI κ) k) (h2 : dpB s (96 + 200 * n) σ = 1) : TxOK (adT s n (nI κ) lv (nI σ)) n := by
  have hd : ∀ k, dpS (adT s n (nI κ) lv (nI σ)) n k = dpB s (96 + 200 * n) k := by
    intro k
    rw [← dpB_S]
    exact dpB_cg (fun j a1 a2 => adT_hi (by omega))
  have hc : cnS (adT s n (nI κ) lv (nI σ)) n = σ := by unfold cnS; rw [adT_sg]; exact nt_nI (by omega)
  refine ⟨?_, ⟨σ, adT_sg, by omega⟩, fun k hk => ?_, by rw [hc, hd]; exact h2⟩
  · rw [adT_ky]
    rcases (show κ = 0 ∨ κ = 1 ∨ κ = 2 by omega) with e | e | e <;> subst e <;> simp [nI] <;> decide
  · rw [hc] at hk
    have := h1 k hk
    unfold stB at this
    unfold stOK whS vlS
    rw [hd, adT_ky, adT_hi (by omega), adT_hi (by omega), show 97 + 200 * n + 2 * k = 96 + 200 * n + 2 * k + 1 by omega]
    exact this
end TA
