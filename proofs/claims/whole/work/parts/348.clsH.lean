theorem upC_2 {c : Nat → pE} {k : Nat} {v w : pE} : upC (upC c k v) k w = upC c k w := by
  funext j
  by_cases e : j = k
  · subst e; rw [upC_s, upC_s]
  · rw [upC_n e, upC_n e, upC_n e]
section CM
variable {nT B B2 : Nat} {nd : Nat → Option Nat} {c : Nat → pE} {ad tx : Nat → Nat} {s : Nat → Int32}
theorem C_become0 (hL : Lay nd ad (KC nT)) {k k2 : Nat} (hk : KC nT k) (hk2 : KC nT k2) (hne : k2 ≠ k) {a b d x y z : Int32} (h1 : c k = .inr (0, [.int a, .int b, .int d])) (h2 : c k2 = .inr (0, [.int x, .int y, .int z])) : fX0_become (ad k) (ad k2) (MM nd c) = some (MM nd (upC c k (.inr (0, [.int x, .int y, .int z])))) := by
  unfold fX0_become
  rw [gI_MM (f := 0) hL hk2 h2 rfl]
  simp only [Option.bind_some]
  rw [pI_MM (f := 0) hL hk h1 (by simp)]
  simp only [Option.bind_some]
  rw [gI_MM (f := 1) hL hk2 ((upC_n hne).trans h2) rfl]
  simp only [Option.bind_some]
  rw [pI_MM (f := 1) hL hk upC_s (by simp), upC_2]
  simp only [Option.bind_some]
  rw [gI_MM (f := 2) hL hk2 ((upC_n hne).trans h2) rfl]
  simp only [Option.bind_some]
  rw [pI_MM (f := 2) hL hk upC_s (by simp), upC_2]
  rfl
theorem C_become5 (hL : Lay nd ad (KC nT)) {k k2 : Nat} (hk : KC nT k) (hk2 : KC nT k2) (hne : k2 ≠ k) {a b d x y z : Int32} (h1 : c k = .inr (5, [.int a, .int b, .int d])) (h2 : c k2 = .inr (5, [.int x, .int y, .int z])) : fX5_become (ad k) (ad k2) (MM nd c) = some (MM nd (upC c k (.inr (5, [.int x, .int y, .int z])))) := by
  unfold fX5_become
  rw [gI_MM (f := 0) hL hk2 h2 rfl]
  simp only [Option.bind_some]
  rw [pI_MM (f := 0) hL hk h1 (by simp)]
  simp only [Option.bind_some]
  rw [gI_MM (f := 1) hL hk2 ((upC_n hne).trans h2) rfl]
  simp only [Option.bind_some]
  rw [pI_MM (f := 1) hL hk upC_s (by simp), upC_2]
  simp only [Option.bind_some]
  rw [gI_MM (f := 2) hL hk2 ((upC_n hne).trans h2) rfl]
  simp only [Option.bind_some]
  rw [pI_MM (f := 2) hL hk upC_s (by simp), upC_2]
  rfl
/-- the source still stands where only ring B has changed -/
theorem src_ok (hB : isB B) (hB2 : isB B2) (hne : B ≠ B2) (h : RingOK nT c ad B2 s tx) {e : Nat → pE} (he : ∀ k, ¬ ownB B k → e k = c k) : RingOK nT e ad B2 s tx := RingOK.cg (fun k hk => he k (by unfold ownB; unfold isB at hB hB2; omega)) h
theorem bec_0 (hL : Lay nd ad (KC nT)) (hB : isB B) (hB2 : isB B2) (hne : B ≠ B2) (h : RingOK nT c ad B2 s tx) (hw : Wf s) {u : Nat → Int32} (h0 : c B = .inr (2, ringF ad B u)) (hu : u 0 = s 0) (h1 : ∃ g, c (B + 1) = .inl (1, 10, rfs g) ∧ ∀ i, i < 10 → g i = some (ad (B + 10 + i))) (hc : ∀ i, i < 10 → ∃ h d o, c (B + 10 + i) = .inr (0, [.int h, .int d, .int o])) :
    ∃ e, loopF (fX2_become_b0 (ad B) (ad B2)) bigN ((0 : Int32), MM nd c) = some (MM nd e) ∧ (∀ k, ¬ (B + 10 ≤ k ∧ k < B + 20) → e k = c k) ∧ (∀ i, i < 10 → ∃ h d o, e (B + 10 + i) = .inr (0, [.int h, .int d, .int o]) ∧ (i < nt (s 0) → h = s (12 + 3 * i) ∧ d = s (13 + 3 * i) ∧ o = s (14 + 3 * i))) := by
  obtain ⟨n, n1, n2, n3⟩ := hw.n0
  have hb : B ≠ B2 ∧ (B = 100 ∨ B = 200 ∨ B = 300) ∧ (B2 = 100 ∨ B2 = 200 ∨ B2 = 300) := ⟨hne, hB, hB2⟩
  obtain ⟨g, hg1, hg2⟩ := h1
  obtain ⟨r, p1, e, rfl, p2, p3⟩ := loop_rel (b := fX2_become_b0 (ad B) (ad B2)) (s := ((0 : Int32), MM nd c))
    (fun j st => ∃ e, st = (nI j, MM nd e) ∧ (∀ k, ¬ (B + 10 ≤ k ∧ k < B + 20) → e k = c k) ∧ (∀ i, i < 10 → ∃ h d o, e (B + 10 + i) = .inr (0, [.int h, .int d, .int o]) ∧ (i < j → h = s (12 + 3 * i) ∧ d = s (13 + 3 * i) ∧ o = s (14 + 3 * i))))
    (fun r => ∃ e, r = MM nd e ∧ (∀ k, ¬ (B + 10 ≤ k ∧ k < B + 20) → e k = c k) ∧ (∀ i, i < 10 → ∃ h d o, e (B + 10 + i) = .inr (0, [.int h, .int d, .int o]) ∧ (i < n → h = s (12 + 3 * i) ∧ d = s (13 + 3 * i) ∧ o = s (14 + 3 * i)))) n (by omega) ⟨c, rfl, fun _ _ => rfl, fun i hi => by
      obtain ⟨a, b, d, q⟩ := hc i hi
      exact ⟨a, b, d, q, fun z => absurd z (Nat.not_lt_zero i)⟩⟩ (by
      rintro j st hj ⟨e, rfl, hf, hcs⟩
      have hs : RingOK nT e ad B2 s tx := src_ok hB hB2 hne h (fun k hk => hf k (by unfold ownB at hk; omega))
      have e0 : e B = .inr (2, ringF ad B u) := (hf _ (by omega)).trans h0
      have e1 : e (B + 1) = .inl (1, 10, rfs g) := (hf _ (by omega)).trans hg1
      have hj10 : j < 10 := by omega
      obtain ⟨a, b, d, q, -⟩ := hcs j hj10
      have hu2 : gI (MM nd e) (ad B) 2 1 = some (nI n) := by rw [← n1, ← hu]; exact gI_MM hL (KC_B0 hB) e0 rfl
      have hr1 : gR (MM nd e) (ad B) 2 0 = some (ad (B + 1)) := gR_MM hL (KC_B0 hB) e0 rfl
      have hl1 : ldR (MM nd e) (ad (B + 1)) 1 (nI j) = some (ad (B + 10 + j)) := ldR_MM hL (KC_B hB (by decide)) e1 hj10 (by decide) (hg2 j hj10)
      have hcv : ∀ {α : Type} {x : Option α}, cV (MM nd e) (ad (B + 10 + j)) 0 x = x := cV_MM hL (KC_ch hB hj10) q
      simp only [fX2_become_b0, hu2, hr1, hl1, cr_1 hL hB2 hs, cl_ch hL hB2 hs hj10, Option.bind_some, if_neg (nI_ge hj (show n < 2 ^ 31 by omega)), hcv, ixp1]
      rw [C_become0 hL (KC_ch hB hj10) (KC_ch hB2 hj10) (by omega) q (ch_at hs hj10 (by omega))]
      refine ⟨_, rfl, _, rfl, fun k hk => (upC_n (by omega)).trans (hf k hk), fun i hi => ?_⟩
      by_cases ei : i = j
      · subst ei
        exact ⟨_, _, _, upC_s, fun _ => ⟨rfl, rfl, rfl⟩⟩
      · obtain ⟨a2, b2, d2, q2, q3⟩ := hcs i hi
        exact ⟨a2, b2, d2, (upC_n (by omega)).trans q2, fun z => q3 (by omega)⟩)
    (by
      rintro st ⟨e, rfl, hf, hcs⟩
      have e0 : e B = .inr (2, ringF ad B u) := (hf _ (by omega)).trans h0
      have hu2 : gI (MM nd e) (ad B) 2 1 = some (nI n) := by rw [← n1, ← hu]; exact gI_MM hL (KC_B0 hB) e0 rfl
      simp only [fX2_become_b0, hu2, Option.bind_some, if_pos (nI_le (Nat.le_refl n) (show n < 2 ^ 31 by omega))]
      exact ⟨_, rfl, e, rfl, hf, hcs⟩)
  rw [n3]
  exact ⟨e, p1, p2, p3⟩
theorem bec_1 (hL : Lay nd ad (KC nT)) (hB : isB B) (hB2 : isB B2) (hne : B ≠ B2) (h : RingOK nT c ad B2 s tx) (hw : Wf s) {u : Nat → Int32} (h0 : c B = .inr (2, ringF ad B u)) (hu : u 1 = s 1) (h1 : ∃ g, c (B + 3) = .inl (2, 10, rfs g) ∧ ∀ i, i < 10 → g i = some (ad (B + 20 + i))) (hc : ∀ i, i < 10 → ∃ h d o, c (B + 20 + i) = .inr (5, [.int h, .int d, .int o])) :
    ∃ e, loopF (fX2_become_b1 (ad B) (ad B2)) bigN ((0 : Int32), MM nd c) = some (MM nd e) ∧ (∀ k, ¬ (B + 20 ≤ k ∧ k < B + 30) → e k = c k) ∧ (∀ i, i < 10 → ∃ h d o, e (B + 20 + i) = .inr (5, [.int h, .int d, .int o]) ∧ (i < nt (s 1) → h = s (42 + 3 * i) ∧ d = s (43 + 3 * i) ∧ o = s (44 + 3 * i))) := by
  obtain ⟨n, n1, n2, n3⟩ := hw.n1
  have hb : B ≠ B2 ∧ (B = 100 ∨ B = 200 ∨ B = 300) ∧ (B2 = 100 ∨ B2 = 200 ∨ B2 = 300) := ⟨hne, hB, hB2⟩
  obtain ⟨g, hg1, hg2⟩ := h1
  obtain ⟨r, p1, e, rfl, p2, p3⟩ := loop_rel (b := fX2_become_b1 (ad B) (ad B2)) (s := ((0 : Int32), MM nd c))
    (fun j st => ∃ e, st = (nI j, MM nd e) ∧ (∀ k, ¬ (B + 20 ≤ k ∧ k < B + 30) → e k = c k) ∧ (∀ i, i < 10 → ∃ h d o, e (B + 20 + i) = .inr (5, [.int h, .int d, .int o]) ∧ (i < j → h = s (42 + 3 * i) ∧ d = s (43 + 3 * i) ∧ o = s (44 + 3 * i))))
    (fun r => ∃ e, r = MM nd e ∧ (∀ k, ¬ (B + 20 ≤ k ∧ k < B + 30) → e k = c k) ∧ (∀ i, i < 10 → ∃ h d o, e (B + 20 + i) = .inr (5, [.int h, .int d, .int o]) ∧ (i < n → h = s (42 + 3 * i) ∧ d = s (43 + 3 * i) ∧ o = s (44 + 3 * i)))) n (by omega) ⟨c, rfl, fun _ _ => rfl, fun i hi => by
      obtain ⟨a, b, d, q⟩ := hc i hi
      exact ⟨a, b, d, q, fun z => absurd z (Nat.not_lt_zero i)⟩⟩ (by
      rintro j st hj ⟨e, rfl, hf, hcs⟩
      have hs : RingOK nT e ad B2 s tx := src_ok hB hB2 hne h (fun k hk => hf k (by unfold ownB at hk; omega))
      have e0 : e B = .inr (2, ringF ad B u) := (hf _ (by omega)).trans h0
      have e1 : e (B + 3) = .inl (2, 10, rfs g) := (hf _ (by omega)).trans hg1
      have hj10 : j < 10 := by omega
      obtain ⟨a, b, d, q, -⟩ := hcs j hj10
      have hu2 : gI (MM nd e) (ad B) 2 5 = some (nI n) := by rw [← n1, ← hu]; exact gI_MM hL (KC_B0 hB) e0 rfl
      have hr1 : gR (MM nd e) (ad B) 2 4 = some (ad (B + 3)) := gR_MM hL (KC_B0 hB) e0 rfl
      have hl1 : ldR (MM nd e) (ad (B + 3)) 2 (nI j) = some (ad (B + 20 + j)) := ldR_MM hL (KC_B hB (by decide)) e1 hj10 (by decide) (hg2 j hj10)
      have hcv : ∀ {α : Type} {x : Option α}, cV (MM nd e) (ad (B + 20 + j)) 5 x = x := cV_MM hL (KC_sp hB hj10) q
      simp only [fX2_become_b1, hu2, hr1, hl1, cr_3 hL hB2 hs, cl_sp hL hB2 hs hj10, Option.bind_some, if_neg (nI_ge hj (show n < 2 ^ 31 by omega)), hcv, ixp1]
      rw [C_become5 hL (KC_sp hB hj10) (KC_sp hB2 hj10) (by omega) q (sp_at hs hj10 (by omega))]
      refine ⟨_, rfl, _, rfl, fun k hk => (upC_n (by omega)).trans (hf k hk), fun i hi => ?_⟩
      by_cases ei : i = j
      · subst ei
        exact ⟨_, _, _, upC_s, fun _ => ⟨rfl, rfl, rfl⟩⟩
      · obtain ⟨a2, b2, d2, q2, q3⟩ := hcs i hi
        exact ⟨a2, b2, d2, (upC_n (by omega)).trans q2, fun z => q3 (by omega)⟩)
    (by
      rintro st ⟨e, rfl, hf, hcs⟩
      have e0 : e B = .inr (2, ringF ad B u) := (hf _ (by omega)).trans h0
      have hu2 : gI (MM nd e) (ad B) 2 5 = some (nI n) := by rw [← n1, ← hu]; exact gI_MM hL (KC_B0 hB) e0 rfl
      simp only [fX2_become_b1, hu2, Option.bind_some, if_pos (nI_le (Nat.le_refl n) (show n < 2 ^ 31 by omega))]
      exact ⟨_, rfl, e, rfl, hf, hcs⟩)
  rw [n3]
  exact ⟨e, p1, p2, p3⟩
theorem bec_2 (hL : Lay nd ad (KC nT)) (hB : isB B) (hB2 : isB B2) (hne : B ≠ B2) (h : RingOK nT c ad B2 s tx) (hw : Wf s) {u : Nat → Int32} (h0 : c B = .inr (2, ringF ad B u)) (hu : u 3 = s 3) (h1 : ∃ g, c (B + 4) = .inl (3, 14, rfs g)) :
    ∃ e, loopF (fX2_become_b2 (ad B) (ad B2)) bigN ((0 : Int32), MM nd c) = some (MM nd e) ∧ (∀ k, k ≠ B + 4 → e k = c k) ∧ ∃ g, e (B + 4) = .inl (3, 14, rfs g) ∧ ∀ t, t < nt (s 3) → g t = some (ad (1000 + 3 * tx t)) := by
  obtain ⟨n, n1, n2, n3⟩ := hw.n3
  have hb : B ≠ B2 ∧ (B = 100 ∨ B = 200 ∨ B = 300) ∧ (B2 = 100 ∨ B2 = 200 ∨ B2 = 300) := ⟨hne, hB, hB2⟩
  obtain ⟨g0, hg0⟩ := h1
  obtain ⟨r, p1, e, rfl, p2, p3⟩ := loop_rel (b := fX2_become_b2 (ad B) (ad B2)) (s := ((0 : Int32), MM nd c))
    (fun j st => ∃ e, st = (nI j, MM nd e) ∧ (∀ k, k ≠ B + 4 → e k = c k) ∧ ∃ g, e (B + 4) = .inl (3, 14, rfs g) ∧ ∀ t, t < j → g t = some (ad (1000 + 3 * tx t)))
    (fun r => ∃ e, r = MM nd e ∧ (∀ k, k ≠ B + 4 → e k = c k) ∧ ∃ g, e (B + 4) = .inl (3, 14, rfs g) ∧ ∀ t, t < n → g t = some (ad (1000 + 3 * tx t))) n (by omega) ⟨c, rfl, fun _ _ => rfl, g0, hg0, fun t z => absurd z (Nat.not_lt_zero t)⟩ (by
      rintro j st hj ⟨e, rfl, hf, g, hg, hg2⟩
      have hs : RingOK nT e ad B2 s tx := src_ok hB hB2 hne h (fun k hk => hf k (by unfold ownB at hk; omega))
      have e0 : e B = .inr (2, ringF ad B u) := (hf _ (by omega)).trans h0
      have hj14 : j < 14 := by omega
      have hjs : j < nt (s 3) := by omega
      obtain ⟨hx, hX⟩ := C_txt hL hs hjs
      have k0 : KC nT (1000 + 3 * tx j) := KC_tx (i := 0) hx (by decide)
      have hu2 : gI (MM nd e) (ad B) 2 7 = some (nI n) := by rw [← n1, ← hu]; exact gI_MM hL (KC_B0 hB) e0 rfl
      have hr1 : gR (MM nd e) (ad B) 2 6 = some (ad (B + 4)) := gR_MM hL (KC_B0 hB) e0 rfl
      simp only [fX2_become_b2, hu2, hr1, cr_4 hL hB2 hs, cl_tx hL hB2 hs hjs hj14, Option.bind_some, if_neg (nI_ge hj (show n < 2 ^ 31 by omega)), ixp1]
      rw [stR_MM hL (KC_B hB (by decide)) hg k0 hX.1 hj14 (by decide)]
      refine ⟨_, rfl, _, rfl, fun k hk => (upC_n hk).trans (hf k hk), _, upC_s, fun t ht => ?_⟩
      by_cases et : t = j
      · subst et; simp [va_up]
      · simp only [va_up, if_neg et]; exact hg2 t (by omega))
    (by
      rintro st ⟨e, rfl, hf, hcs⟩
      have e0 : e B = .inr (2, ringF ad B u) := (hf _ (by omega)).trans h0
      have hu2 : gI (MM nd e) (ad B) 2 7 = some (nI n) := by rw [← n1, ← hu]; exact gI_MM hL (KC_B0 hB) e0 rfl
      simp only [fX2_become_b2, hu2, Option.bind_some, if_pos (nI_le (Nat.le_refl n) (show n < 2 ^ 31 by omega))]
      exact ⟨_, rfl, e, rfl, hf, hcs⟩)
  rw [n3]
  exact ⟨e, p1, p2, p3⟩
end CM
