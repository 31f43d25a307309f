/-! THE CLASS's memory: node numbers. 0 the object; a ring at B = 100, 200, 300: B itself, B+1 children, B+2 papers, B+3 stops, B+4 texts, B+5 laws, B+6 measured, B+10+i child i, B+20+i stop i; 400 reader, 401 its bytes, 402 its steps; 410 sheets, 420+k sheet k, 430+k its places; 440 slots, 450+k slot k, 460+k its stop, 470+k its sheet, 480+k its places; 490 waiting; text number x ever made: 1000+3x, its steps 1001+3x, its stack 1002+3x -/
def KC (nT k : Nat) : Prop :=
  k = 0 ∨ (100 ≤ k ∧ k < 107) ∨ (110 ≤ k ∧ k < 130) ∨ (200 ≤ k ∧ k < 207) ∨ (210 ≤ k ∧ k < 230) ∨ (300 ≤ k ∧ k < 307) ∨ (310 ≤ k ∧ k < 330) ∨ (400 ≤ k ∧ k < 403) ∨ k = 410 ∨ (420 ≤ k ∧ k < 424) ∨ (430 ≤ k ∧ k < 434) ∨ k = 440 ∨ (450 ≤ k ∧ k < 455) ∨ (460 ≤ k ∧ k < 465) ∨ (470 ≤ k ∧ k < 475) ∨ (480 ≤ k ∧ k < 485) ∨ k = 490 ∨ (1000 ≤ k ∧ k < 1000 + 3 * nT)
def isB (B : Nat) : Prop := B = 100 ∨ B = 200 ∨ B = 300
theorem KC_B {nT B : Nat} (h : isB B) {i : Nat} (hi : i < 7) : KC nT (B + i) := by unfold KC; unfold isB at h; omega
theorem KC_B0 {nT B : Nat} (h : isB B) : KC nT B := KC_B (i := 0) h (by omega)
theorem KC_ch {nT B : Nat} (h : isB B) {i : Nat} (hi : i < 10) : KC nT (B + 10 + i) := by unfold KC; unfold isB at h; omega
theorem KC_sp {nT B : Nat} (h : isB B) {i : Nat} (hi : i < 10) : KC nT (B + 20 + i) := by unfold KC; unfold isB at h; omega
theorem KC_tx {nT x : Nat} (h : x < nT) {i : Nat} (hi : i < 3) : KC nT (1000 + 3 * x + i) := by unfold KC; omega
def isScr (k : Nat) : Prop := k = 106 ∨ k = 206 ∨ k = 306 ∨ (1000 ≤ k ∧ k % 3 = 0)
/-- only scratch has changed: what is measured, the texts' stacks -/
def ScC (c e : Nat → pE) : Prop := ∀ k, e k = c k ∨ (isScr k ∧ ∃ (n : Nat) (g h : Nat → Int32), c k = .inl (0, n, .inl g) ∧ e k = .inl (0, n, .inl h))
theorem ScC.rf {c : Nat → pE} : ScC c c := fun _ => Or.inl rfl
theorem ScC.tr {c d e : Nat → pE} (h : ScC c d) (h2 : ScC d e) : ScC c e := by
  intro k
  rcases h2 k with a | ⟨s, n, g, g2, a1, a2⟩
  · rcases h k with b | ⟨s, n, g, g2, b1, b2⟩
    · exact Or.inl (a.trans b)
    · exact Or.inr ⟨s, n, g, g2, b1, a.trans b2⟩
  · rcases h k with b | ⟨-, n2, g3, g4, b1, b2⟩
    · exact Or.inr ⟨s, n, g, g2, by rw [← b]; exact a1, a2⟩
    · rw [b2] at a1
      cases a1
      exact Or.inr ⟨s, n, g3, g2, b1, a2⟩
theorem ScC.n {c e : Nat → pE} (h : ScC c e) {k : Nat} (hk : ¬ isScr k) : e k = c k := (h k).elim (fun z => z) (fun z => absurd z.1 hk)
theorem ScC.a {c e : Nat → pE} (h : ScC c e) {k n : Nat} {g : Nat → Int32} (hc : c k = .inl (0, n, .inl g)) : ∃ g2, e k = .inl (0, n, .inl g2) := by
  rcases h k with a | ⟨-, n2, g3, g4, b1, b2⟩
  · exact ⟨g, a.trans hc⟩
  · rw [hc] at b1; cases b1; exact ⟨g4, b2⟩
theorem ScC.up {c : Nat → pE} {k n : Nat} {g h : Nat → Int32} (hk : isScr k) (hc : c k = .inl (0, n, .inl g)) : ScC c (upC c k (.inl (0, n, .inl h))) := by
  intro j
  by_cases e : j = k
  · subst e; exact Or.inr ⟨hk, n, g, h, hc, upC_s⟩
  · exact Or.inl (upC_n e)
def nmIx (key v : Int32) : Int32 := if key = 0 then (if v = 104 then 0 else if v = 97 then 1 else 2) else if key = 1 then (if v = 115 then 0 else if v = 112 then 1 else 2) else (if v = 97 then 0 else 1)
def encS (key w v : Int32) : Int32 := if w = 0 then v else if w = 1 then 10000 + nmIx key v else -v
def TextOK (c : Nat → pE) (ad : Nat → Nat) (x : Nat) (s : Nat → Int32) (t : Nat) : Prop :=
  c (1000 + 3 * x) = .inr (6, [.int (s (92 + 200 * t)), .int (s (93 + 200 * t)), .ref (ad (1000 + 3 * x + 1)), .ref (ad (1000 + 3 * x + 2))]) ∧
  (∃ g, c (1000 + 3 * x + 1) = .inl (0, cnS s t, .inl g) ∧ ∀ k, k < cnS s t → g k = encS (s (92 + 200 * t)) (whS s t k) (vlS s t k)) ∧ ∃ p, c (1000 + 3 * x + 2) = .inl (0, cnS s t, .inl p)
def ringF (ad : Nat → Nat) (B : Nat) (s : Nat → Int32) : List Value := [.ref (ad (B + 1)), .int (s 0), .ref (ad (B + 2)), .int (s 2), .ref (ad (B + 3)), .int (s 1), .ref (ad (B + 4)), .int (s 3), .ref (ad (B + 5)), .ref (ad (B + 6)), .int (s 4), .int (s 5), .int (s 6), .int (s 7), .int (s 8), .int (s 9), .int (s 10), .int (s 11)]
abbrev rfs (g : Nat → Option Nat) : (Nat → Int32) ⊕ (Nat → Int64) ⊕ (Nat → UInt32) ⊕ (Nat → UInt64) ⊕ (Nat → Option Nat) := .inr (.inr (.inr (.inr g)))
def RingOK (nT : Nat) (c : Nat → pE) (ad : Nat → Nat) (B : Nat) (s : Nat → Int32) (tx : Nat → Nat) : Prop :=
  c B = .inr (2, ringF ad B s) ∧
  (∃ g, c (B + 1) = .inl (1, 10, rfs g) ∧ ∀ i, i < 10 → g i = some (ad (B + 10 + i))) ∧
  (∃ g, c (B + 2) = .inl (0, 20, .inl g) ∧ ∀ i, i < nt (s 2) → g i = s (72 + i)) ∧
  (∃ g, c (B + 3) = .inl (2, 10, rfs g) ∧ ∀ i, i < 10 → g i = some (ad (B + 20 + i))) ∧
  (∃ g, c (B + 4) = .inl (3, 14, rfs g) ∧ ∀ t, t < nt (s 3) → g t = some (ad (1000 + 3 * tx t)) ∧ tx t < nT ∧ TextOK c ad (tx t) s t) ∧
  (∃ g, c (B + 5) = .inl (0, 3, .inl g) ∧ ∀ k, k < 3 → g k = oI (lawS s (nI k))) ∧
  (∃ g, c (B + 6) = .inl (0, 10, .inl g)) ∧
  (∀ i, i < 10 → ∃ h d o, c (B + 10 + i) = .inr (0, [.int h, .int d, .int o]) ∧ (i < nt (s 0) → h = s (12 + 3 * i) ∧ d = s (13 + 3 * i) ∧ o = s (14 + 3 * i))) ∧
  (∀ i, i < 10 → ∃ h d o, c (B + 20 + i) = .inr (5, [.int h, .int d, .int o]) ∧ (i < nt (s 1) → h = s (42 + 3 * i) ∧ d = s (43 + 3 * i) ∧ o = s (44 + 3 * i)))
theorem TextOK.cg {c e : Nat → pE} {ad : Nat → Nat} {x t : Nat} {s : Nat → Int32} (h0 : e (1000 + 3 * x) = c (1000 + 3 * x)) (h1 : e (1000 + 3 * x + 1) = c (1000 + 3 * x + 1)) (h2 : e (1000 + 3 * x + 2) = c (1000 + 3 * x + 2)) (h : TextOK c ad x s t) : TextOK e ad x s t := by
  obtain ⟨a1, ⟨g, a2, a3⟩, p, a4⟩ := h
  exact ⟨h0.trans a1, ⟨g, h1.trans a2, a3⟩, p, h2.trans a4⟩
theorem TextOK.sc {c e : Nat → pE} {ad : Nat → Nat} {x t : Nat} {s : Nat → Int32} (hs : ScC c e) (h : TextOK c ad x s t) : TextOK e ad x s t := by
  obtain ⟨a1, ⟨g, a2, a3⟩, p, a4⟩ := h
  obtain ⟨p2, a5⟩ := hs.a a4
  exact ⟨(hs.n (by unfold isScr; omega)).trans a1, ⟨g, (hs.n (by unfold isScr; omega)).trans a2, a3⟩, p2, a5⟩
theorem RingOK.sc {nT B : Nat} {c e : Nat → pE} {ad tx : Nat → Nat} {s : Nat → Int32} (hB : isB B) (hs : ScC c e) (h : RingOK nT c ad B s tx) : RingOK nT e ad B s tx := by
  obtain ⟨a0, a1, a2, a3, ⟨g4, a4, a4'⟩, a5, ⟨g6, a6⟩, a7, a8⟩ := h
  have hn : ∀ k, k < 1000 → k ≠ B + 6 → ∀ j, j = B + 6 → True := fun _ _ _ _ _ => trivial
  have ns : ∀ i, i ≠ 6 → i < 30 → ¬ isScr (B + i) := by intro i h1 h2; unfold isScr; unfold isB at hB; omega
  refine ⟨(hs.n (ns 0 (by decide) (by decide))).trans a0, ?_, ?_, ?_, ?_, ?_, hs.a a6, ?_, ?_⟩
  · rw [hs.n (ns 1 (by decide) (by decide))]; exact a1
  · rw [hs.n (ns 2 (by decide) (by decide))]; exact a2
  · rw [hs.n (ns 3 (by decide) (by decide))]; exact a3
  · rw [hs.n (ns 4 (by decide) (by decide))]
    exact ⟨g4, a4, fun t ht => ⟨(a4' t ht).1, (a4' t ht).2.1, (a4' t ht).2.2.sc hs⟩⟩
  · rw [hs.n (ns 5 (by decide) (by decide))]; exact a5
  · intro i hi
    rw [Nat.add_assoc, hs.n (ns (10 + i) (by omega) (by omega)), ← Nat.add_assoc]; exact a7 i hi
  · intro i hi
    rw [Nat.add_assoc, hs.n (ns (20 + i) (by omega) (by omega)), ← Nat.add_assoc]; exact a8 i hi
section CR
variable {nT B : Nat} {nd : Nat → Option Nat} {c : Nat → pE} {ad tx : Nat → Nat} {s : Nat → Int32}
theorem cg_n (hL : Lay nd ad (KC nT)) (hB : isB B) (h : RingOK nT c ad B s tx) : gI (MM nd c) (ad B) 2 1 = some (s 0) := gI_MM hL (KC_B0 hB) h.1 rfl
theorem cg_pn (hL : Lay nd ad (KC nT)) (hB : isB B) (h : RingOK nT c ad B s tx) : gI (MM nd c) (ad B) 2 3 = some (s 2) := gI_MM hL (KC_B0 hB) h.1 rfl
theorem cg_sn (hL : Lay nd ad (KC nT)) (hB : isB B) (h : RingOK nT c ad B s tx) : gI (MM nd c) (ad B) 2 5 = some (s 1) := gI_MM hL (KC_B0 hB) h.1 rfl
theorem cg_tn (hL : Lay nd ad (KC nT)) (hB : isB B) (h : RingOK nT c ad B s tx) : gI (MM nd c) (ad B) 2 7 = some (s 3) := gI_MM hL (KC_B0 hB) h.1 rfl
theorem cg_4 (hL : Lay nd ad (KC nT)) (hB : isB B) (h : RingOK nT c ad B s tx) : gI (MM nd c) (ad B) 2 10 = some (s 4) := gI_MM hL (KC_B0 hB) h.1 rfl
theorem cg_5 (hL : Lay nd ad (KC nT)) (hB : isB B) (h : RingOK nT c ad B s tx) : gI (MM nd c) (ad B) 2 11 = some (s 5) := gI_MM hL (KC_B0 hB) h.1 rfl
theorem cg_6 (hL : Lay nd ad (KC nT)) (hB : isB B) (h : RingOK nT c ad B s tx) : gI (MM nd c) (ad B) 2 12 = some (s 6) := gI_MM hL (KC_B0 hB) h.1 rfl
theorem cg_7 (hL : Lay nd ad (KC nT)) (hB : isB B) (h : RingOK nT c ad B s tx) : gI (MM nd c) (ad B) 2 13 = some (s 7) := gI_MM hL (KC_B0 hB) h.1 rfl
theorem cg_8 (hL : Lay nd ad (KC nT)) (hB : isB B) (h : RingOK nT c ad B s tx) : gI (MM nd c) (ad B) 2 14 = some (s 8) := gI_MM hL (KC_B0 hB) h.1 rfl
theorem cg_9 (hL : Lay nd ad (KC nT)) (hB : isB B) (h : RingOK nT c ad B s tx) : gI (MM nd c) (ad B) 2 15 = some (s 9) := gI_MM hL (KC_B0 hB) h.1 rfl
theorem cg_10 (hL : Lay nd ad (KC nT)) (hB : isB B) (h : RingOK nT c ad B s tx) : gI (MM nd c) (ad B) 2 16 = some (s 10) := gI_MM hL (KC_B0 hB) h.1 rfl
theorem cg_11 (hL : Lay nd ad (KC nT)) (hB : isB B) (h : RingOK nT c ad B s tx) : gI (MM nd c) (ad B) 2 17 = some (s 11) := gI_MM hL (KC_B0 hB) h.1 rfl
theorem cr_1 (hL : Lay nd ad (KC nT)) (hB : isB B) (h : RingOK nT c ad B s tx) : gR (MM nd c) (ad B) 2 0 = some (ad (B + 1)) := gR_MM hL (KC_B0 hB) h.1 rfl
theorem cr_2 (hL : Lay nd ad (KC nT)) (hB : isB B) (h : RingOK nT c ad B s tx) : gR (MM nd c) (ad B) 2 2 = some (ad (B + 2)) := gR_MM hL (KC_B0 hB) h.1 rfl
theorem cr_3 (hL : Lay nd ad (KC nT)) (hB : isB B) (h : RingOK nT c ad B s tx) : gR (MM nd c) (ad B) 2 4 = some (ad (B + 3)) := gR_MM hL (KC_B0 hB) h.1 rfl
theorem cr_4 (hL : Lay nd ad (KC nT)) (hB : isB B) (h : RingOK nT c ad B s tx) : gR (MM nd c) (ad B) 2 6 = some (ad (B + 4)) := gR_MM hL (KC_B0 hB) h.1 rfl
theorem cr_5 (hL : Lay nd ad (KC nT)) (hB : isB B) (h : RingOK nT c ad B s tx) : gR (MM nd c) (ad B) 2 8 = some (ad (B + 5)) := gR_MM hL (KC_B0 hB) h.1 rfl
theorem cr_6 (hL : Lay nd ad (KC nT)) (hB : isB B) (h : RingOK nT c ad B s tx) : gR (MM nd c) (ad B) 2 9 = some (ad (B + 6)) := gR_MM hL (KC_B0 hB) h.1 rfl
theorem cv_R (hL : Lay nd ad (KC nT)) (hB : isB B) (h : RingOK nT c ad B s tx) {α : Type} {x : Option α} : cV (MM nd c) (ad B) 2 x = x := cV_MM hL (KC_B0 hB) h.1
theorem cl_ch (hL : Lay nd ad (KC nT)) (hB : isB B) (h : RingOK nT c ad B s tx) {i : Nat} (hi : i < 10) : ldR (MM nd c) (ad (B + 1)) 1 (nI i) = some (ad (B + 10 + i)) := by
  obtain ⟨g, h1, h2⟩ := h.2.1
  exact ldR_MM hL (KC_B hB (by decide)) h1 hi (by decide) (h2 i hi)
theorem cl_sp (hL : Lay nd ad (KC nT)) (hB : isB B) (h : RingOK nT c ad B s tx) {i : Nat} (hi : i < 10) : ldR (MM nd c) (ad (B + 3)) 2 (nI i) = some (ad (B + 20 + i)) := by
  obtain ⟨g, h1, h2⟩ := h.2.2.2.1
  exact ldR_MM hL (KC_B hB (by decide)) h1 hi (by decide) (h2 i hi)
theorem cl_tx (hL : Lay nd ad (KC nT)) (hB : isB B) (h : RingOK nT c ad B s tx) {t : Nat} (ht : t < nt (s 3)) (h14 : t < 14) : ldR (MM nd c) (ad (B + 4)) 3 (nI t) = some (ad (1000 + 3 * tx t)) := by
  obtain ⟨g, h1, h2⟩ := h.2.2.2.2.1
  exact ldR_MM hL (KC_B hB (by decide)) h1 h14 (by decide) (h2 t ht).1
theorem cl_pp (hL : Lay nd ad (KC nT)) (hB : isB B) (h : RingOK nT c ad B s tx) {i : Nat} (hi : i < nt (s 2)) (h20 : i < 20) : ldI (MM nd c) (ad (B + 2)) (nI i) = some (s (72 + i)) := by
  obtain ⟨g, h1, h2⟩ := h.2.2.1
  rw [ldI_MM hL (KC_B hB (by decide)) h1 h20 (by decide), h2 i hi]
theorem cl_lw (hL : Lay nd ad (KC nT)) (hB : isB B) (h : RingOK nT c ad B s tx) {k : Nat} (hk : k < 3) : ldI (MM nd c) (ad (B + 5)) (nI k) = some (oI (lawS s (nI k))) := by
  obtain ⟨g, h1, h2⟩ := h.2.2.2.2.2.1
  rw [ldI_MM hL (KC_B hB (by decide)) h1 hk (by decide), h2 k hk]
theorem ch_at (h : RingOK nT c ad B s tx) {i : Nat} (hi : i < 10) (hn : i < nt (s 0)) : c (B + 10 + i) = .inr (0, [.int (s (12 + 3 * i)), .int (s (13 + 3 * i)), .int (s (14 + 3 * i))]) := by
  obtain ⟨a, b, d, h1, h2⟩ := h.2.2.2.2.2.2.2.1 i hi
  obtain ⟨rfl, rfl, rfl⟩ := h2 hn
  exact h1
theorem sp_at (h : RingOK nT c ad B s tx) {i : Nat} (hi : i < 10) (hn : i < nt (s 1)) : c (B + 20 + i) = .inr (5, [.int (s (42 + 3 * i)), .int (s (43 + 3 * i)), .int (s (44 + 3 * i))]) := by
  obtain ⟨a, b, d, h1, h2⟩ := h.2.2.2.2.2.2.2.2 i hi
  obtain ⟨rfl, rfl, rfl⟩ := h2 hn
  exact h1
theorem cc_0 (hL : Lay nd ad (KC nT)) (hB : isB B) (h : RingOK nT c ad B s tx) {i : Nat} (hi : i < 10) (hn : i < nt (s 0)) : gI (MM nd c) (ad (B + 10 + i)) 0 0 = some (s (12 + 3 * i)) := gI_MM hL (KC_ch hB hi) (ch_at h hi hn) rfl
theorem cc_1 (hL : Lay nd ad (KC nT)) (hB : isB B) (h : RingOK nT c ad B s tx) {i : Nat} (hi : i < 10) (hn : i < nt (s 0)) : gI (MM nd c) (ad (B + 10 + i)) 0 1 = some (s (13 + 3 * i)) := gI_MM hL (KC_ch hB hi) (ch_at h hi hn) rfl
theorem cc_2 (hL : Lay nd ad (KC nT)) (hB : isB B) (h : RingOK nT c ad B s tx) {i : Nat} (hi : i < 10) (hn : i < nt (s 0)) : gI (MM nd c) (ad (B + 10 + i)) 0 2 = some (s (14 + 3 * i)) := gI_MM hL (KC_ch hB hi) (ch_at h hi hn) rfl
theorem cs_0 (hL : Lay nd ad (KC nT)) (hB : isB B) (h : RingOK nT c ad B s tx) {i : Nat} (hi : i < 10) (hn : i < nt (s 1)) : gI (MM nd c) (ad (B + 20 + i)) 5 0 = some (s (42 + 3 * i)) := gI_MM hL (KC_sp hB hi) (sp_at h hi hn) rfl
theorem cs_1 (hL : Lay nd ad (KC nT)) (hB : isB B) (h : RingOK nT c ad B s tx) {i : Nat} (hi : i < 10) (hn : i < nt (s 1)) : gI (MM nd c) (ad (B + 20 + i)) 5 1 = some (s (43 + 3 * i)) := gI_MM hL (KC_sp hB hi) (sp_at h hi hn) rfl
theorem cs_2 (hL : Lay nd ad (KC nT)) (hB : isB B) (h : RingOK nT c ad B s tx) {i : Nat} (hi : i < 10) (hn : i < nt (s 1)) : gI (MM nd c) (ad (B + 20 + i)) 5 2 = some (s (44 + 3 * i)) := gI_MM hL (KC_sp hB hi) (sp_at h hi hn) rfl
theorem cv_S (hL : Lay nd ad (KC nT)) (hB : isB B) (h : RingOK nT c ad B s tx) {i : Nat} (hi : i < 10) {α : Type} {x : Option α} : cV (MM nd c) (ad (B + 20 + i)) 5 x = x := by
  obtain ⟨a, b, d, h1, h2⟩ := h.2.2.2.2.2.2.2.2 i hi
  exact cV_MM hL (KC_sp hB hi) h1
theorem cv_C (hL : Lay nd ad (KC nT)) (hB : isB B) (h : RingOK nT c ad B s tx) {i : Nat} (hi : i < 10) {α : Type} {x : Option α} : cV (MM nd c) (ad (B + 10 + i)) 0 x = x := by
  obtain ⟨a, b, d, h1, h2⟩ := h.2.2.2.2.2.2.2.1 i hi
  exact cV_MM hL (KC_ch hB hi) h1
end CR
