/-! what comes: a child, a paper, a stop -/
def adC (s : Nat → Int32) (h : Int32) : Nat → Int32 := upd (upd (upd (upd s (12 + 3 * nt (s 0)) h) (13 + 3 * nt (s 0)) 0) (14 + 3 * nt (s 0)) 0) 0 (nI (nt (s 0) + 1))
def adP (s : Nat → Int32) (v : Int32) : Nat → Int32 := upd (upd s (72 + nt (s 2)) v) 2 (nI (nt (s 2) + 1))
def adS (s : Nat → Int32) (a b d : Int32) : Nat → Int32 := upd (upd (upd (upd s (42 + 3 * nt (s 1)) a) (43 + 3 * nt (s 1)) b) (44 + 3 * nt (s 1)) d) 1 (nI (nt (s 1) + 1))
theorem Wf.nC {s : Nat → Int32} (hw : Wf s) {h : Nat} (h1 : 1 ≤ h) (h9 : h ≤ 9) (hn : nt (s 0) < 10) : Wf (adC s (nI h)) := by
  obtain ⟨a0, a1, a2, a3, a4, a5, a6, a7, a8, a9, a10, a11⟩ := hw
  have e : ∀ j, j ≠ 0 → ¬ (12 + 3 * nt (s 0) ≤ j ∧ j ≤ 14 + 3 * nt (s 0)) → adC s (nI h) j = s j := by
    intro j h1 h2
    unfold adC
    rw [upd_n h1, upd_n (by omega), upd_n (by omega), upd_n (by omega)]
  have e0 : adC s (nI h) 0 = nI (nt (s 0) + 1) := upd_s
  have n0 : nt (adC s (nI h) 0) = nt (s 0) + 1 := by rw [e0]; exact nt_nI (by omega)
  refine ⟨⟨_, e0, by omega⟩, by rw [e 1 (by omega) (by omega)]; exact a1, by rw [e 2 (by omega) (by omega)]; exact a2, by rw [e 3 (by omega) (by omega)]; exact a3, by rw [e 4 (by omega) (by omega)]; exact a4, by rw [e 5 (by omega) (by omega)]; exact a5, ?_, by rw [e 7 (by omega) (by omega)]; exact a7, ?_, ?_, ?_, ?_⟩
  · rw [e 6 (by omega) (by omega), n0]
    obtain ⟨n, b1, b2⟩ := a6
    exact ⟨n, b1, by omega⟩
  · rw [n0]
    intro c hc
    by_cases ec : c = nt (s 0)
    · subst ec
      unfold adC
      rw [upd_n (by omega), upd_n (by omega), upd_n (by omega), upd_s, upd_n (by omega), upd_n (by omega), upd_s, upd_n (by omega), upd_s]
      exact ⟨⟨h, rfl, h1, h9⟩, ⟨0, rfl, by omega⟩, Or.inl rfl⟩
    · rw [e _ (by omega) (by omega), e _ (by omega) (by omega), e _ (by omega) (by omega)]
      exact a8 c (by omega)
  · rw [e 1 (by omega) (by omega)]
    intro k hk
    rw [e _ (by omega) (by omega), e _ (by omega) (by omega), e _ (by omega) (by omega)]
    exact a9 k hk
  · rw [e 2 (by omega) (by omega)]
    intro k hk
    rw [e _ (by omega) (by omega)]
    exact a10 k hk
  · rw [e 3 (by omega) (by omega)]
    intro t ht
    exact TxOK_cg (fun j hj => e j (by omega) (by omega)) (a11 t ht)
theorem Wf.nP {s : Nat → Int32} (hw : Wf s) {h : Nat} (h2 : h ≤ 2) (hn : nt (s 2) < 20) : Wf (adP s (nI h)) := by
  obtain ⟨a0, a1, a2, a3, a4, a5, a6, a7, a8, a9, a10, a11⟩ := hw
  have e : ∀ j, j ≠ 2 → j ≠ 72 + nt (s 2) → adP s (nI h) j = s j := by
    intro j h1 h2
    unfold adP
    rw [upd_n h1, upd_n h2]
  have e0 : adP s (nI h) 2 = nI (nt (s 2) + 1) := upd_s
  have n0 : nt (adP s (nI h) 2) = nt (s 2) + 1 := by rw [e0]; exact nt_nI (by omega)
  have m0 : nt (s 0) ≤ 10 := by obtain ⟨n, z1, z2⟩ := a0; rw [z1, nt_nI (by omega)]; exact z2
  have m1 : nt (s 1) ≤ 10 := by obtain ⟨n, z1, z2⟩ := a1; rw [z1, nt_nI (by omega)]; exact z2
  refine ⟨by rw [e 0 (by omega) (by omega)]; exact a0, by rw [e 1 (by omega) (by omega)]; exact a1, ⟨_, e0, by omega⟩, by rw [e 3 (by omega) (by omega)]; exact a3, by rw [e 4 (by omega) (by omega)]; exact a4, by rw [e 5 (by omega) (by omega)]; exact a5, by rw [e 6 (by omega) (by omega), e 0 (by omega) (by omega)]; exact a6, by rw [e 7 (by omega) (by omega)]; exact a7, ?_, ?_, ?_, ?_⟩
  · rw [e 0 (by omega) (by omega)]
    intro c hc
    rw [e _ (by omega) (by omega), e _ (by omega) (by omega), e _ (by omega) (by omega)]
    exact a8 c hc
  · rw [e 1 (by omega) (by omega)]
    intro k hk
    rw [e _ (by omega) (by omega), e _ (by omega) (by omega), e _ (by omega) (by omega)]
    exact a9 k hk
  · rw [n0]
    intro k hk
    by_cases ek : k = nt (s 2)
    · subst ek
      unfold adP
      rw [upd_n (by omega), upd_s]
      exact ⟨h, rfl, h2⟩
    · rw [e _ (by omega) (by omega)]
      exact a10 k (by omega)
  · rw [e 3 (by omega) (by omega)]
    intro t ht
    exact TxOK_cg (fun j hj => e j (by omega) (by omega)) (a11 t ht)
theorem Wf.nS {s : Nat → Int32} (hw : Wf s) {a b d : Nat} (h5 : a ≤ 5) (h99 : b ≤ 99) (h9 : d ≤ 9) (hn : nt (s 1) < 10) : Wf (adS s (nI a) (nI b) (nI d)) := by
  obtain ⟨a0, a1, a2, a3, a4, a5, a6, a7, a8, a9, a10, a11⟩ := hw
  have e : ∀ j, j ≠ 1 → ¬ (42 + 3 * nt (s 1) ≤ j ∧ j ≤ 44 + 3 * nt (s 1)) → adS s (nI a) (nI b) (nI d) j = s j := by
    intro j h1 h2
    unfold adS
    rw [upd_n h1, upd_n (by omega), upd_n (by omega), upd_n (by omega)]
  have e0 : adS s (nI a) (nI b) (nI d) 1 = nI (nt (s 1) + 1) := upd_s
  have n0 : nt (adS s (nI a) (nI b) (nI d) 1) = nt (s 1) + 1 := by rw [e0]; exact nt_nI (by omega)
  have m0 : nt (s 0) ≤ 10 := by obtain ⟨n, z1, z2⟩ := a0; rw [z1, nt_nI (by omega)]; exact z2
  refine ⟨by rw [e 0 (by omega) (by omega)]; exact a0, ⟨_, e0, by omega⟩, by rw [e 2 (by omega) (by omega)]; exact a2, by rw [e 3 (by omega) (by omega)]; exact a3, by rw [e 4 (by omega) (by omega)]; exact a4, by rw [e 5 (by omega) (by omega)]; exact a5, by rw [e 6 (by omega) (by omega), e 0 (by omega) (by omega)]; exact a6, by rw [e 7 (by omega) (by omega)]; exact a7, ?_, ?_, ?_, ?_⟩
  · rw [e 0 (by omega) (by omega)]
    intro c hc
    rw [e _ (by omega) (by omega), e _ (by omega) (by omega), e _ (by omega) (by omega)]
    exact a8 c hc
  · rw [n0]
    intro c hc
    by_cases ec : c = nt (s 1)
    · subst ec
      unfold adS
      rw [upd_n (by omega), upd_n (by omega), upd_n (by omega), upd_s, upd_n (by omega), upd_n (by omega), upd_s, upd_n (by omega), upd_s]
      exact ⟨⟨a, rfl, h5⟩, ⟨b, rfl, h99⟩, ⟨d, rfl, h9⟩⟩
    · rw [e _ (by omega) (by omega), e _ (by omega) (by omega), e _ (by omega) (by omega)]
      exact a9 c (by omega)
  · rw [e 2 (by omega) (by omega)]
    intro k hk
    rw [e _ (by omega) (by omega)]
    exact a10 k hk
  · rw [e 3 (by omega) (by omega)]
    intro t ht
    exact TxOK_cg (fun j hj => e j (by omega) (by omega)) (a11 t ht)
section PB
variable {nT B : Nat} {nd nd2 : Nat → Option Nat} {c : Nat → pE} {ad ad2 tx : Nat → Nat} {fi : Nat → Int32} {fa : Nat → Nat → Int32} {s : Nat → Int32}
theorem cnt0 (hB : isB B) (h : RingOK nT c ad B s tx) {n : Nat} (hn : s 0 = nI n) (h10 : n < 10) (hc : c (B + 10 + n) = .inr (0, [.int (s (12 + 3 * n)), .int (s (13 + 3 * n)), .int (s (14 + 3 * n))])) : RingOK nT (upC c B (.inr (2, ringF ad B (upd s 0 (nI (n + 1)))))) ad B (upd s 0 (nI (n + 1))) tx := by
  have hb : B < 1000 - 30 := by unfold isB at hB; omega
  refine RingOK.sw hB h (upd_n (by omega)) (upd_n (by omega)) (fun j hj => upd_n (by omega)) upC_s (fun k h1 h2 => upC_n h1) ?_ ?_
  · intro i hi
    rw [upC_n (by omega), upd_s, nt_nI (by omega), upd_n (by omega), upd_n (by omega), upd_n (by omega)]
    by_cases e : i = n
    · subst e; exact ⟨_, _, _, hc, fun _ => ⟨rfl, rfl, rfl⟩⟩
    · obtain ⟨a, b, d, q1, q2⟩ := h.2.2.2.2.2.2.2.1 i hi
      exact ⟨a, b, d, q1, fun z => q2 (by rw [hn, nt_nI (by omega)]; omega)⟩
  · intro i hi
    rw [upC_n (by omega), upd_n (by omega), upd_n (by omega), upd_n (by omega), upd_n (by omega)]
    exact h.2.2.2.2.2.2.2.2 i hi
theorem cnt1 (hB : isB B) (h : RingOK nT c ad B s tx) {n : Nat} (hn : s 1 = nI n) (h10 : n < 10) (hc : c (B + 20 + n) = .inr (5, [.int (s (42 + 3 * n)), .int (s (43 + 3 * n)), .int (s (44 + 3 * n))])) : RingOK nT (upC c B (.inr (2, ringF ad B (upd s 1 (nI (n + 1)))))) ad B (upd s 1 (nI (n + 1))) tx := by
  have hb : B < 1000 - 30 := by unfold isB at hB; omega
  refine RingOK.sw hB h (upd_n (by omega)) (upd_n (by omega)) (fun j hj => upd_n (by omega)) upC_s (fun k h1 h2 => upC_n h1) ?_ ?_
  · intro i hi
    rw [upC_n (by omega), upd_n (by omega), upd_n (by omega), upd_n (by omega), upd_n (by omega)]
    exact h.2.2.2.2.2.2.2.1 i hi
  · intro i hi
    rw [upC_n (by omega), upd_s, nt_nI (by omega), upd_n (by omega), upd_n (by omega), upd_n (by omega)]
    by_cases e : i = n
    · subst e; exact ⟨_, _, _, hc, fun _ => ⟨rfl, rfl, rfl⟩⟩
    · obtain ⟨a, b, d, q1, q2⟩ := h.2.2.2.2.2.2.2.2 i hi
      exact ⟨a, b, d, q1, fun z => q2 (by rw [hn, nt_nI (by omega)]; omega)⟩
/-- a paper is set -/
theorem RingOK.pps (hB : isB B) (h : RingOK nT c ad B s tx) {g : Nat → Int32} (hg : c (B + 2) = .inl (0, 20, .inl g)) {i : Nat} {v : Int32} (hi : i < 20) : RingOK nT (upC c (B + 2) (.inl (0, 20, .inl (upd g i v)))) ad B (upd s (72 + i) v) tx := by
  have hb : B < 1000 - 30 := by unfold isB at hB; omega
  have er : ringF ad B (upd s (72 + i) v) = ringF ad B s := by
    unfold ringF
    rw [upd_n (by omega), upd_n (by omega), upd_n (by omega), upd_n (by omega), upd_n (by omega), upd_n (by omega), upd_n (by omega), upd_n (by omega), upd_n (by omega), upd_n (by omega), upd_n (by omega), upd_n (by omega)]
  obtain ⟨a0, a1, ⟨g2, a2, a2'⟩, a3, ⟨g4, a4, a4'⟩, ⟨g5, a5, a5'⟩, a6, a7, a8⟩ := h
  rw [hg] at a2
  cases a2
  refine ⟨by rw [upC_n (by omega), er]; exact a0, by rw [upC_n (by omega)]; exact a1, ⟨_, upC_s, fun j hj => ?_⟩, by rw [upC_n (by omega)]; exact a3, ?_, ?_, by rw [upC_n (by omega)]; exact a6, ?_, ?_⟩
  · rw [upd_n (by omega)] at hj
    by_cases e : j = i
    · subst e; rw [upd_s, upd_s]
    · rw [upd_n e, upd_n (by omega)]; exact a2' j hj
  · rw [upC_n (by omega), upd_n (by omega)]
    exact ⟨g4, a4, fun t ht => ⟨(a4' t ht).1, (a4' t ht).2.1, TextOK.sw (fun j hj => upd_n (by omega)) ((a4' t ht).2.2.cg (upC_n (by omega)) (upC_n (by omega)) (upC_n (by omega)))⟩⟩
  · rw [upC_n (by omega)]
    exact ⟨g5, a5, fun k hk => by rw [lawS_cg (upd_n (by omega)) (fun j hj => upd_n (by omega))]; exact a5' k hk⟩
  · intro k hk
    rw [upC_n (by omega), upd_n (by omega), upd_n (by omega), upd_n (by omega), upd_n (by omega)]
    exact a7 k hk
  · intro k hk
    rw [upC_n (by omega), upd_n (by omega), upd_n (by omega), upd_n (by omega), upd_n (by omega)]
    exact a8 k hk
theorem cnt2 (hB : isB B) (h : RingOK nT c ad B s tx) {n : Nat} (hn : s 2 = nI n) (h20 : n < 20) {g : Nat → Int32} (hg : c (B + 2) = .inl (0, 20, .inl g)) (hgn : g n = s (72 + n)) : RingOK nT (upC c B (.inr (2, ringF ad B (upd s 2 (nI (n + 1)))))) ad B (upd s 2 (nI (n + 1))) tx := by
  have hb : B < 1000 - 30 := by unfold isB at hB; omega
  obtain ⟨a0, a1, ⟨g2, a2, a2'⟩, a3, ⟨g4, a4, a4'⟩, ⟨g5, a5, a5'⟩, a6, a7, a8⟩ := h
  rw [hg] at a2
  cases a2
  refine ⟨upC_s, by rw [upC_n (by omega)]; exact a1, ⟨g, by rw [upC_n (by omega)]; exact hg, fun j hj => ?_⟩, by rw [upC_n (by omega)]; exact a3, ?_, ?_, by rw [upC_n (by omega)]; exact a6, ?_, ?_⟩
  · rw [upd_s, nt_nI (by omega)] at hj
    rw [upd_n (by omega)]
    by_cases e : j = n
    · subst e; exact hgn
    · exact a2' j (by rw [hn, nt_nI (by omega)]; omega)
  · rw [upC_n (by omega), upd_n (by omega)]
    exact ⟨g4, a4, fun t ht => ⟨(a4' t ht).1, (a4' t ht).2.1, TextOK.sw (fun j hj => upd_n (by omega)) ((a4' t ht).2.2.cg (upC_n (by omega)) (upC_n (by omega)) (upC_n (by omega)))⟩⟩
  · rw [upC_n (by omega)]
    exact ⟨g5, a5, fun k hk => by rw [lawS_cg (upd_n (by omega)) (fun j hj => upd_n (by omega))]; exact a5' k hk⟩
  · intro k hk
    rw [upC_n (by omega), upd_n (by omega), upd_n (by omega), upd_n (by omega), upd_n (by omega)]
    exact a7 k hk
  · intro k hk
    rw [upC_n (by omega), upd_n (by omega), upd_n (by omega), upd_n (by omega), upd_n (by omega)]
    exact a8 k hk
end PB
