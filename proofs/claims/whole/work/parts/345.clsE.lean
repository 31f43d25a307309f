/-! one ring changes: all else stands but for scratch -/
def ownB (B k : Nat) : Prop := B ≤ k ∧ k < B + 100
def ChB (B : Nat) (c e : Nat → pE) : Prop := ∀ k, ¬ ownB B k → e k = c k ∨ (isScr k ∧ ∃ (n : Nat) (g h : Nat → Int32), c k = .inl (0, n, .inl g) ∧ e k = .inl (0, n, .inl h))
theorem ChB.rf {B : Nat} {c : Nat → pE} : ChB B c c := fun _ _ => Or.inl rfl
theorem ChB.sc {B : Nat} {c e : Nat → pE} (h : ScC c e) : ChB B c e := fun k _ => h k
theorem ChB.up {B k : Nat} {c : Nat → pE} {v : pE} (hk : ownB B k) : ChB B c (upC c k v) := fun j hj => Or.inl (upC_n (fun z => hj (z ▸ hk)))
theorem ChB.tr {B : Nat} {c d e : Nat → pE} (h : ChB B c d) (h2 : ChB B d e) : ChB B c e := by
  intro k hk
  rcases h2 k hk with a | ⟨s, n, g, g2, a1, a2⟩
  · rcases h k hk with b | ⟨s, n, g, g2, b1, b2⟩
    · exact Or.inl (a.trans b)
    · exact Or.inr ⟨s, n, g, g2, b1, a.trans b2⟩
  · rcases h k hk with b | ⟨-, n2, g3, g4, b1, b2⟩
    · exact Or.inr ⟨s, n, g, g2, by rw [← b]; exact a1, a2⟩
    · rw [b2] at a1
      cases a1
      exact Or.inr ⟨s, n, g3, g2, b1, a2⟩
theorem ChB.n {B : Nat} {c e : Nat → pE} (h : ChB B c e) {k : Nat} (hk : ¬ isScr k) (hk2 : ¬ ownB B k) : e k = c k := (h k hk2).elim (fun z => z) (fun z => absurd z.1 hk)
theorem RingOK.cg {nT B : Nat} {c e : Nat → pE} {ad tx : Nat → Nat} {s : Nat → Int32} (hc : ∀ k, (B ≤ k ∧ k < B + 30) ∨ 1000 ≤ k → e k = c k) (h : RingOK nT c ad B s tx) : RingOK nT e ad B s tx := by
  obtain ⟨a0, a1, a2, a3, ⟨g4, a4, a4'⟩, a5, a6, a7, a8⟩ := h
  refine ⟨(hc _ (by omega)).trans a0, ?_, ?_, ?_, ?_, ?_, ?_, ?_, ?_⟩
  · rw [hc _ (by omega)]; exact a1
  · rw [hc _ (by omega)]; exact a2
  · rw [hc _ (by omega)]; exact a3
  · rw [hc _ (by omega)]
    exact ⟨g4, a4, fun t ht => ⟨(a4' t ht).1, (a4' t ht).2.1, (a4' t ht).2.2.cg (hc _ (by omega)) (hc _ (by omega)) (hc _ (by omega))⟩⟩
  · rw [hc _ (by omega)]; exact a5
  · rw [hc _ (by omega)]; exact a6
  · intro i hi
    rw [hc _ (by omega)]; exact a7 i hi
  · intro i hi
    rw [hc _ (by omega)]; exact a8 i hi
theorem RingOK.other {nT B B2 : Nat} {c e : Nat → pE} {ad tx : Nat → Nat} {s : Nat → Int32} (hB : isB B) (hB2 : isB B2) (hne : B ≠ B2) (hs : ChB B c e) (h : RingOK nT c ad B2 s tx) : RingOK nT e ad B2 s tx := by
  by_cases hd : True
  · have hS : ScC c (fun k => if B ≤ k ∧ k < B + 100 then c k else e k) := by
      intro k
      by_cases hk : B ≤ k ∧ k < B + 100
      · exact Or.inl (if_pos hk)
      · have := hs k hk
        simpa only [if_neg hk] using this
    refine RingOK.cg (fun k hk => ?_) (h.sc hB2 hS)
    refine (if_neg ?_).symm
    unfold isB at hB hB2
    omega
  · exact absurd trivial hd
theorem cnsF_cg {s u : Nat → Int32} {key : Int32} : ∀ {n : Nat}, (∀ t, t < n → u (92 + 200 * t) = s (92 + 200 * t)) → cnsF u key n = cnsF s key n := by
  intro n
  induction n with
  | zero => intro _; rfl
  | succ n ih => intro h; rw [cnsF_s, cnsF_s, h n (by omega), ih (fun t ht => h t (by omega))]
theorem lawS_cg {s u : Nat → Int32} {key : Int32} (h3 : u 3 = s 3) (h : ∀ j, 92 ≤ j → u j = s j) : lawS u key = lawS s key := by
  unfold lawS
  rw [h3]
  exact cnsF_cg (fun t _ => h _ (by omega))
theorem TextOK.sw {c : Nat → pE} {ad : Nat → Nat} {x t : Nat} {s u : Nat → Int32} (hu : ∀ j, 92 ≤ j → u j = s j) (h : TextOK c ad x s t) : TextOK c ad x u t := by
  obtain ⟨a1, ⟨g, a2, a3⟩, p, a4⟩ := h
  have e1 : cnS u t = cnS s t := by unfold cnS; rw [hu _ (by omega)]
  refine ⟨by rw [hu _ (by omega), hu _ (by omega)]; exact a1, ⟨g, by rw [e1]; exact a2, fun k hk => ?_⟩, p, by rw [e1]; exact a4⟩
  rw [e1] at hk
  unfold whS vlS
  rw [hu _ (by omega), hu _ (by omega), hu _ (by omega)]
  exact a3 k hk
/-- the scalars, the children and the stops may change -/
theorem RingOK.sw {nT B : Nat} {c e : Nat → pE} {ad tx : Nat → Nat} {s u : Nat → Int32} (hB : isB B) (h : RingOK nT c ad B s tx) (h2 : u 2 = s 2) (h3 : u 3 = s 3) (hhi : ∀ j, 72 ≤ j → u j = s j) (e0 : e B = .inr (2, ringF ad B u)) (er : ∀ k, k ≠ B → ¬ (B + 10 ≤ k ∧ k < B + 30) → e k = c k)
    (hc : ∀ i, i < 10 → ∃ h d o, e (B + 10 + i) = .inr (0, [.int h, .int d, .int o]) ∧ (i < nt (u 0) → h = u (12 + 3 * i) ∧ d = u (13 + 3 * i) ∧ o = u (14 + 3 * i)))
    (hs : ∀ i, i < 10 → ∃ h d o, e (B + 20 + i) = .inr (5, [.int h, .int d, .int o]) ∧ (i < nt (u 1) → h = u (42 + 3 * i) ∧ d = u (43 + 3 * i) ∧ o = u (44 + 3 * i))) : RingOK nT e ad B u tx := by
  obtain ⟨a0, a1, a2, a3, ⟨g4, a4, a4'⟩, ⟨g5, a5, a5'⟩, a6, a7, a8⟩ := h
  have hb : B < 1000 - 30 := by unfold isB at hB; omega
  refine ⟨e0, ?_, ?_, ?_, ?_, ?_, ?_, hc, hs⟩
  · rw [er _ (by omega) (by omega)]; exact a1
  · rw [er _ (by omega) (by omega), h2]
    obtain ⟨g, b1, b2⟩ := a2
    exact ⟨g, b1, fun i hi => by rw [hhi _ (by omega)]; exact b2 i hi⟩
  · rw [er _ (by omega) (by omega)]; exact a3
  · rw [er _ (by omega) (by omega), h3]
    exact ⟨g4, a4, fun t ht => ⟨(a4' t ht).1, (a4' t ht).2.1, TextOK.sw (fun j hj => hhi j (by omega)) ((a4' t ht).2.2.cg (er _ (by omega) (by omega)) (er _ (by omega) (by omega)) (er _ (by omega) (by omega)))⟩⟩
  · rw [er _ (by omega) (by omega)]
    exact ⟨g5, a5, fun k hk => by rw [lawS_cg h3 (fun j hj => hhi j (by omega))]; exact a5' k hk⟩
  · rw [er _ (by omega) (by omega)]; exact a6
/-- a scalar changes -/
theorem RingOK.scal {nT B : Nat} {c : Nat → pE} {ad tx : Nat → Nat} {s u : Nat → Int32} (hB : isB B) (h : RingOK nT c ad B s tx) (hlo : ∀ j, j < 4 → u j = s j) (hhi : ∀ j, 12 ≤ j → u j = s j) : RingOK nT (upC c B (.inr (2, ringF ad B u))) ad B u tx := by
  have hb : B < 1000 - 30 := by unfold isB at hB; omega
  refine RingOK.sw hB h (hlo 2 (by omega)) (hlo 3 (by omega)) (fun j hj => hhi j (by omega)) upC_s (fun k h1 h2 => upC_n h1) ?_ ?_
  · intro i hi
    rw [upC_n (by omega), hlo 0 (by omega), hhi _ (by omega), hhi _ (by omega), hhi _ (by omega)]
    exact h.2.2.2.2.2.2.2.1 i hi
  · intro i hi
    rw [upC_n (by omega), hlo 1 (by omega), hhi _ (by omega), hhi _ (by omega), hhi _ (by omega)]
    exact h.2.2.2.2.2.2.2.2 i hi
/-- a child changes -/
theorem RingOK.chs {nT B i : Nat} {c : Nat → pE} {ad tx : Nat → Nat} {s u : Nat → Int32} (hB : isB B) (h : RingOK nT c ad B s tx) (hi : i < 10) (hu : ∀ j, j ≠ 12 + 3 * i → j ≠ 13 + 3 * i → j ≠ 14 + 3 * i → u j = s j) : RingOK nT (upC c (B + 10 + i) (.inr (0, [.int (u (12 + 3 * i)), .int (u (13 + 3 * i)), .int (u (14 + 3 * i))]))) ad B u tx := by
  have hb : B < 1000 - 30 := by unfold isB at hB; omega
  have er : ringF ad B u = ringF ad B s := by
    unfold ringF
    rw [hu 0 (by omega) (by omega) (by omega), hu 1 (by omega) (by omega) (by omega), hu 2 (by omega) (by omega) (by omega), hu 3 (by omega) (by omega) (by omega), hu 4 (by omega) (by omega) (by omega), hu 5 (by omega) (by omega) (by omega), hu 6 (by omega) (by omega) (by omega), hu 7 (by omega) (by omega) (by omega), hu 8 (by omega) (by omega) (by omega), hu 9 (by omega) (by omega) (by omega), hu 10 (by omega) (by omega) (by omega), hu 11 (by omega) (by omega) (by omega)]
  refine RingOK.sw hB h (hu 2 (by omega) (by omega) (by omega)) (hu 3 (by omega) (by omega) (by omega)) (fun j hj => hu j (by omega) (by omega) (by omega)) (by rw [upC_n (by omega), er]; exact h.1) (fun k h1 h2 => upC_n (by omega)) ?_ ?_
  · intro k hk
    by_cases ek : k = i
    · subst ek
      exact ⟨_, _, _, upC_s, fun _ => ⟨rfl, rfl, rfl⟩⟩
    · rw [upC_n (by omega), hu 0 (by omega) (by omega) (by omega), hu (12 + 3 * k) (by omega) (by omega) (by omega), hu (13 + 3 * k) (by omega) (by omega) (by omega), hu (14 + 3 * k) (by omega) (by omega) (by omega)]
      exact h.2.2.2.2.2.2.2.1 k hk
  · intro k hk
    rw [upC_n (by omega), hu 1 (by omega) (by omega) (by omega), hu (42 + 3 * k) (by omega) (by omega) (by omega), hu (43 + 3 * k) (by omega) (by omega) (by omega), hu (44 + 3 * k) (by omega) (by omega) (by omega)]
    exact h.2.2.2.2.2.2.2.2 k hk
/-- a stop changes -/
theorem RingOK.sps {nT B i : Nat} {c : Nat → pE} {ad tx : Nat → Nat} {s u : Nat → Int32} (hB : isB B) (h : RingOK nT c ad B s tx) (hi : i < 10) (hu : ∀ j, j ≠ 42 + 3 * i → j ≠ 43 + 3 * i → j ≠ 44 + 3 * i → u j = s j) : RingOK nT (upC c (B + 20 + i) (.inr (5, [.int (u (42 + 3 * i)), .int (u (43 + 3 * i)), .int (u (44 + 3 * i))]))) ad B u tx := by
  have hb : B < 1000 - 30 := by unfold isB at hB; omega
  have er : ringF ad B u = ringF ad B s := by
    unfold ringF
    rw [hu 0 (by omega) (by omega) (by omega), hu 1 (by omega) (by omega) (by omega), hu 2 (by omega) (by omega) (by omega), hu 3 (by omega) (by omega) (by omega), hu 4 (by omega) (by omega) (by omega), hu 5 (by omega) (by omega) (by omega), hu 6 (by omega) (by omega) (by omega), hu 7 (by omega) (by omega) (by omega), hu 8 (by omega) (by omega) (by omega), hu 9 (by omega) (by omega) (by omega), hu 10 (by omega) (by omega) (by omega), hu 11 (by omega) (by omega) (by omega)]
  refine RingOK.sw hB h (hu 2 (by omega) (by omega) (by omega)) (hu 3 (by omega) (by omega) (by omega)) (fun j hj => hu j (by omega) (by omega) (by omega)) (by rw [upC_n (by omega), er]; exact h.1) (fun k h1 h2 => upC_n (by omega)) ?_ ?_
  · intro k hk
    rw [upC_n (by omega), hu 0 (by omega) (by omega) (by omega), hu (12 + 3 * k) (by omega) (by omega) (by omega), hu (13 + 3 * k) (by omega) (by omega) (by omega), hu (14 + 3 * k) (by omega) (by omega) (by omega)]
    exact h.2.2.2.2.2.2.2.1 k hk
  · intro k hk
    by_cases ek : k = i
    · subst ek
      exact ⟨_, _, _, upC_s, fun _ => ⟨rfl, rfl, rfl⟩⟩
    · rw [upC_n (by omega), hu 1 (by omega) (by omega) (by omega), hu (42 + 3 * k) (by omega) (by omega) (by omega), hu (43 + 3 * k) (by omega) (by omega) (by omega), hu (44 + 3 * k) (by omega) (by omega) (by omega)]
      exact h.2.2.2.2.2.2.2.2 k hk
theorem own_B (B : Nat) {i : Nat} (hi : i < 100) : ownB B (B + i) := ⟨Nat.le_add_right _ _, by omega⟩
section CE
variable {nT B : Nat} {nd : Nat → Option Nat} {c : Nat → pE} {ad tx : Nat → Nat} {s : Nat → Int32}
/-- a scalar is set -/
theorem cp_s (hL : Lay nd ad (KC nT)) (hB : isB B) (h : RingOK nT c ad B s tx) {f j : Nat} {v : Int32} (hf : f < 18) (hj : 4 ≤ j ∧ j < 12) (hs : (ringF ad B s).set f (.int v) = ringF ad B (upd s j v)) : ∃ e, pI (MM nd c) (ad B) 2 f v = some (MM nd e) ∧ RingOK nT e ad B (upd s j v) tx ∧ ChB B c e := by
  refine ⟨_, pI_MM hL (KC_B0 hB) h.1 (by simpa [ringF] using hf), ?_, ChB.up (own_B B (i := 0) (by omega))⟩
  rw [hs]
  exact RingOK.scal hB h (fun k hk => upd_n (by omega)) (fun k hk => upd_n (by omega))
theorem cp_4 (hL : Lay nd ad (KC nT)) (hB : isB B) (h : RingOK nT c ad B s tx) {v : Int32} : ∃ e, pI (MM nd c) (ad B) 2 10 v = some (MM nd e) ∧ RingOK nT e ad B (upd s 4 v) tx ∧ ChB B c e := cp_s hL hB h (by omega) (by omega) rfl
theorem cp_5 (hL : Lay nd ad (KC nT)) (hB : isB B) (h : RingOK nT c ad B s tx) {v : Int32} : ∃ e, pI (MM nd c) (ad B) 2 11 v = some (MM nd e) ∧ RingOK nT e ad B (upd s 5 v) tx ∧ ChB B c e := cp_s hL hB h (by omega) (by omega) rfl
theorem cp_6 (hL : Lay nd ad (KC nT)) (hB : isB B) (h : RingOK nT c ad B s tx) {v : Int32} : ∃ e, pI (MM nd c) (ad B) 2 12 v = some (MM nd e) ∧ RingOK nT e ad B (upd s 6 v) tx ∧ ChB B c e := cp_s hL hB h (by omega) (by omega) rfl
theorem cp_7 (hL : Lay nd ad (KC nT)) (hB : isB B) (h : RingOK nT c ad B s tx) {v : Int32} : ∃ e, pI (MM nd c) (ad B) 2 13 v = some (MM nd e) ∧ RingOK nT e ad B (upd s 7 v) tx ∧ ChB B c e := cp_s hL hB h (by omega) (by omega) rfl
theorem cp_8 (hL : Lay nd ad (KC nT)) (hB : isB B) (h : RingOK nT c ad B s tx) {v : Int32} : ∃ e, pI (MM nd c) (ad B) 2 14 v = some (MM nd e) ∧ RingOK nT e ad B (upd s 8 v) tx ∧ ChB B c e := cp_s hL hB h (by omega) (by omega) rfl
theorem cp_9 (hL : Lay nd ad (KC nT)) (hB : isB B) (h : RingOK nT c ad B s tx) {v : Int32} : ∃ e, pI (MM nd c) (ad B) 2 15 v = some (MM nd e) ∧ RingOK nT e ad B (upd s 9 v) tx ∧ ChB B c e := cp_s hL hB h (by omega) (by omega) rfl
theorem cp_10 (hL : Lay nd ad (KC nT)) (hB : isB B) (h : RingOK nT c ad B s tx) {v : Int32} : ∃ e, pI (MM nd c) (ad B) 2 16 v = some (MM nd e) ∧ RingOK nT e ad B (upd s 10 v) tx ∧ ChB B c e := cp_s hL hB h (by omega) (by omega) rfl
theorem cp_11 (hL : Lay nd ad (KC nT)) (hB : isB B) (h : RingOK nT c ad B s tx) {v : Int32} : ∃ e, pI (MM nd c) (ad B) 2 17 v = some (MM nd e) ∧ RingOK nT e ad B (upd s 11 v) tx ∧ ChB B c e := cp_s hL hB h (by omega) (by omega) rfl
/-- a child's field is set -/
theorem cp_c (hL : Lay nd ad (KC nT)) (hB : isB B) (h : RingOK nT c ad B s tx) {i f : Nat} {v : Int32} (hi : i < 10) (hn : i < nt (s 0)) (hf : f < 3) : ∃ e, pI (MM nd c) (ad (B + 10 + i)) 0 f v = some (MM nd e) ∧ RingOK nT e ad B (upd s (12 + f + 3 * i) v) tx ∧ ChB B c e := by
  refine ⟨_, pI_MM hL (KC_ch hB hi) (ch_at h hi hn) (by simpa using hf), ?_, ChB.up (by rw [Nat.add_assoc]; exact own_B B (by omega))⟩
  have := RingOK.chs (u := upd s (12 + f + 3 * i) v) hB h hi (fun j h1 h2 h3 => upd_n (by omega))
  rcases (show f = 0 ∨ f = 1 ∨ f = 2 by omega) with e | e | e <;> subst e
  · rw [show 12 + 0 + 3 * i = 12 + 3 * i by omega, upd_s, upd_n (by omega), upd_n (by omega)] at this; exact this
  · rw [show 12 + 1 + 3 * i = 13 + 3 * i by omega, upd_s, upd_n (by omega), upd_n (by omega)] at this; exact this
  · rw [show 12 + 2 + 3 * i = 14 + 3 * i by omega, upd_s, upd_n (by omega), upd_n (by omega)] at this; exact this
theorem cp_p (hL : Lay nd ad (KC nT)) (hB : isB B) (h : RingOK nT c ad B s tx) {i f : Nat} {v : Int32} (hi : i < 10) (hn : i < nt (s 1)) (hf : f < 3) : ∃ e, pI (MM nd c) (ad (B + 20 + i)) 5 f v = some (MM nd e) ∧ RingOK nT e ad B (upd s (42 + f + 3 * i) v) tx ∧ ChB B c e := by
  refine ⟨_, pI_MM hL (KC_sp hB hi) (sp_at h hi hn) (by simpa using hf), ?_, ChB.up (by rw [Nat.add_assoc]; exact own_B B (by omega))⟩
  have := RingOK.sps (u := upd s (42 + f + 3 * i) v) hB h hi (fun j h1 h2 h3 => upd_n (by omega))
  rcases (show f = 0 ∨ f = 1 ∨ f = 2 by omega) with e | e | e <;> subst e
  · rw [show 42 + 0 + 3 * i = 42 + 3 * i by omega, upd_s, upd_n (by omega), upd_n (by omega)] at this; exact this
  · rw [show 42 + 1 + 3 * i = 43 + 3 * i by omega, upd_s, upd_n (by omega), upd_n (by omega)] at this; exact this
  · rw [show 42 + 2 + 3 * i = 44 + 3 * i by omega, upd_s, upd_n (by omega), upd_n (by omega)] at this; exact this
end CE
