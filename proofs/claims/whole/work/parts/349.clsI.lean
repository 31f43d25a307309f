section CN
variable {nT B B2 : Nat} {nd : Nat → Option Nat} {c : Nat → pE} {ad tx : Nat → Nat} {s : Nat → Int32}
theorem cpu (hL : Lay nd ad (KC nT)) (hB : isB B) {u : Nat → Int32} (h0 : c B = .inr (2, ringF ad B u)) {f j : Nat} {v : Int32} (hf : f < 18) (hs : (ringF ad B u).set f (.int v) = ringF ad B (upd u j v)) : pI (MM nd c) (ad B) 2 f v = some (MM nd (upC c B (.inr (2, ringF ad B (upd u j v))))) := by
  rw [pI_MM hL (KC_B0 hB) h0 (by simpa [ringF] using hf), hs]
theorem C_become (hL : Lay nd ad (KC nT)) (hB : isB B) (hB2 : isB B2) (hne : B ≠ B2) (h : RingOK nT c ad B2 s tx) (hw : Wf s) {s0 : Nat → Int32} {tx0 : Nat → Nat} (hd : RingOK nT c ad B s0 tx0) : ∃ e, fX2_become (ad B) (ad B2) (MM nd c) = some (MM nd e) ∧ RingOK nT e ad B s tx ∧ ChB B c e := by
  have hb : B ≠ B2 ∧ (B = 100 ∨ B = 200 ∨ B = 300) ∧ (B2 = 100 ∨ B2 = 200 ∨ B2 = 300) := ⟨hne, hB, hB2⟩
  obtain ⟨d0, d1, ⟨gp, d2, -⟩, d3, ⟨g4, d4, -⟩, ⟨g5, d5, -⟩, d6, d7, d8⟩ := hd
  obtain ⟨gs2, s2, s2'⟩ := h.2.2.1
  obtain ⟨gs5, s5, s5'⟩ := h.2.2.2.2.2.1
  have ob : ∀ {k : Nat}, ¬ ownB B k → k ≠ B := fun {k} hk z => hk (z ▸ own_B B (i := 0) (by omega))
  unfold fX2_become
  rw [cg_n hL hB2 h]
  simp only [Option.bind_some]
  rw [cpu (j := 0) hL hB d0 (by omega) rfl]
  simp only [Option.bind_some]
  -- children
  have f1 : ∀ k, ¬ ownB B k → upC c B (.inr (2, ringF ad B (upd s0 0 (s 0)))) k = c k := fun k hk => upC_n (ob hk)
  obtain ⟨c2, p2, q2, r2⟩ := bec_0 hL hB hB2 hne (src_ok hB hB2 hne h f1) hw upC_s upd_s (by rw [upC_n (by omega)]; exact d1) (fun i hi => by rw [upC_n (by omega)]; obtain ⟨a, b, d, q, -⟩ := d7 i hi; exact ⟨a, b, d, q⟩)
  rw [p2]
  simp only [Option.bind_some]
  have f2 : ∀ k, ¬ ownB B k → c2 k = c k := fun k hk => (q2 k (by unfold ownB at hk; omega)).trans (f1 k hk)
  have o2 : c2 B = .inr (2, ringF ad B (upd s0 0 (s 0))) := (q2 _ (by omega)).trans upC_s
  rw [cg_pn hL hB2 (src_ok hB hB2 hne h f2)]
  simp only [Option.bind_some]
  rw [cpu (j := 2) hL hB o2 (by omega) rfl]
  simp only [Option.bind_some]
  generalize hc3 : upC c2 B (.inr (2, ringF ad B (upd (upd s0 0 (s 0)) 2 (s 2)))) = c3
  have f3 : ∀ k, ¬ ownB B k → c3 k = c k := fun k hk => by rw [← hc3, upC_n (ob hk)]; exact f2 k hk
  have o3 : c3 B = .inr (2, ringF ad B (upd (upd s0 0 (s 0)) 2 (s 2))) := by rw [← hc3]; exact upC_s
  have n3 : ∀ k, k ≠ B → ¬ (B + 10 ≤ k ∧ k < B + 20) → c3 k = c k := fun k h1 h2 => by rw [← hc3, upC_n h1, q2 k h2, upC_n h1]
  have h3 := src_ok hB hB2 hne h f3
  -- papers
  rw [cr_2 hL hB2 h3]
  simp only [Option.bind_some]
  rw [show gR (MM nd c3) (ad B) 2 2 = some (ad (B + 2)) from gR_MM hL (KC_B0 hB) o3 rfl]
  simp only [Option.bind_some]
  have s23 : c3 (B2 + 2) = .inl (0, 20, .inl gs2) := (f3 _ (by unfold ownB; omega)).trans s2
  have d23 : c3 (B + 2) = .inl (0, 20, .inl gp) := (n3 _ (by omega) (by omega)).trans d2
  rw [show cpI (MM nd c3) (ad (B2 + 2)) 0 (ad (B + 2)) 0 20 = _ from cpI_MM (sp := 0) (dp := 0) (n := 20) hL (KC_B hB2 (by decide)) s23 (KC_B hB (by decide)) d23 (by decide) (by decide) (by decide) (by decide)]
  simp only [Option.bind_some]
  generalize hc4 : upC c3 (B + 2) (.inl (0, 20, .inl (va_cpy gs2 gp 0 0 20))) = c4
  have f4 : ∀ k, ¬ ownB B k → c4 k = c k := fun k hk => by rw [← hc4, upC_n (by unfold ownB at hk; omega)]; exact f3 k hk
  have n4 : ∀ k, k ≠ B + 2 → c4 k = c3 k := fun k hk => by rw [← hc4, upC_n hk]
  have o4 : c4 B = _ := (n4 _ (by omega)).trans o3
  rw [cg_sn hL hB2 (src_ok hB hB2 hne h f4)]
  simp only [Option.bind_some]
  rw [cpu (j := 1) hL hB o4 (by omega) rfl]
  simp only [Option.bind_some]
  generalize hc5 : upC c4 B (.inr (2, ringF ad B (upd (upd (upd s0 0 (s 0)) 2 (s 2)) 1 (s 1)))) = c5
  have f5 : ∀ k, ¬ ownB B k → c5 k = c k := fun k hk => by rw [← hc5, upC_n (ob hk)]; exact f4 k hk
  have o5 : c5 B = .inr (2, ringF ad B (upd (upd (upd s0 0 (s 0)) 2 (s 2)) 1 (s 1))) := by rw [← hc5]; exact upC_s
  have n5 : ∀ k, k ≠ B → k ≠ B + 2 → ¬ (B + 10 ≤ k ∧ k < B + 20) → c5 k = c k := fun k h1 h2 h3 => by rw [← hc5, upC_n h1, n4 k h2, n3 k h1 h3]
  -- stops
  obtain ⟨c6, p6, q6, r6⟩ := bec_1 hL hB hB2 hne (src_ok hB hB2 hne h f5) hw o5 upd_s (by rw [n5 _ (by omega) (by omega) (by omega)]; exact d3) (fun i hi => by rw [n5 _ (by omega) (by omega) (by omega)]; obtain ⟨a, b, d, q, -⟩ := d8 i hi; exact ⟨a, b, d, q⟩)
  rw [p6]
  simp only [Option.bind_some]
  have f6 : ∀ k, ¬ ownB B k → c6 k = c k := fun k hk => (q6 k (by unfold ownB at hk; omega)).trans (f5 k hk)
  have o6 : c6 B = _ := (q6 _ (by omega)).trans o5
  rw [cg_tn hL hB2 (src_ok hB hB2 hne h f6)]
  simp only [Option.bind_some]
  rw [cpu (j := 3) hL hB o6 (by omega) rfl]
  simp only [Option.bind_some]
  generalize hc7 : upC c6 B (.inr (2, ringF ad B (upd (upd (upd (upd s0 0 (s 0)) 2 (s 2)) 1 (s 1)) 3 (s 3)))) = c7
  have f7 : ∀ k, ¬ ownB B k → c7 k = c k := fun k hk => by rw [← hc7, upC_n (ob hk)]; exact f6 k hk
  have o7 : c7 B = .inr (2, ringF ad B (upd (upd (upd (upd s0 0 (s 0)) 2 (s 2)) 1 (s 1)) 3 (s 3))) := by rw [← hc7]; exact upC_s
  have n7 : ∀ k, k ≠ B → c7 k = c6 k := fun k h1 => by rw [← hc7, upC_n h1]
  -- texts
  obtain ⟨c8, p8, q8, g8, r8, r8'⟩ := bec_2 hL hB hB2 hne (src_ok hB hB2 hne h f7) hw o7 upd_s (by rw [n7 _ (by omega), q6 _ (by omega), n5 _ (by omega) (by omega) (by omega)]; exact ⟨g4, d4⟩)
  rw [p8]
  simp only [Option.bind_some]
  have f8 : ∀ k, ¬ ownB B k → c8 k = c k := fun k hk => (q8 k (by unfold ownB at hk; omega)).trans (f7 k hk)
  have o8 : c8 B = _ := (q8 _ (by omega)).trans o7
  have h8 := src_ok hB hB2 hne h f8
  rw [cr_5 hL hB2 h8]
  simp only [Option.bind_some]
  rw [show gR (MM nd c8) (ad B) 2 8 = some (ad (B + 5)) from gR_MM hL (KC_B0 hB) o8 rfl]
  simp only [Option.bind_some]
  have s58 : c8 (B2 + 5) = .inl (0, 3, .inl gs5) := (f8 _ (by unfold ownB; omega)).trans s5
  have d58 : c8 (B + 5) = .inl (0, 3, .inl g5) := by rw [q8 _ (by omega), n7 _ (by omega), q6 _ (by omega), n5 _ (by omega) (by omega) (by omega)]; exact d5
  rw [show cpI (MM nd c8) (ad (B2 + 5)) 0 (ad (B + 5)) 0 3 = _ from cpI_MM (sp := 0) (dp := 0) (n := 3) hL (KC_B hB2 (by decide)) s58 (KC_B hB (by decide)) d58 (by decide) (by decide) (by decide) (by decide)]
  simp only [Option.bind_some]
  generalize hc9 : upC c8 (B + 5) (.inl (0, 3, .inl (va_cpy gs5 g5 0 0 3))) = c9
  have f9 : ∀ k, ¬ ownB B k → c9 k = c k := fun k hk => by rw [← hc9, upC_n (by unfold ownB at hk; omega)]; exact f8 k hk
  have n9 : ∀ k, k ≠ B + 5 → c9 k = c8 k := fun k hk => by rw [← hc9, upC_n hk]
  have o9 : c9 B = _ := (n9 _ (by omega)).trans o8
  have fu : ∀ (u : Nat → Int32) k, ¬ ownB B k → upC c9 B (.inr (2, ringF ad B u)) k = c k := fun u k hk => by rw [upC_n (ob hk)]; exact f9 k hk
  -- the scalars
  rw [cg_4 hL hB2 (src_ok hB hB2 hne h f9)]
  simp only [Option.bind_some]
  rw [cpu (j := 4) hL hB o9 (by omega) rfl]
  simp only [Option.bind_some, cg_5 hL hB2 (src_ok hB hB2 hne h (fu _))]
  rw [cpu (j := 5) hL hB upC_s (by omega) rfl, upC_2]
  simp only [Option.bind_some, cg_6 hL hB2 (src_ok hB hB2 hne h (fu _))]
  rw [cpu (j := 6) hL hB upC_s (by omega) rfl, upC_2]
  simp only [Option.bind_some, cg_7 hL hB2 (src_ok hB hB2 hne h (fu _))]
  rw [cpu (j := 7) hL hB upC_s (by omega) rfl, upC_2]
  simp only [Option.bind_some, cg_8 hL hB2 (src_ok hB hB2 hne h (fu _))]
  rw [cpu (j := 8) hL hB upC_s (by omega) rfl, upC_2]
  simp only [Option.bind_some, cg_9 hL hB2 (src_ok hB hB2 hne h (fu _))]
  rw [cpu (j := 9) hL hB upC_s (by omega) rfl, upC_2]
  simp only [Option.bind_some, cg_10 hL hB2 (src_ok hB hB2 hne h (fu _))]
  rw [cpu (j := 10) hL hB upC_s (by omega) rfl, upC_2]
  simp only [Option.bind_some, cg_11 hL hB2 (src_ok hB hB2 hne h (fu _))]
  rw [cpu (j := 11) hL hB upC_s (by omega) rfl, upC_2]
  refine ⟨_, rfl, ?_, fun k hk => Or.inl (fu _ k hk)⟩
  have hS := src_ok hB hB2 hne h (fu s)
  refine ⟨upC_s, ?_, ?_, ?_, ?_, ?_, ?_, ?_, ?_⟩
  · rw [upC_n (by omega), n9 _ (by omega), q8 _ (by omega), n7 _ (by omega), q6 _ (by omega), n5 _ (by omega) (by omega) (by omega)]; exact d1
  · rw [upC_n (by omega), n9 _ (by omega), q8 _ (by omega), n7 _ (by omega), q6 _ (by omega), ← hc5, upC_n (by omega), ← hc4, upC_s]
    obtain ⟨m, m1, m2, m3⟩ := hw.n2
    refine ⟨_, rfl, fun i hi => ?_⟩
    rw [← s2' i hi]
    simp only [va_cpy]
    rw [if_pos (by omega)]
    congr 1
    omega
  · rw [upC_n (by omega), n9 _ (by omega), q8 _ (by omega), n7 _ (by omega), q6 _ (by omega), n5 _ (by omega) (by omega) (by omega)]; exact d3
  · rw [upC_n (by omega), n9 _ (by omega), r8]
    refine ⟨g8, rfl, fun t ht => ⟨r8' t ht, (C_txt hL h ht).1, ?_⟩⟩
    exact TextOK.cg (fu _ _ (by unfold ownB; omega)) (fu _ _ (by unfold ownB; omega)) (fu _ _ (by unfold ownB; omega)) (C_txt hL h ht).2
  · rw [upC_n (by omega), ← hc9, upC_s]
    refine ⟨_, rfl, fun k hk => ?_⟩
    rw [← s5' k hk]
    simp only [va_cpy]
    rw [if_pos (by omega)]
    congr 1
    omega
  · rw [upC_n (by omega), n9 _ (by omega), q8 _ (by omega), n7 _ (by omega), q6 _ (by omega), n5 _ (by omega) (by omega) (by omega)]; exact d6
  · intro i hi
    rw [upC_n (by omega), n9 _ (by omega), q8 _ (by omega), n7 _ (by omega), q6 _ (by omega), ← hc5, upC_n (by omega), n4 _ (by omega), ← hc3, upC_n (by omega)]
    exact r2 i hi
  · intro i hi
    rw [upC_n (by omega), n9 _ (by omega), q8 _ (by omega), n7 _ (by omega)]
    exact r6 i hi
end CN
