/-! HOW BOTH BEGIN, and what text does -/
section BG
variable {D : Dat} {nT B : Nat} {nd nd2 : Nat → Option Nat} {c : Nat → pE} {ad ad2 : Nat → Nat} {fi : Nat → Int32} {fa : Nat → Nat → Int32}
theorem RingNew.ok (h : RingNew ad c B) : RingOK nT c ad B (fa0 0) (fun _ => 0) := by
  obtain ⟨a0, a1, a2, a3, a4, ⟨g5, a5, b5⟩, a6, a7, a8⟩ := h
  refine ⟨a0, a1, ⟨_, a2, fun i hi => absurd hi (Nat.not_lt_zero i)⟩, a3, ⟨_, a4, fun i hi => absurd hi (Nat.not_lt_zero i)⟩, ⟨g5, a5, fun k hk => b5 k hk⟩, ⟨_, a6⟩, fun i hi => ⟨0, 0, 0, a7 i hi, fun h => absurd h (Nat.not_lt_zero i)⟩, fun i hi => ⟨0, 0, 0, a8 i hi, fun h => absurd h (Nat.not_lt_zero i)⟩⟩
theorem Wf_0 : Wf (fa0 0) := by
  refine ⟨⟨0, rfl, by omega⟩, ⟨0, rfl, by omega⟩, ⟨0, rfl, by omega⟩, ⟨0, rfl, by omega⟩, ⟨0, rfl, by omega⟩, Or.inr rfl, ⟨0, rfl, Or.inr rfl⟩, Or.inl rfl, fun k hk => absurd hk (Nat.not_lt_zero k), fun k hk => absurd hk (Nat.not_lt_zero k), fun k hk => absurd hk (Nat.not_lt_zero k), fun k hk => absurd hk (Nat.not_lt_zero k)⟩
theorem Inv_0 (h : ObjNew ad c) : Inv 0 c ad fi0 fa0 := by
  obtain ⟨o, r1, r2, r3, d0, d1, d2, ⟨g4, s1, s1'⟩, s2, ⟨g5, s3, s3'⟩, s4, w⟩ := h
  refine ⟨⟨o, ⟨⟨0, 0, 0, 0, 0, 0, 0, d0⟩, ⟨_, d1, fun j hj => absurd hj (Nat.not_lt_zero j)⟩, ⟨_, d2⟩, 0, rfl, by omega⟩, ⟨⟨g4, s1, s1'⟩, fun k hk => ?_⟩, ⟨⟨g5, s3, s3'⟩, fun k hk => ?_⟩, ⟨_, w, fun j hj => absurd hj (Nat.not_lt_zero j)⟩, 0, rfl, by omega⟩, ⟨_, r1.ok, Wf_0, by decide⟩, ⟨_, _, r2.ok⟩, _, _, r3.ok, Or.inl rfl⟩
  · have e4 : fa0 4 k = -1 := by
      rcases (show k = 0 ∨ k = 1 ∨ k = 2 ∨ k = 3 by omega) with e | e | e | e <;> subst e <;> rfl
    refine ⟨by rw [e4]; exact (s2 k hk).1, ⟨_, (s2 k hk).2, fun _ _ => rfl⟩, Or.inl e4, 0, rfl, by omega⟩
  · obtain ⟨b1, b2, b3, b4⟩ := s4 k hk
    exact ⟨0, 0, 0, -1, 0, 0, _, b1, b2, b3, b4, ⟨0, rfl, by omega⟩, fun z => absurd z (show ¬ (0 : Int32) = 1 by decide), fun z => absurd z (show ¬ (0 : Int32) = 2 by decide), fun z => absurd z (show ¬ (0 : Int32) = 3 by decide)⟩
theorem R_textB {κ : Int32} {fj : Nat → Int32} {fb : Nat → Nat → Int32} (hR : Lay nd2 ad2 KR) (k3 : fX8_parse (ad2 31) (MR nd2 ad2 fi fa) = some (κ, MR nd2 ad2 fj fb)) (hneg : ¬ κ < 0) (e3 : fb 0 3 = 14) : fX8_text (ad2 31) (MR nd2 ad2 fi fa) = some (-1000000003, MR nd2 ad2 fj fb) := by
  unfold fX8_text
  rw [rcv hR, k3, Option.bind_some]
  show (if 0 ≤ κ then _ else _) = _
  rw [if_pos (Int32.not_lt.mp hneg), rg0 hR, Option.bind_some, rk3 hR, Option.bind_some, if_pos e3]
/-- behind a call of the class: both stand together -/
def CEnd (nT : Nat) (a1 : Nat) (fj : Nat → Int32) (fb : Nat → Nat → Int32) (m1 : Mem) : Prop := ∃ nT' nd' ad' e, m1 = MM nd' e ∧ ad' 0 = a1 ∧ Lay nd' ad' (KC nT') ∧ Inv nT' e ad' fj fb
theorem L_text (hL : Lay nd ad (KC nT)) (hR : Lay nd2 ad2 KR) (h : Inv nT c ad fi fa) : ∃ v fj fb, fX8_text (ad2 31) (MR nd2 ad2 fi fa) = some (v, MR nd2 ad2 fj fb) ∧ T D 132 IX7_text [.ref (ad 0)] (MM nd c) 3 188 (fun r m1 => r = some (.int v) ∧ CEnd nT (ad 0) fj fb m1) := by
  obtain ⟨⟨t0, f0, u0, ft0, ky0, lv0, sc0, r1⟩, ⟨g, r2, r3⟩, ⟨p0, r4⟩, l, r5, r6⟩ := h.1.2.1
  obtain ⟨tx, n1, n2, n3⟩ := h.n
  obtain ⟨n, m1, m2, m3⟩ := n2.n3
  have hl : nt (fi 14) = l := by rw [r5]; exact nt_nI (by omega)
  have hb : ByOK c (fa 13) l := ⟨r6, g, r2, fun j hj => (r3 j (by omega)).1⟩
  have hN : ByN (fa 13) l := fun j hj => (r3 j (by omega)).2
  have hb0 : ByR fi fa (fa 13) l := ⟨r6, r5, fun j hj => rfl⟩
  have hc : rdC ad c (nI l) t0 f0 u0 ft0 ky0 lv0 sc0 p0 = c := by
    funext j
    unfold rdC
    by_cases e1 : j = 400
    · subst e1; rw [upC_s, r1, r5]; rfl
    · rw [upC_n e1]
      by_cases e2 : j = 402
      · subst e2; rw [upC_s, r4]
      · rw [upC_n e2]
  have hbs : 92 + 200 * n ≤ bse n := by unfold bse; split <;> omega
  rcases J_parse (t := t0) (f := f0) (u := u0) (ft := ft0) (ky := ky0) (lv := lv0) (sc := sc0) (p := p0) hL hR hb hN hb0 m2 m1 with ⟨κ, t2, f2, u2, lv2, σ, p2, fj, fb, k1, k2, k3, k4, k5, k6, k7, k8, k9, k10, k11, k12, k13⟩ | ⟨F, t2, f2, u2, ky2, lv2, sc2, p2, fj, fb, k1, k2, k3, k4, k5, k6, k7, k8⟩
  · rw [hc] at k2
    obtain ⟨i1, w2, w4⟩ := h.red (t := t2) (f := f2) (v := u2) (ft := -1) (ky := nI κ) (lv := lv2) (sc := nI σ) (p := p2) k7 k8 k9 (fun j hj => k10 j (by omega))
    have e3 : fb 0 3 = nI n := by rw [k10 3 (by omega)]; exact m1
    have hneg : ¬ nI κ < 0 := Int32.not_lt.mpr (nI_pos' (by omega))
    obtain ⟨tx2, q1, q2, q3⟩ := i1.n
    have hg : gI (MM nd (rdC ad c 0 t2 f2 u2 (-1) (nI κ) lv2 (nI σ) p2)) (ad 100) 2 7 = some (nI n) := by rw [cg_tn hL B1 q1, e3]
    by_cases h14 : n < 14
    · have hbn : bse n = 96 + 200 * n := by unfold bse; rw [if_pos h14]
      rw [hbn] at k11 k12 k13
      have hne : ¬ nI n = 14 := fun z => absurd ((nI_eq (b := 14) (by omega) (by omega)).mp z) (by omega)
      refine ⟨nI n, fj, upF fb 0 (adT (fb 0) n (nI κ) lv2 (nI σ)), ?_, ?_⟩
      · have x0 : nI (92 + 200 * n) + 0 = nI (92 + 200 * n) := Int32.add_zero _
        have x1 : nI (92 + 200 * n) + 1 = nI (93 + 200 * n) := by rw [nI_1]; congr 1; omega
        have x2 : nI (92 + 200 * n) + 2 = nI (94 + 200 * n) := by rw [ixp2]; congr 1; omega
        have d3 : ∀ a b c2 : Int32, upd (upd (upd (fb 0) (92 + 200 * n) a) (93 + 200 * n) b) (94 + 200 * n) c2 3 = nI n := fun a b c2 => by rw [upd_n (by omega), upd_n (by omega), upd_n (by omega)]; exact e3
        have s3 : ∀ (fa : Nat → Nat → Int32) (v : Int32), stI (MR nd2 ad2 fj fa) (ad2 0) 3 v = some (MR nd2 ad2 fj (upF fa 0 (upd (fa 0) 3 v))) := fun fa v => rs0 (j := 3) hR (by omega)
        unfold fX8_text
        simp only [rcv hR, k3, Option.bind_some, if_pos (Int32.not_lt.mp hneg), rg0 hR, rk3 hR, e3, if_neg hne, fX8_textAt, ix92, x0, x1, x2, rg24 hR, rg22 hR, k5, k6, rs0 hR (show 92 + 200 * n < 3092 by omega), rs0 hR (show 93 + 200 * n < 3092 by omega), rs0 hR (show 94 + 200 * n < 3092 by omega), upF_s, upF_2, d3, nI_1, s3, upd_s, show nI (n + 1) - 1 = nI n from pk_sub (a := n + 1) (b := 1) (by omega)]
        rfl
      · have hr : ∃ fs, rdC ad c 0 t2 f2 u2 (-1) (nI κ) lv2 (nI σ) p2 100 = .inr (2, fs) := ⟨_, q1.1⟩
        have := tX7_textC (D := D) (tc2 := nI (n + 1)) (P := fun nd' ad' e => Lay nd' ad' (KC (nT + 1)) ∧ Inv (nT + 1) e ad' fj (upF fb 0 (adT (fb 0) n (nI κ) lv2 (nI σ)))) hL h.1 (show nI n < 14 from nI_lt (b := 14) h14 (by omega)) k4 hg k2 hr (fun nd' ad' c' hX => ?_)
        · rw [show nI (n + 1) - 1 = nI n from pk_sub (a := n + 1) (b := 1) (by omega)] at this
          refine T_to this (fun r m1 hq => ⟨hq.1, ?_⟩)
          obtain ⟨nd', ad', e, y1, y2, y3, y4⟩ := hq.2
          exact ⟨nT + 1, nd', ad', e, y1, y2, y3, y4⟩
        · obtain ⟨z1, z2, z3, z4, ⟨gg, z5, z6⟩, z7⟩ := hX
          have i2 : Inv (nT + 1) c' ad' fj fb := i1.gr z2 z3
          obtain ⟨tx3, v1, v2, v3⟩ := i2.n
          obtain ⟨e, y1, y2, y3, y4⟩ := C_addText z1 v1 v2 e3 h14 (X := nT) (by omega) k1 k4 z4 z5 (fun k hk => by rw [z6 k hk]; exact k11 k hk) z7 k12 k13
          have i3 : Inv (nT + 1) e ad' fj (upF fb 0 (adT (fb 0) n (nI κ) lv2 (nI σ))) := by
            refine i2.now y3 (tx := fun t => if t = n then nT else tx3 t) (by rw [upF_s]; exact y2) (by rw [upF_s]; exact y4) (by rw [upF_s, adT_lo (by omega) (by omega)]; exact v3) (fun k hk => upF_n (by omega))
          refine ⟨e, y1, o_n z1 i3.1, ?_, z1, i3⟩
          rw [cg_tn z1 B1 y2, adT_3]
    · have hn : n = 14 := by omega
      refine ⟨-1000000003, fj, fb, ?_, ?_⟩
      · exact R_textB hR k3 hneg (by rw [e3, hn]; rfl)
      · exact T_to (tX7_textB (D := D) hL h.1 (show (14 : Int32) ≤ nI n by rw [hn]; decide) hg k2) (fun r m1 hq => ⟨hq.1, nT, nd, ad, _, hq.2, rfl, hL, i1⟩)
  · rw [hc] at k2
    obtain ⟨i1, w2, w4⟩ := h.red (t := t2) (f := f2) (v := u2) (ft := nI F) (ky := ky2) (lv := lv2) (sc := sc2) (p := p2) k5 k6 k7 (fun j hj => k8 j (by omega))
    refine ⟨-100 - nI F, fj, fb, ?_, ?_⟩
    · unfold fX8_text
      simp only [rcv hR, k3, Option.bind_some, if_neg (show ¬ (0 : Int32) ≤ -1 by decide), rg15 hR, k4]
    · exact T_to (tX7_textA (D := D) hL h.1 (by omega) k2) (fun r m1 hq => ⟨hq.1, nT, nd, ad, _, hq.2, rfl, hL, i1⟩)
end BG
