section TB
variable {nT : Nat} {nd : Nat → Option Nat} {c : Nat → pE} {ad tx : Nat → Nat} {s g p : Nat → Int32}
theorem C_addText (hL : Lay nd ad (KC nT)) (h : RingOK nT c ad 100 s tx) (w : Wf s) {n X κ σ : Nat} {lv : Int32} (h3 : s 3 = nI n) (hn : n < 14) (hX : X < nT) (hκ : κ < 3) (hσ : σ ≤ 92)
    (t1 : c (1000 + 3 * X) = .inr (6, [.int (nI κ), .int lv, .ref (ad (1000 + 3 * X + 1)), .ref (ad (1000 + 3 * X + 2))])) (t2 : c (1000 + 3 * X + 1) = .inl (0, σ, .inl g)) (t2' : ∀ k, k < σ → g k = encS (nI κ) (s (96 + 200 * n + 2 * k)) (s (96 + 200 * n + 2 * k + 1))) (t3 : c (1000 + 3 * X + 2) = .inl (0, σ, .inl p))
    (x1 : ∀ k, k < σ → stB s (96 + 200 * n) (nI κ) k) (x2 : dpB s (96 + 200 * n) σ = 1) :
    ∃ e, fX2_addText (ad 100) (ad (1000 + 3 * X)) (MM nd c) = some (MM nd e) ∧ RingOK nT e ad 100 (adT s n (nI κ) lv (nI σ)) (fun t => if t = n then X else tx t) ∧ ChB 100 c e ∧ Wf (adT s n (nI κ) lv (nI σ)) := by
  have hr := h.1
  obtain ⟨n0, p1, p2, p3⟩ := w.n0
  obtain ⟨n1, q1, q2, q3⟩ := w.n1
  obtain ⟨n2, r1, r2, r3⟩ := w.n2
  have n3 : nt (s 3) = n := by rw [h3]; exact nt_nI (by omega)
  obtain ⟨a0, a1, ⟨g2, a2, a2'⟩, a3, ⟨g4, a4, a4'⟩, ⟨g5, a5, a5'⟩, ⟨g6, a6⟩, a7, a8⟩ := h
  generalize hu : adT s n (nI κ) lv (nI σ) = u
  have lo : ∀ j, j < 92 + 200 * n → j ≠ 3 → u j = s j := fun j h1 h2 => by rw [← hu]; exact adT_lo h1 h2
  have u3 : u 3 = nI (n + 1) := by rw [← hu]; exact adT_3
  have xn : TxOK u n := by rw [← hu]; exact TxOK.new hκ hσ x1 x2
  have wu : Wf u := w.e2 (n := n + 1) ⟨u3, by omega⟩ (fun j h1 h2 => lo j (by omega) h2) (fun t ht => by
    by_cases e : t = n
    · subst e; exact xn
    · exact (w.tx (by omega)).e2 (fun j h1 h2 => lo j (by omega) (by omega)))
  have er : (ringF ad 100 s).set 7 (.int (nI (n + 1))) = ringF ad 100 u := by
    unfold ringF
    rw [lo 0 (by omega) (by omega), lo 1 (by omega) (by omega), lo 2 (by omega) (by omega), u3, lo 4 (by omega) (by omega), lo 5 (by omega) (by omega), lo 6 (by omega) (by omega), lo 7 (by omega) (by omega), lo 8 (by omega) (by omega), lo 9 (by omega) (by omega), lo 10 (by omega) (by omega), lo 11 (by omega) (by omega)]
    rfl
  have K0 : KC nT 100 := KC_B0 B1
  have K4 : KC nT 104 := KC_B B1 (i := 4) (by omega)
  have K5 : KC nT 105 := KC_B B1 (i := 5) (by omega)
  have KX : KC nT (1000 + 3 * X) := KC_tx (i := 0) hX (by omega)
  have d1 : ∀ v : pE, upC c 104 v (1000 + 3 * X) = c (1000 + 3 * X) := fun v => upC_n (by omega)
  have d2 : ∀ v : pE, upC c 104 v 100 = .inr (2, ringF ad 100 s) := fun v => by rw [upC_n (by omega)]; exact a0
  have d3 : ∀ v : pE, upC c 104 v 105 = .inl (0, 3, .inl g5) := fun v => by rw [upC_n (by omega)]; exact a5
  have d4 : ∀ v v2 : pE, upC (upC c 104 v) 105 v2 100 = .inr (2, ringF ad 100 s) := fun v v2 => by rw [upC_n (by omega)]; exact d2 v
  have hwi : (0 : Int32) ≤ nI κ ∧ nI κ ≤ 2 := ⟨nI_pos' (by omega), nI_le (b := 2) (by omega) (by omega)⟩
  refine ⟨upC (upC (upC c 104 (.inl (3, 14, rfs (va_up g4 n (some (ad (1000 + 3 * X))))))) 105 (.inl (0, 3, .inl (upd g5 κ (nI n))))) 100 (.inr (2, ringF ad 100 u)), ?_, ?_, (ChB.up (by unfold ownB; omega)).tr ((ChB.up (by unfold ownB; omega)).tr (ChB.up (by unfold ownB; omega))), wu⟩
  · unfold fX2_addText
    have e1 : gI (MM nd c) (ad 100) 2 7 = some (nI n) := by rw [gI_MM hL K0 a0 (v := s 3) rfl, h3]
    have e2 : gI (MM nd c) (ad (1000 + 3 * X)) 6 0 = some (nI κ) := gI_MM hL KX t1 rfl
    have e3 : gR (MM nd c) (ad 100) 2 6 = some (ad 104) := gR_MM hL K0 a0 rfl
    have e4 := stR_MM hL K4 a4 KX t1 hn (by omega)
    simp only [e1, if_neg (show ¬ (14 : Int32) ≤ nI n from nI_ge (b := 14) hn (by omega)), e2, C_within, decide_eq_true hwi, if_true, e3, e4, Option.bind_some]
    have e5 : ∀ v : pE, gR (MM nd (upC c 104 v)) (ad 100) 2 8 = some (ad 105) := fun v => gR_MM hL K0 (d2 v) rfl
    have e6 : ∀ v : pE, gI (MM nd (upC c 104 v)) (ad (1000 + 3 * X)) 6 0 = some (nI κ) := fun v => gI_MM hL KX ((d1 v).trans t1) rfl
    have e7 : ∀ v : pE, gI (MM nd (upC c 104 v)) (ad 100) 2 7 = some (nI n) := fun v => by rw [gI_MM hL K0 (d2 v) (v := s 3) rfl, h3]
    have e8 : ∀ v : pE, stI (MM nd (upC c 104 v)) (ad 105) (nI κ) (nI n) = _ := fun v => stI_MM hL K5 (d3 v) hκ (by omega)
    simp only [e5, e6, e7, e8, Option.bind_some]
    have e9 : ∀ v v2 : pE, gI (MM nd (upC (upC c 104 v) 105 v2)) (ad 100) 2 7 = some (nI n) := fun v v2 => by rw [gI_MM hL K0 (d4 v v2) (v := s 3) rfl, h3]
    have e10 : ∀ (v v2 : pE) (x : Int32), pI (MM nd (upC (upC c 104 v) 105 v2)) (ad 100) 2 7 x = _ := fun v v2 x => pI_MM hL K0 (d4 v v2) (by unfold ringF; simp)
    simp only [e9, e10, nI_1, er, Option.bind_some]
  · have hlo : ∀ k : Nat, k ≠ 100 → k ≠ 104 → k ≠ 105 → upC (upC (upC c 104 (.inl (3, 14, rfs (va_up g4 n (some (ad (1000 + 3 * X))))))) 105 (.inl (0, 3, .inl (upd g5 κ (nI n))))) 100 (.inr (2, ringF ad 100 u)) k = c k := fun k h1 h2 h3 => by rw [upC_n h1, upC_n h3, upC_n h2]
    generalize hE : upC (upC (upC c 104 (.inl (3, 14, rfs (va_up g4 n (some (ad (1000 + 3 * X))))))) 105 (.inl (0, 3, .inl (upd g5 κ (nI n))))) 100 (.inr (2, ringF ad 100 u)) = e at hlo
    have E0 : e 100 = .inr (2, ringF ad 100 u) := by rw [← hE]; exact upC_s
    have E4 : e 104 = .inl (3, 14, rfs (va_up g4 n (some (ad (1000 + 3 * X))))) := by rw [← hE, upC_n (by omega), upC_n (by omega), upC_s]
    have E5 : e 105 = .inl (0, 3, .inl (upd g5 κ (nI n))) := by rw [← hE, upC_n (by omega), upC_s]
    refine ⟨E0, by rw [hlo _ (by omega) (by omega) (by omega)]; exact a1, ⟨g2, by rw [hlo _ (by omega) (by omega) (by omega)]; exact a2, fun i hi => ?_⟩, by rw [hlo _ (by omega) (by omega) (by omega)]; exact a3, ⟨_, E4, fun t ht => ?_⟩, ⟨_, E5, fun k hk => ?_⟩, ⟨g6, by rw [hlo _ (by omega) (by omega) (by omega)]; exact a6⟩, fun i hi => ?_, fun i hi => ?_⟩
    · rw [lo 2 (by omega) (by omega)] at hi
      rw [lo _ (by omega) (by omega)]
      exact a2' i hi
    · rw [u3, nt_nI (by omega)] at ht
      by_cases e0 : t = n
      · subst e0
        simp only [if_pos rfl]
        have k1 : u (92 + 200 * t) = nI κ := by rw [← hu]; exact adT_ky
        have k2 : u (93 + 200 * t) = lv := by rw [← hu]; exact adT_lv
        have k3 : cnS u t = σ := by unfold cnS; rw [← hu, adT_sg]; exact nt_nI (by omega)
        refine ⟨by simp [va_up], hX, ?_, ⟨g, ?_, fun k hk => ?_⟩, p, ?_⟩
        · rw [hlo _ (by omega) (by omega) (by omega), k1, k2]; exact t1
        · rw [hlo _ (by omega) (by omega) (by omega), k3]; exact t2
        · rw [k3] at hk
          unfold whS vlS
          rw [k1, show u (96 + 200 * t + 2 * k) = s (96 + 200 * t + 2 * k) by rw [← hu]; exact adT_hi (by omega), show u (97 + 200 * t + 2 * k) = s (97 + 200 * t + 2 * k) by rw [← hu]; exact adT_hi (by omega), show 97 + 200 * t + 2 * k = 96 + 200 * t + 2 * k + 1 by omega]
          exact t2' k hk
        · rw [hlo _ (by omega) (by omega) (by omega), k3]; exact t3
      · simp only [if_neg e0]
        obtain ⟨b1, b2, b3⟩ := a4' t (by omega)
        refine ⟨by simp [va_up, e0]; exact b1, b2, ?_⟩
        exact (b3.cg (hlo _ (by omega) (by omega) (by omega)) (hlo _ (by omega) (by omega) (by omega)) (hlo _ (by omega) (by omega) (by omega))).e2 (w.tx (by omega)) (fun j h1 h2 => lo j (by omega) (by omega))
    · unfold lawS
      rw [u3, nt_nI (by omega)]
      show upd g5 κ (nI n) k = oI (if u (92 + 200 * n) = nI k then some n else cnsF u (nI k) n)
      rw [← hu, adT_ky, hu]
      by_cases e0 : k = κ
      · subst e0
        rw [upd_s, if_pos rfl]
        rfl
      · rw [upd_n e0, if_neg (fun z => e0 ((nI_eq (by omega) (by omega)).mp z).symm), a5' k hk]
        unfold lawS
        rw [n3, cnsF_cg (fun t ht => lo _ (by omega) (by omega))]
    · rw [hlo _ (by omega) (by omega) (by omega), lo 0 (by omega) (by omega)]
      obtain ⟨x, y, z, b1, b2⟩ := a7 i hi
      refine ⟨x, y, z, b1, fun h9 => ?_⟩
      rw [lo _ (by omega) (by omega), lo _ (by omega) (by omega), lo _ (by omega) (by omega)]
      exact b2 h9
    · rw [hlo _ (by omega) (by omega) (by omega), lo 1 (by omega) (by omega)]
      obtain ⟨x, y, z, b1, b2⟩ := a8 i hi
      refine ⟨x, y, z, b1, fun h9 => ?_⟩
      rw [lo _ (by omega) (by omega), lo _ (by omega) (by omega), lo _ (by omega) (by omega)]
      exact b2 h9
end TB
