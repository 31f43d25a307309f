def bse (n : Nat) : Nat := if n < 14 then 96 + 200 * n else 2892
section QE
variable {nT : Nat} {nd nd2 : Nat → Option Nat} {c : Nat → pE} {ad ad2 : Nat → Nat} {b p : Nat → Int32} {l n : Nat} {t lv ft ky sc f u : Int32} {fi : Nat → Int32} {fa : Nat → Nat → Int32}
theorem J_parse (hL : Lay nd ad (KC nT)) (hR : Lay nd2 ad2 KR) (hb : ByOK c b l) (hN : ByN b l) (hb0 : ByR fi fa b l) (hn : n ≤ 14) (h3 : fa 0 3 = nI n) :
    (∃ κ t2 f2 u2 lv2 σ p2 fj fb, κ < 3 ∧ fX1_parse (ad 400) (MM nd (rdC ad c (nI l) t f u ft ky lv sc p)) = some (-1, MM nd (rdC ad c (nI l) t2 f2 u2 (-1) (nI κ) lv2 (nI σ) p2)) ∧ fX8_parse (ad2 31) (MR nd2 ad2 fi fa) = some (nI κ, MR nd2 ad2 fj fb) ∧ σ ≤ 92 ∧ fj 22 = nI σ ∧ fj 24 = lv2 ∧ fj 14 = 0 ∧ (∀ k, ¬ (14 ≤ k ∧ k ≤ 24) → fj k = fi k) ∧ (∀ k, k ≠ 0 → fb k = fa k) ∧ (∀ j, j < bse n ∨ bse n + 196 ≤ j → fb 0 j = fa 0 j) ∧ (∀ k, k < σ → p2 k = encS (nI κ) (fb 0 (bse n + 2 * k)) (fb 0 (bse n + 2 * k + 1))) ∧ (∀ k, k < σ → stB (fb 0) (bse n) (nI κ) k) ∧ dpB (fb 0) (bse n) σ = 1) ∨
    (∃ F t2 f2 u2 ky2 lv2 sc2 p2 fj fb, F ≤ l ∧ fX1_parse (ad 400) (MM nd (rdC ad c (nI l) t f u ft ky lv sc p)) = some (nI F, MM nd (rdC ad c (nI l) t2 f2 u2 (nI F) ky2 lv2 sc2 p2)) ∧ fX8_parse (ad2 31) (MR nd2 ad2 fi fa) = some (-1, MR nd2 ad2 fj fb) ∧ fj 15 = nI F ∧ fj 14 = 0 ∧ (∀ k, ¬ (14 ≤ k ∧ k ≤ 24) → fj k = fi k) ∧ (∀ k, k ≠ 0 → fb k = fa k) ∧ (∀ j, j < bse n ∨ bse n + 196 ≤ j → fb 0 j = fa 0 j)) := by
  have h96 := hb.1
  have hβ : bse n ≤ 2896 := by unfold bse; split <;> omega
  have hy : (if (14 : Int32) ≤ nI n then some (2892 : Int32) else some ((92 : Int32) + 200 * nI n + 4)) = some (nI (bse n)) := by
    unfold bse
    by_cases h14 : n < 14
    · rw [if_neg (show ¬ (14 : Int32) ≤ nI n from nI_ge (b := 14) h14 (by omega)), if_pos h14, ix92, ixp4, show 92 + 200 * n + 4 = 96 + 200 * n by omega]
    · rw [if_pos (show (14 : Int32) ≤ nI n from nI_le (a := 14) (by omega) (by omega)), if_neg h14]
      rfl
  unfold fX1_parse fX8_parse
  simp only [rdp5 hL, rdp7 hL, rdp9 hL, rdp4 hL, rdp2 hL, rdv hL, rpu16 hR, rpu17 hR, rpu20 hR, rpu21 hR, rpu22 hR, rpu24 hR, rg0 hR, rk3 hR, h3, rcv hR, fX8_textAt, Option.bind_some, hy, rpu23 hR]
  generalize hf2 : upd (upd (upd (upd (upd (upd (upd fi 16 0) 17 3) 20 0) 21 0) 22 0) 24 0) 23 (nI (bse n)) = g0
  have z16 : g0 16 = nI 0 := by rw [← hf2]; rfl
  have z20 : g0 20 = nI 0 := by rw [← hf2]; rfl
  have z21 : g0 21 = nI 0 := by rw [← hf2]; rfl
  have z22 : g0 22 = nI 0 := by rw [← hf2]; rfl
  have z24 : g0 24 = 0 := by rw [← hf2]; rfl
  have z23 : g0 23 = nI (bse n) := by rw [← hf2]; rfl
  have zk : ∀ k, ¬ (15 ≤ k ∧ k ≤ 24) → g0 k = fi k := fun k hk => by
    rw [← hf2, upd_n (by omega), upd_n (by omega), upd_n (by omega), upd_n (by omega), upd_n (by omega), upd_n (by omega), upd_n (by omega)]
  have hb1 : ByR g0 fa b l := ⟨hb0.1, (zk 14 (by omega)).trans hb0.2.1, hb0.2.2⟩
  obtain ⟨fj, r1, r2, r3, r4, r5, r6, r7, r8⟩ := R_nextToken hR hb1 (Nat.zero_le l) z16 (g := false) (by simp)
  have tk : TokR b l (lxT b l (-1) 0) (lxF b l 0) (lxU b l 0) fj := lx_tok (Nat.zero_le l) (by unfold glT bwT; rfl) r5 r6 r7 r8
  have cp0 : ∀ κ, Cp b l κ (bse n) 0 0 0 0 (lxF b l 0) (lxU b l 0) (lxT b l (-1) 0) 0 p fi fj fa fa := fun κ => ⟨tk, r3, r4, (r2 20 (by omega)).trans z20, (r2 21 (by omega)).trans z21, (r2 22 (by omega)).trans z22, (r2 23 (by omega)).trans z23, (r2 24 (by omega)).trans z24, fun k hk => (r2 k (by omega)).trans (zk k hk), fun _ _ => rfl, fun _ _ => rfl, fun k hk => absurd hk (Nat.not_lt_zero k), fun k hk => absurd hk (Nat.not_lt_zero k), rfl⟩
  have hbj := (cp0 0).by hb0
  have ca := C_advance (t := -1) (f := f) (ft := -1) (ky := ky) (lv := 0) (sc := 0) (p := p) hL hb (Nat.zero_le l)
  rw [show nI 0 = 0 from rfl] at ca
  simp only [r1, ca, rdv hL, rcv hR, R_key hR hN hbj tk r3 r4, C_parseKey hL hb tk.1 tk.2.1, Option.bind_some]
  by_cases hk3 : kyB b (lxT b l (-1) 0) (lxF b l 0) (lxU b l 0) = 3
  · simp only [if_pos hk3, Option.bind_some, rdv hL, FX1_parseJoined, show (0 : Int32) = nI 0 from rfl]
    have hfl : lxF b l 0 < 2 ^ 31 := by have := tk.1; have := tk.2.1; omega
    rw [PJ_bad hL hfl bigP 0 (by omega) (by unfold bigP; omega)]
    simp only [Option.bind_some, rdg2 hL, rdv hL, C_refuse2 hL (nI_pos' hfl)]
    rw [show (if lxT b l (-1) 0 = -1 then some (MM nd (rdC ad c (nI l) (lxT b l (-1) 0) (nI (lxF b l 0)) (nI (lxU b l 0)) (nI (lxF b l 0)) ky (nI 0) (nI 0) p)) else some (MM nd (rdC ad c (nI l) (lxT b l (-1) 0) (nI (lxF b l 0)) (nI (lxU b l 0)) (nI (lxF b l 0)) ky (nI 0) (nI 0) p))) = some (MM nd (rdC ad c (nI l) (lxT b l (-1) 0) (nI (lxF b l 0)) (nI (lxU b l 0)) (nI (lxF b l 0)) ky (nI 0) (nI 0) p)) by split <;> rfl]
    simp only [Option.bind_some, rdg5 hL, if_pos (show (-1 : Int32) < nI 0 by decide), if_true, rpu14 hR]
    right
    refine ⟨lxF b l 0, _, _, _, _, _, _, _, _, fa, by have := tk.1; have := tk.2.1; omega, rfl, rfl, by rw [upd_n (by decide)]; exact r3, upd_s, fun k hk => ?_, fun _ _ => rfl, fun _ _ => rfl⟩
    rw [upd_n (by omega), r2 k (by omega)]
    exact zk k (by omega)
  · obtain ⟨k4, k5⟩ := kyB_4 hk3
    generalize kyB b (lxT b l (-1) 0) (lxF b l 0) (lxU b l 0) = κ at hk3 k5 ⊢
    have hun := tk.2.1
    have hfu := tk.1
    obtain ⟨fk, a1, a2, a3⟩ := J_adv hR hN hb0 (cp0 κ)
    have hneg : ¬ nI κ < 0 := Int32.not_lt.mpr (nI_pos' (by omega))
    simp only [if_neg hk3, Option.bind_some, rdv hL, FX1_parseJoined, FX8_either, show (0 : Int32) = nI 0 from rfl, if_neg (show ¬ nI κ < nI 0 from hneg), if_neg (show ¬ (1 : Int32) = nI 0 by decide), a1, rcv hR]
    rcases (J_all (κ := κ) (β := bse n) hL hR hb hN hb0 hβ k5 bigP).1 0 0 0 bigP (by omega) (by omega) (by omega) (by unfold bigP; omega) (by unfold bigP; omega) 0 0 0 _ _ _ _ _ _ _ a2 (by omega) with ⟨t2, fr2, un2, lv2, σ2, p2, fi1, fa1, c1, c2, c3, c4, c5⟩ | ⟨F, m, fi1, fa1, f1, f2, f3, f4, f5, f6⟩
    · rw [show (0 : Int32) = nI 0 from rfl] at c1
      have q1 := c3.1.1
      have q2 := c3.1.2.1
      simp only [c1, c2, Option.bind_some, rdg2 hL, rdv hL, rg17 hR, if_true]
      obtain ⟨d1, d2, d3, d4, d5, d6, d7, d8, d9, d10, d11, d12, d13, d14⟩ := c3
      by_cases ht : t2 = -1
      · have e17 : fi1 17 = nI 0 := by
          rcases d1.2.2 with ⟨e1, e2, -⟩ | ⟨e1, e2, -⟩ | ⟨e1, e2, -⟩ | ⟨e1, e2, -⟩ | ⟨e1, e2, e3, e4⟩
          · exact e2
          · rw [ht] at e1; exact absurd e1 (by decide)
          · rw [ht] at e1; exact absurd e1 (by decide)
          · rw [ht] at e1; exact absurd e1 (by decide)
          · obtain ⟨y, y1, y2⟩ := hN fr2 (by omega)
            rw [ht, y1] at e3
            exact absurd e3.symm (nI_nm y2 (by simp))
        simp only [if_pos ht, if_pos e17, Option.bind_some, rdg5 hL, if_neg (show ¬ (1 : Int32) = nI 0 by decide), rpu14 hR]
        left
        refine ⟨κ, _, _, _, lv2, σ2, p2, _, fa1, k5, rfl, rfl, by omega, by rw [upd_n (by decide)]; exact d6, by rw [upd_n (by decide)]; exact d8, upd_s, fun k hk => ?_, d10, d11, d12, d13, d14⟩
        rw [upd_n (by omega)]
        exact d9 k (by omega)
      · have e17 : ¬ fi1 17 = nI 0 := by
          rcases d1.2.2 with ⟨e1, e2, -⟩ | ⟨e1, e2, -⟩ | ⟨e1, e2, -⟩ | ⟨e1, e2, -⟩ | ⟨e1, e2, e3, e4⟩
          · exact absurd e1 ht
          · rw [e2]; decide
          · rw [e2]; decide
          · rw [e2]; decide
          · rw [e1]; decide
        simp only [if_neg ht, if_neg e17, C_refuse hL, Option.bind_some, rdg5 hL, if_true, rpu14 hR]
        right
        refine ⟨fr2, _, _, _, _, _, _, _, _, fa1, by omega, rfl, rfl, by rw [upd_n (by decide)]; exact d2, upd_s, fun k hk => ?_, d10, d11⟩
        rw [upd_n (by omega)]
        exact d9 k (by omega)
    · rw [show (0 : Int32) = nI 0 from rfl] at f2
      obtain ⟨t2, fr2, un2, lv2, σ2, p2, g1, g2, rfl⟩ := f3
      simp only [f2, f4, Option.bind_some, rdg2 hL, rdv hL, C_refuse2 hL (nI_pos' (show F < 2 ^ 31 by omega)), Bool.false_eq_true, if_false]
      rw [show (if t2 = -1 then some (MM nd (rdC ad c (nI l) t2 fr2 (nI un2) (nI F) (nI κ) lv2 (nI σ2) p2)) else some (MM nd (rdC ad c (nI l) t2 fr2 (nI un2) (nI F) (nI κ) lv2 (nI σ2) p2))) = some (MM nd (rdC ad c (nI l) t2 fr2 (nI un2) (nI F) (nI κ) lv2 (nI σ2) p2)) by split <;> rfl]
      simp only [Option.bind_some, rdg5 hL, if_true, rpu14 hR]
      right
      refine ⟨F, _, _, _, _, _, _, _, _, fa1, f1, rfl, rfl, by rw [upd_n (by decide)]; exact f5, upd_s, fun k hk => ?_, f6.2.1, f6.2.2⟩
      rw [upd_n (by omega)]
      exact f6.1 k (by omega)
end QE
