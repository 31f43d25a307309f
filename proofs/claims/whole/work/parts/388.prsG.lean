section QC
variable {nT : Nat} {nd nd2 : Nat → Option Nat} {c : Nat → pE} {ad ad2 : Nat → Nat} {b p : Nat → Int32} {l κ β o q σ δ P fr un fr0 lam : Nat} {t lv ft ky sc : Int32} {fi0 fi : Nat → Int32} {fa0 fa : Nat → Nat → Int32} {gE gS : Nat → Int32 → Mem → Option (Bool × Mem)} {gJ : Nat → Int32 → Int32 → Int32 → Mem → Option (Mem)} {gP : Nat → Int32 → Int32 → Mem → Option (Mem)}
theorem J_piece (hL : Lay nd ad (KC nT)) (hR : Lay nd2 ad2 KR) (hb : ByOK c b l) (hN : ByN b l) (hb0 : ByR fi0 fa0 b l) (hβ : β ≤ 2896) (hκ : κ < 3) (ho : o ≤ 8) (hq : q ≤ 8)
    (hE : o < 8 → JH nd nd2 ad ad2 c b l κ β fi0 fa0 (o + 1) q (gJ (ad 400) (nI 0) (nI (o + 1)) (nI q)) (gE (ad2 31) (nI κ)))
    (hQ : q < 8 → JH nd nd2 ad ad2 c b l κ β fi0 fa0 o (q + 1) (gP (ad 400) (nI o) (nI (q + 1))) (gS (ad2 31) (nI κ))) :
    JH nd nd2 ad ad2 c b l κ β fi0 fa0 o q (fX1_parsePiece gJ gP (ad 400) (nI o) (nI q)) (fX8_part0 gE gS (ad2 31) (nI κ)) := by
  intro σ δ P fr un t lv p fi fa h hP
  have h96 := hb.1
  have htk := h.1
  have q1 := htk.1
  have q2 := htk.2.1
  have e20 : fi 20 = nI o := h.2.2.2.1
  have e21 : fi 21 = nI q := h.2.2.2.2.1
  have s33 := R_isSign (fa := fa) hR hN htk (v := 33) (by decide)
  have s40 := R_isSign (fa := fa) hR hN htk (v := 40) (by decide)
  have m1 : (-1 : Int32) < 0 := by decide
  have common : ¬ t = -3 → ¬ t = -2 → ¬ fi 17 = 2 → ¬ fi 17 = 1 → Res nd nd2 ad ad2 c b l κ β fi0 fa0 o q (δ + 1) P fr (fX1_parsePiece gJ gP (ad 400) (nI o) (nI q) (MM nd (rdC ad c (nI l) t (nI fr) (nI un) (-1) (nI κ) lv (nI σ) p))) (fX8_part0 gE gS (ad2 31) (nI κ) (MR nd2 ad2 fi fa)) := by
    intro n3 n2 k2 k1
    simp only [fX1_parsePiece, fX8_part0, rdg5 hL, rdg2 hL, rdv hL, if_pos m1, if_neg n3, if_neg n2, rg17 hR, if_neg k2, if_neg k1, rcv hR, s33, s40, Option.bind_some]
    by_cases t33 : t = 33
    · have hun := (htk.sgn (by rw [t33]; decide)).2.2
      have n40 : ¬ t = 40 := by rw [t33]; decide
      simp only [if_pos t33, decide_eq_true t33, if_true, rg21 hR, e21, Option.bind_some, if_neg n40, decide_eq_false n40, Bool.false_eq_true, if_false]
      by_cases hq8 : q < 8
      · simp only [if_neg (show ¬ (8 : Int32) ≤ nI q from nI_ge (b := 8) hq8 (by omega)), rpu21 hR, rcv hR, nI_1, Option.bind_some]
        obtain ⟨fj, a1, a2, a3⟩ := J_adv hR hN hb0 (h.u21 (q + 1))
        simp only [a1, C_advance hL hb q2, rdv hL, rcv hR, Option.bind_some]
        rcases hQ hq8 σ δ (P + 1) _ _ _ _ _ _ _ a2 (by omega) with ⟨t2, fr2, un2, lv2, σ2, p2, fi1, fa1, c1, c2, c3, c4, c5⟩ | ⟨F, m, fi1, fa1, f1, f2, f3, f4, f5, f6⟩
        · have hfr := c3.1.1
          have hun2 := c3.1.2.1
          have g21 : fi1 21 = nI (q + 1) := c3.2.2.2.2.1
          obtain ⟨fi2, fa2, d1, d2⟩ := J_step hR hβ (by omega) (c3.u21 q) (w := 2) (v := 33) (Or.inr (Or.inr ⟨rfl, Or.inl ⟨rfl, by omega⟩⟩))
          have hnd : newD 2 33 (δ + 1) = δ + 1 := rfl
          have henc : encS (nI κ) 2 33 = -33 := rfl
          rw [hnd, henc] at d2
          left
          refine ⟨t2, fr2, un2, lv2, σ2 + 1, _, fi2, fa2, ?_, ?_, d2, by omega, by omega⟩
          · rw [c1]
            simp only [rdv hL, C_addStep hL (show σ2 < 96 by omega), Option.bind_some]
          · rw [c2]
            simp only [if_true, rg21 hR, g21, show nI (q + 1) - 1 = nI q from pk_sub (a := q + 1) (b := 1) (by omega), rpu21 hR, rcv hR, d1, Option.bind_some]
        · right
          obtain ⟨m7, g1, g2⟩ := f3.step hL (-33)
          refine ⟨F, m7, fi1, fa1, f1, ?_, g2, ?_, f5, f6⟩
          · rw [f2]
            simp only [f3.cv hL, g1, Option.bind_some]
          · rw [f4]
            rfl
      · simp only [if_pos (show (8 : Int32) ≤ nI q from nI_le (a := 8) (by omega) (by omega)), Option.bind_fun_some]
        exact J_no hL hb h hP
    · simp only [if_neg t33, decide_eq_false t33, Bool.false_eq_true, if_false]
      by_cases t40 : t = 40
      · have hun := (htk.sgn (by rw [t40]; decide)).2.2
        simp only [if_pos t40, decide_eq_true t40, if_true, rg20 hR, e20, Option.bind_some]
        by_cases ho8 : o < 8
        · simp only [if_neg (show ¬ (8 : Int32) ≤ nI o from nI_ge (b := 8) ho8 (by omega)), if_neg (show ¬ nI o = 8 from fun z => absurd ((nI_eq (b := 8) (by omega) (by omega)).mp z) (by omega)), rpu20 hR, rcv hR, nI_1, Option.bind_some]
          obtain ⟨fj, a1, a2, a3⟩ := J_adv hR hN hb0 (h.u20 (o + 1))
          simp only [a1, C_advance hL hb q2, rdv hL, rcv hR, Option.bind_some]
          rcases hE ho8 σ δ P _ _ _ _ _ _ _ a2 (by omega) with ⟨t2, fr2, un2, lv2, σ2, p2, fi1, fa1, c1, c2, c3, c4, c5⟩ | ⟨F, m, fi1, fa1, f1, f2, f3, f4, f5, f6⟩
          · have hfr := c3.1.1
            have hun2 := c3.1.2.1
            have g20 : fi1 20 = nI (o + 1) := c3.2.2.2.1
            have s41 := R_isSign (fa := fa1) hR hN c3.1 (v := 41) (by decide)
            rw [show ((0 : Int32)) = nI 0 from rfl, c1, c2]
            simp only [if_true, rdv hL, rcv hR, s41, fX1_parseClosing, rdg2 hL, Option.bind_some, Option.bind_fun_some]
            by_cases t41 : t2 = 41
            · have hun3 := (c3.1.sgn (by rw [t41]; decide)).2.2
              obtain ⟨fk, k1, k2, k3⟩ := J_adv hR hN hb0 (c3.u20 o)
              simp only [if_pos t41, decide_eq_true t41, if_true, C_advance hL hb hun2, rg20 hR, g20, show nI (o + 1) - 1 = nI o from pk_sub (a := o + 1) (b := 1) (by omega), rpu20 hR, rcv hR, k1, Option.bind_some]
              left
              exact ⟨_, _, _, _, _, _, fk, fa1, rfl, rfl, k2, by omega, by omega⟩
            · simp only [if_neg t41, decide_eq_false t41, Bool.false_eq_true, if_false]
              right
              exact ⟨fr2, _, fi1, fa1, by omega, C_refuse hL, ⟨_, _, _, _, _, _, hun2, by omega, rfl⟩, rfl, c3.2.1, c3.frk⟩
          · right
            obtain ⟨m7, g1, g2⟩ := f3.closing hL hb f1
            refine ⟨F, m7, fi1, fa1, f1, ?_, g2, ?_, f5, f6⟩
            · rw [show ((0 : Int32)) = nI 0 from rfl, f2]
              simp only [f3.cv hL, g1, Option.bind_some]
            · rw [f4]
              rfl
        · simp only [if_pos (show (8 : Int32) ≤ nI o from nI_le (a := 8) (by omega) (by omega)), if_pos (show nI o = 8 from (nI_eq (b := 8) (by omega) (by omega)).mpr (by omega)), Option.bind_fun_some]
          exact J_no hL hb h hP
      · simp only [if_neg t40, decide_eq_false t40, Bool.false_eq_true, if_false, Option.bind_fun_some]
        exact J_no hL hb h hP
  rcases htk.2.2 with ⟨e1, e2, -⟩ | ⟨e1, e2, e3, e4, e5⟩ | ⟨e1, e2, e3, e4, e5, e6⟩ | ⟨e1, e2, -⟩ | ⟨e1, e2, e3, e4⟩
  · exact common (by rw [e1]; decide) (by rw [e1]; decide) (by rw [e2]; decide) (by rw [e2]; decide)
  · have n3 : ¬ t = -3 := by rw [e1]; decide
    have n33 : ¬ t = 33 := by rw [e1]; decide
    have n40 : ¬ t = 40 := by rw [e1]; decide
    have hd := of_decide_eq_true e5
    obtain ⟨v, v1, v2, v3⟩ := bt (a := 97) (b := 122) hd.2 (by omega) (by omega)
    rw [decide_eq_false n33] at s33
    rw [decide_eq_false n40] at s40
    simp only [fX1_parsePiece, fX8_part0, rdg5 hL, rdg2 hL, rdv hL, if_pos m1, if_neg n3, if_pos e1, rg17 hR, e2, if_neg (show ¬ (1 : Int32) = 2 by decide), if_true, rcv hR, s33, s40, rg19 hR, C_nameHere hL hb hκ e3 q2 e5, if_neg n33, if_neg n40, Bool.false_eq_true, if_false, Option.bind_some]
    by_cases hz : un - fr = 1
    · rw [if_pos hz, v1] at e4
      have nz : ¬ nI v = 0 := fun z => absurd ((nI_eq (b := 0) (by omega) (by omega)).mp z) (by omega)
      simp only [e4, if_neg nz, R_isName hκ (show v < 256 by omega), Option.bind_some]
      unfold nmH
      rw [if_pos hz, v1, nt_nI (by omega)]
      cases hnm : nmB κ v with
      | true =>
        obtain ⟨z1, z2, z3⟩ := nmB_ok hκ (by omega) hnm
        have z4 : ¬ nmIx (nI κ) (nI v) < 0 := Int32.not_lt.mpr z3
        simp only [if_true, if_neg z4, Option.bind_fun_some]
        exact J_leaf hL hR hb hN hb0 hβ h hP e3 (w := 1) (v := nI v) (Or.inr (Or.inl ⟨rfl, z1⟩)) (by decide) z2
      | false =>
        simp only [Bool.false_eq_true, if_false, if_pos m1, Option.bind_fun_some]
        exact J_no hL hb h hP
    · rw [if_neg hz] at e4
      unfold nmH
      simp only [e4, if_neg hz, if_true, if_pos m1, Option.bind_fun_some]
      exact J_no hL hb h hP
  · obtain ⟨w, w1, w2⟩ := dgF_in (b := b) (l := l) (fr := fr) e4 (fun j j1 j2 => e6 j j1 (by omega))
    have w3 : w < 10000 := Nat.lt_of_lt_of_le w2 (Nat.pow_le_pow_right (n := 10) (by omega) e4)
    simp only [fX1_parsePiece, fX8_part0, rdg5 hL, rdg2 hL, rdv hL, if_pos m1, if_pos e1, rg17 hR, e2, if_true, rcv hR, rg18 hR, e5, C_numberHere hL hb q1 q2, w1, Option.bind_some, Option.bind_fun_some]
    exact J_leaf hL hR hb hN hb0 hβ h hP e3 (w := 0) (v := nI w) (Or.inl ⟨rfl, w, rfl, w3⟩) (by decide) rfl
  · exact common (by rw [e1]; decide) (by rw [e1]; decide) (by rw [e2]; decide) (by rw [e2]; decide)
  · obtain ⟨y, y1, y2⟩ := hN fr (by omega)
    exact common (by rw [e3, y1]; exact nI_nm y2 (by simp)) (by rw [e3, y1]; exact nI_nm y2 (by simp)) (by rw [e1]; decide) (by rw [e1]; decide)
theorem J_all (hL : Lay nd ad (KC nT)) (hR : Lay nd2 ad2 KR) (hb : ByOK c b l) (hN : ByN b l) (hb0 : ByR fi0 fa0 b l) (hβ : β ≤ 2896) (hκ : κ < 3) : ∀ n,
    (∀ lam o q n2, lam ≤ 5 → o ≤ 8 → q ≤ 8 → (8 - o) * 7 + (8 - q) + (7 - lam) ≤ n → (8 - o) * 6 + (8 - q) + (6 - lam) ≤ n2 → JH nd nd2 ad ad2 c b l κ β fi0 fa0 o q ((PJ n).1 (ad 400) (nI lam) (nI o) (nI q)) (PE n2 lam (ad2 31) (nI κ))) ∧
    (∀ o q n2, o ≤ 8 → q ≤ 8 → (8 - o) * 7 + (8 - q) + 1 ≤ n → (8 - o) * 6 + (8 - q) + 1 ≤ n2 → JH nd nd2 ad ad2 c b l κ β fi0 fa0 o q ((PJ n).2 (ad 400) (nI o) (nI q)) (PE n2 5 (ad2 31) (nI κ))) := by
  intro n
  induction n with
  | zero => exact ⟨fun lam o q n2 h1 h2 h3 h4 => by omega, fun o q n2 h1 h2 h3 => by omega⟩
  | succ n ih =>
    refine ⟨fun lam o q n2 h1 h2 h3 h4 h5 => ?_, fun o q n2 h2 h3 h4 h5 => ?_⟩
    · show JH nd nd2 ad ad2 c b l κ β fi0 fa0 o q (fX1_parseJoined (PJ n).1 (PJ n).2 (ad 400) (nI lam) (nI o) (nI q)) (PE n2 lam (ad2 31) (nI κ))
      obtain ⟨k, rfl⟩ : ∃ k, n2 = k + 1 := ⟨n2 - 1, by omega⟩
      rcases (show lam = 0 ∨ lam = 1 ∨ lam = 2 ∨ lam = 3 ∨ lam = 4 ∨ lam = 5 by omega) with e | e | e | e | e | e <;> subst e
      · refine J_level hL hR hb hN hb0 hβ (ih.1 1 o q k (by omega) h2 h3 (by omega) (by omega)) (by omega) (by omega) (B_either hR hN) (fun fi fa => ?_)
        show fX8_either (PE k 1) (ad2 31) (nI κ) (MR nd2 ad2 fi fa) = _
        simp only [fX8_either, rcv hR]
      · refine J_level hL hR hb hN hb0 hβ (ih.1 2 o q k (by omega) h2 h3 (by omega) (by omega)) (by omega) (by omega) (B_both hR hN) (fun fi fa => ?_)
        show fX8_both (PE k 2) (ad2 31) (nI κ) (MR nd2 ad2 fi fa) = _
        simp only [fX8_both, rcv hR]
      · refine J_test hL hR hb hN hb0 hβ (ih.1 3 o q k (by omega) h2 h3 (by omega) (by omega)) (B_test hR hN) (fun fi fa => ?_)
        show fX8_test (PE k 3) (ad2 31) (nI κ) (MR nd2 ad2 fi fa) = _
        simp only [fX8_test, rcv hR]
        rfl
      · refine J_level hL hR hb hN hb0 hβ (ih.1 4 o q k (by omega) h2 h3 (by omega) (by omega)) (by omega) (by omega) (B_sum hR hN) (fun fi fa => ?_)
        show fX8_sum (PE k 4) (ad2 31) (nI κ) (MR nd2 ad2 fi fa) = _
        simp only [fX8_sum, rcv hR]
      · refine J_level hL hR hb hN hb0 hβ (ih.1 5 o q k (by omega) h2 h3 (by omega) (by omega)) (by omega) (by omega) (B_term hR hN) (fun fi fa => ?_)
        show fX8_term (PE k 5) (ad2 31) (nI κ) (MR nd2 ad2 fi fa) = _
        simp only [fX8_term, rcv hR]
      · intro σ δ P fr un t lv p fi fa h hP
        simp only [fX1_parseJoined, if_neg (show ¬ nI 5 ≤ (4 : Int32) by decide), rdv hL, Option.bind_fun_some]
        exact ih.2 o q (k + 1) h2 h3 (by omega) (by omega) σ δ P fr un t lv p fi fa h hP
    · show JH nd nd2 ad ad2 c b l κ β fi0 fa0 o q (fX1_parsePiece (PJ n).1 (PJ n).2 (ad 400) (nI o) (nI q)) (PE n2 5 (ad2 31) (nI κ))
      obtain ⟨k, rfl⟩ : ∃ k, n2 = k + 1 := ⟨n2 - 1, by omega⟩
      show JH nd nd2 ad ad2 c b l κ β fi0 fa0 o q (fX1_parsePiece (PJ n).1 (PJ n).2 (ad 400) (nI o) (nI q)) (fX8_part0 (PE k 0) (PE k 5) (ad2 31) (nI κ))
      exact J_piece hL hR hb hN hb0 hβ hκ h2 h3 (fun ho => ih.1 0 (o + 1) q k (by omega) (by omega) h3 (by omega) (by omega)) (fun hq => ih.2 o (q + 1) k h2 (by omega) (by omega) (by omega))
end QC
