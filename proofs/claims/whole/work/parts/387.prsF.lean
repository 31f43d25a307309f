theorem tgt_inv : ∀ t ∈ ([38, 42, 43, 45, 47, 60, 61, 62, 124] : List Int32), (tgt t = nI 0 → t = 124) ∧ (tgt t = nI 1 → t = 38) ∧ (tgt t = nI 2 → t = 60 ∨ t = 61 ∨ t = 62) ∧ (tgt t = nI 3 → t = 43 ∨ t = 45) ∧ (tgt t = nI 4 → t = 42 ∨ t = 47) := by decide
section QB
variable {nT : Nat} {nd nd2 : Nat → Option Nat} {c : Nat → pE} {ad ad2 : Nat → Nat} {b p : Nat → Int32} {l κ β o q σ δ P fr un fr0 lam : Nat} {t lv ft ky sc : Int32} {fi0 fi : Nat → Int32} {fa0 fa : Nat → Nat → Int32} {g gE gS : Nat → Int32 → Mem → Option (Bool × Mem)}
theorem B_either (hR : Lay nd2 ad2 KR) (hN : ByN b l) : LvB nd2 ad2 b l (nI 0) Sum.inl (fun x m => Sum.inr (x, m)) (g (ad2 31) (nI κ)) (fX8_either_b0 g (ad2 31) (nI κ)) := by
  intro fi fa t fr un h
  have s1 := R_isSign (fa := fa) hR hN h (v := 124) (by decide)
  refine ⟨fun ht fj hj => ?_, fun ht => ?_⟩
  · have e := (tgt_inv t (tgt_in ht (by omega))).1 ht
    rw [e, decide_eq_true rfl] at s1
    rw [e]
    refine ⟨fun fi1 fa1 fi2 fa2 h1 h2 => ?_, fun fi1 fa1 h1 => ?_⟩ <;> simp only [fX8_either_b0, rcv hR, s1, hj, h1, Option.bind_some, if_true]
    · simp only [h2, Option.bind_some]
    · rfl
  · rw [decide_eq_false (fun z => ht (by rw [z]; rfl))] at s1
    simp only [fX8_either_b0, rcv hR, s1, Option.bind_some]
    rfl
theorem B_both (hR : Lay nd2 ad2 KR) (hN : ByN b l) : LvB nd2 ad2 b l (nI 1) Sum.inl (fun x m => Sum.inr (x, m)) (g (ad2 31) (nI κ)) (fX8_both_b0 g (ad2 31) (nI κ)) := by
  intro fi fa t fr un h
  have s1 := R_isSign (fa := fa) hR hN h (v := 38) (by decide)
  refine ⟨fun ht fj hj => ?_, fun ht => ?_⟩
  · have e := (tgt_inv t (tgt_in ht (by omega))).2.1 ht
    rw [e, decide_eq_true rfl] at s1
    rw [e]
    refine ⟨fun fi1 fa1 fi2 fa2 h1 h2 => ?_, fun fi1 fa1 h1 => ?_⟩ <;> simp only [fX8_both_b0, rcv hR, s1, hj, h1, Option.bind_some, if_true]
    · simp only [h2, Option.bind_some]
    · rfl
  · rw [decide_eq_false (fun z => ht (by rw [z]; rfl))] at s1
    simp only [fX8_both_b0, rcv hR, s1, Option.bind_some]
    rfl
theorem B_sum (hR : Lay nd2 ad2 KR) (hN : ByN b l) : LvB nd2 ad2 b l (nI 3) Sum.inl (fun x m => Sum.inr (x, m)) (g (ad2 31) (nI κ)) (fX8_sum_b0 g (ad2 31) (nI κ)) := by
  intro fi fa t fr un h
  have s1 := R_isSign (fa := fa) hR hN h (v := 43) (by decide)
  have s2 := R_isSign (fa := fa) hR hN h (v := 45) (by decide)
  refine ⟨fun ht fj hj => ?_, fun ht => ?_⟩
  · have hin := tgt_in ht (by omega)
    have e19 := (h.sgn (sgn_fact t hin).1).2.1
    rcases (tgt_inv t hin).2.2.2.1 ht with e | e
    · rw [e, decide_eq_true rfl] at s1
      refine ⟨fun fi1 fa1 fi2 fa2 h1 h2 => ?_, fun fi1 fa1 h1 => ?_⟩ <;> simp only [fX8_sum_b0, rcv hR, s1, hj, h1, rg19 hR, e19, Option.bind_some, if_true]
      · simp only [h2, Option.bind_some]
      · rfl
    · rw [e, decide_eq_false (by decide)] at s1
      rw [e, decide_eq_true rfl] at s2
      refine ⟨fun fi1 fa1 fi2 fa2 h1 h2 => ?_, fun fi1 fa1 h1 => ?_⟩ <;> simp only [fX8_sum_b0, rcv hR, s1, s2, hj, h1, rg19 hR, e19, Option.bind_some, if_true, Bool.false_eq_true, if_false]
      simp only [h2, Option.bind_some]
  · rw [decide_eq_false (fun z => ht (by rw [z]; rfl))] at s1
    rw [decide_eq_false (fun z => ht (by rw [z]; rfl))] at s2
    simp only [fX8_sum_b0, rcv hR, s1, s2, Option.bind_some, Bool.false_eq_true, if_false]
theorem B_term (hR : Lay nd2 ad2 KR) (hN : ByN b l) : LvB nd2 ad2 b l (nI 4) Sum.inl (fun x m => Sum.inr (x, m)) (g (ad2 31) (nI κ)) (fX8_term_b0 g (ad2 31) (nI κ)) := by
  intro fi fa t fr un h
  have s1 := R_isSign (fa := fa) hR hN h (v := 42) (by decide)
  have s2 := R_isSign (fa := fa) hR hN h (v := 47) (by decide)
  refine ⟨fun ht fj hj => ?_, fun ht => ?_⟩
  · have hin := tgt_in ht (by omega)
    have e19 := (h.sgn (sgn_fact t hin).1).2.1
    rcases (tgt_inv t hin).2.2.2.2 ht with e | e
    · rw [e, decide_eq_true rfl] at s1
      refine ⟨fun fi1 fa1 fi2 fa2 h1 h2 => ?_, fun fi1 fa1 h1 => ?_⟩ <;> simp only [fX8_term_b0, rcv hR, s1, hj, h1, rg19 hR, e19, Option.bind_some, if_true]
      · simp only [h2, Option.bind_some]
      · rfl
    · rw [e, decide_eq_false (by decide)] at s1
      rw [e, decide_eq_true rfl] at s2
      refine ⟨fun fi1 fa1 fi2 fa2 h1 h2 => ?_, fun fi1 fa1 h1 => ?_⟩ <;> simp only [fX8_term_b0, rcv hR, s1, s2, hj, h1, rg19 hR, e19, Option.bind_some, if_true, Bool.false_eq_true, if_false]
      simp only [h2, Option.bind_some]
  · rw [decide_eq_false (fun z => ht (by rw [z]; rfl))] at s1
    rw [decide_eq_false (fun z => ht (by rw [z]; rfl))] at s2
    simp only [fX8_term_b0, rcv hR, s1, s2, Option.bind_some, Bool.false_eq_true, if_false]
noncomputable def tstB (g : Nat → Int32 → Mem → Option (Bool × Mem)) (a0 : Nat) (p0 : Int32) (m2 : Mem) : Option (Bool × Mem) :=
    (cV m2 a0 8 (fX8_isSign a0 (60 : Int32) m2)).bind fun b3 =>
    if b3 = true then
      (gI m2 a0 8 19).bind fun x4 =>
      (cV m2 a0 8 (fX8_nextToken a0 m2)).bind fun m5 =>
      (cV m5 a0 8 (g a0 p0 m5)).bind fun (b6, m7) =>
      if b6 = true then
        (cV m7 a0 8 (fX8_step a0 (2 : Int32) x4 m7)).bind fun m8 =>
        some (true, m8)
      else
        some (false, m7)
    else
      (cV m2 a0 8 (fX8_isSign a0 (61 : Int32) m2)).bind fun b9 =>
      if b9 = true then
        (gI m2 a0 8 19).bind fun x10 =>
        (cV m2 a0 8 (fX8_nextToken a0 m2)).bind fun m11 =>
        (cV m11 a0 8 (g a0 p0 m11)).bind fun (b12, m13) =>
        if b12 = true then
          (cV m13 a0 8 (fX8_step a0 (2 : Int32) x10 m13)).bind fun m14 =>
          some (true, m14)
        else
          some (false, m13)
      else
        (cV m2 a0 8 (fX8_isSign a0 (62 : Int32) m2)).bind fun b15 =>
        if b15 = true then
          (gI m2 a0 8 19).bind fun x16 =>
          (cV m2 a0 8 (fX8_nextToken a0 m2)).bind fun m17 =>
          (cV m17 a0 8 (g a0 p0 m17)).bind fun (b18, m19) =>
          if b18 = true then
            (cV m19 a0 8 (fX8_step a0 (2 : Int32) x16 m19)).bind fun m20 =>
            some (true, m20)
          else
            some (false, m19)
        else
          some (true, m2)
theorem B_test (hR : Lay nd2 ad2 KR) (hN : ByN b l) : LvB nd2 ad2 b l (nI 2) (fun m => (true, m)) (fun x m => (x, m)) (g (ad2 31) (nI κ)) (tstB g (ad2 31) (nI κ)) := by
  intro fi fa t fr un h
  have s1 := R_isSign (fa := fa) hR hN h (v := 60) (by decide)
  have s2 := R_isSign (fa := fa) hR hN h (v := 61) (by decide)
  have s3 := R_isSign (fa := fa) hR hN h (v := 62) (by decide)
  refine ⟨fun ht fj hj => ?_, fun ht => ?_⟩
  · have hin := tgt_in ht (by omega)
    have e19 := (h.sgn (sgn_fact t hin).1).2.1
    rcases (tgt_inv t hin).2.2.1 ht with e | e | e
    · rw [e, decide_eq_true rfl] at s1
      refine ⟨fun fi1 fa1 fi2 fa2 h1 h2 => ?_, fun fi1 fa1 h1 => ?_⟩ <;> simp only [tstB, rcv hR, s1, hj, h1, rg19 hR, e19, Option.bind_some, if_true]
      · simp only [h2, Option.bind_some]
      · rfl
    · rw [e, decide_eq_false (by decide)] at s1
      rw [e, decide_eq_true rfl] at s2
      refine ⟨fun fi1 fa1 fi2 fa2 h1 h2 => ?_, fun fi1 fa1 h1 => ?_⟩ <;> simp only [tstB, rcv hR, s1, s2, hj, h1, rg19 hR, e19, Option.bind_some, if_true, Bool.false_eq_true, if_false]
      simp only [h2, Option.bind_some]
    · rw [e, decide_eq_false (by decide)] at s1
      rw [e, decide_eq_false (by decide)] at s2
      rw [e, decide_eq_true rfl] at s3
      refine ⟨fun fi1 fa1 fi2 fa2 h1 h2 => ?_, fun fi1 fa1 h1 => ?_⟩ <;> simp only [tstB, rcv hR, s1, s2, s3, hj, h1, rg19 hR, e19, Option.bind_some, if_true, Bool.false_eq_true, if_false]
      simp only [h2, Option.bind_some]
  · rw [decide_eq_false (fun z => ht (by rw [z]; rfl))] at s1
    rw [decide_eq_false (fun z => ht (by rw [z]; rfl))] at s2
    rw [decide_eq_false (fun z => ht (by rw [z]; rfl))] at s3
    simp only [tstB, rcv hR, s1, s2, s3, Option.bind_some, Bool.false_eq_true, if_false]
theorem TokR.u {k : Nat} {v : Int32} (hk : k ≠ 17 ∧ k ≠ 18 ∧ k ≠ 19) (h : TokR b l t fr un fi) : TokR b l t fr un (upd fi k v) := by
  unfold TokR at h ⊢
  rw [upd_n (fun z => hk.1 z.symm), upd_n (fun z => hk.2.1 z.symm), upd_n (fun z => hk.2.2 z.symm)]
  exact h
theorem Cp.u20 (h : Cp b l κ β o q σ δ fr un t lv p fi0 fi fa0 fa) (x : Nat) : Cp b l κ β x q σ δ fr un t lv p fi0 (upd fi 20 (nI x)) fa0 fa := by
  obtain ⟨h1, h2, h3, h4, h5, h6, h7, h8, h9, h10⟩ := h
  exact ⟨h1.u (by decide), by rw [upd_n (by decide)]; exact h2, by rw [upd_n (by decide)]; exact h3, upd_s, by rw [upd_n (by decide)]; exact h5, by rw [upd_n (by decide)]; exact h6, by rw [upd_n (by decide)]; exact h7, by rw [upd_n (by decide)]; exact h8, fun k hk => by rw [upd_n (by omega)]; exact h9 k hk, h10⟩
theorem Cp.u21 (h : Cp b l κ β o q σ δ fr un t lv p fi0 fi fa0 fa) (x : Nat) : Cp b l κ β o x σ δ fr un t lv p fi0 (upd fi 21 (nI x)) fa0 fa := by
  obtain ⟨h1, h2, h3, h4, h5, h6, h7, h8, h9, h10⟩ := h
  exact ⟨h1.u (by decide), by rw [upd_n (by decide)]; exact h2, by rw [upd_n (by decide)]; exact h3, by rw [upd_n (by decide)]; exact h4, upd_s, by rw [upd_n (by decide)]; exact h6, by rw [upd_n (by decide)]; exact h7, by rw [upd_n (by decide)]; exact h8, fun k hk => by rw [upd_n (by omega)]; exact h9 k hk, h10⟩
theorem Cp.u24 (h : Cp b l κ β o q σ δ fr un t lv p fi0 fi fa0 fa) (x : Int32) : Cp b l κ β o q σ δ fr un t x p fi0 (upd fi 24 x) fa0 fa := by
  obtain ⟨h1, h2, h3, h4, h5, h6, h7, h8, h9, h10⟩ := h
  exact ⟨h1.u (by decide), by rw [upd_n (by decide)]; exact h2, by rw [upd_n (by decide)]; exact h3, by rw [upd_n (by decide)]; exact h4, by rw [upd_n (by decide)]; exact h5, by rw [upd_n (by decide)]; exact h6, by rw [upd_n (by decide)]; exact h7, upd_s, fun k hk => by rw [upd_n (by omega)]; exact h9 k hk, h10⟩
theorem J_no (hL : Lay nd ad (KC nT)) (hb : ByOK c b l) (h : Cp b l κ β o q σ δ fr un t lv p fi0 fi fa0 fa) (hP : σ + P + 4 ≤ fr) : Res nd nd2 ad ad2 c b l κ β fi0 fa0 o q (δ + 1) P fr (fX1_refuse (ad 400) (MM nd (rdC ad c (nI l) t (nI fr) (nI un) (-1) (nI κ) lv (nI σ) p))) (some (false, MR nd2 ad2 fi fa)) := by
  have h96 := hb.1
  have q1 := h.1.1
  have q2 := h.1.2.1
  right
  exact ⟨fr, _, fi, fa, by omega, C_refuse hL, ⟨_, _, _, _, _, _, q2, by omega, rfl⟩, rfl, h.2.1, h.frk⟩
theorem J_leaf (hL : Lay nd ad (KC nT)) (hR : Lay nd2 ad2 KR) (hb : ByOK c b l) (hN : ByN b l) (hb0 : ByR fi0 fa0 b l) (hβ : β ≤ 2896) (h : Cp b l κ β o q σ δ fr un t lv p fi0 fi fa0 fa) (hP : σ + P + 4 ≤ fr) (hu : fr < un) {w v e : Int32} (hn : newS (nI κ) w v δ) (hw : ¬ w = 2) (he : encS (nI κ) w v = e) :
    Res nd nd2 ad ad2 c b l κ β fi0 fa0 o q (δ + 1) P fr ((fX1_addLeaf (ad 400) e (MM nd (rdC ad c (nI l) t (nI fr) (nI un) (-1) (nI κ) lv (nI σ) p))).bind fun m38 => cV m38 (ad 400) 1 (fX1_advance (ad 400) m38))
      ((fX8_step (ad2 31) w v (MR nd2 ad2 fi fa)).bind fun m108 => (gI m108 (ad2 31) 8 24).bind fun x109 => (pI m108 (ad2 31) 8 24 (x109 + (1 : Int32))).bind fun m110 => (cV m110 (ad2 31) 8 (fX8_nextToken (ad2 31) m110)).bind fun m111 => some (true, m111)) := by
  have h96 := hb.1
  have q1 := h.1.1
  have q2 := h.1.2.1
  obtain ⟨fj, fb, s1, s2⟩ := J_step hR hβ (by omega) h hn
  have hnd : newD w v δ = δ + 1 := by unfold newD; rw [if_neg hw]
  rw [hnd, he] at s2
  have h24 : fj 24 = lv := by
    obtain ⟨-, -, -, -, -, -, -, h8, -⟩ := s2
    exact h8
  have s3 := s2.u24 (lv + 1)
  obtain ⟨fk, a1, a2, a3⟩ := J_adv hR hN hb0 s3
  left
  refine ⟨_, _, _, _, _, _, fk, fb, ?_, ?_, a2, by omega, by omega⟩
  · simp only [fX1_addLeaf, rdv hL, C_addStep hL (show σ < 96 by omega), rdg7 hL, rdp7 hL, C_advance hL hb q2, Option.bind_some]
  · simp only [s1, rg24 hR, h24, rpu24 hR, rcv hR, a1, Option.bind_some]
end QB
