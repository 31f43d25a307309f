/-! A WHOLE TEXT READ -/
def wrd (i k : Nat) : Int32 := if i = 0 then (if k = 0 then 104 else if k = 1 then 111 else if k = 2 then 108 else 100) else if i = 1 then (if k = 0 then 115 else if k = 1 then 116 else if k = 2 then 111 else 112) else (if k = 0 then 102 else if k = 1 then 105 else if k = 2 then 110 else 101)
theorem sLn3 : ∀ i : Fin 3, sLnF i.val = some (nI 4) := by decide
theorem sCh3 : ∀ i : Fin 3, ∀ k : Fin 4, sChF i.val (nI k.val) = some (wrd i.val k.val) := by decide
def wdB (b : Nat → Int32) (t : Int32) (fr un i : Nat) : Bool := decide (t = -2 ∧ un - fr = 4 ∧ b fr = wrd i 0 ∧ b (fr + 1) = wrd i 1 ∧ b (fr + 2) = wrd i 2 ∧ b (fr + 3) = wrd i 3)
section QD
variable {nT : Nat} {nd nd2 : Nat → Option Nat} {c : Nat → pE} {ad ad2 : Nat → Nat} {b p : Nat → Int32} {l κ β o q σ δ P fr un fr0 lam : Nat} {t lv ft ky sc f u : Int32} {fi0 fi : Nat → Int32} {fa0 fa : Nat → Nat → Int32}
theorem inR_eq {j : Nat} (hj : j < l) (v : Int32) : (inR b l v v j = true) = (b j = v) := by
  apply propext
  constructor
  · intro h
    have := of_decide_eq_true h
    exact Int32.le_antisymm this.2.2 this.2.1
  · intro h
    exact decide_eq_true ⟨hj, by rw [h]; exact Int32.le_refl _, by rw [h]; exact Int32.le_refl _⟩
theorem C_isWord (hL : Lay nd ad (KC nT)) (hb : ByOK c b l) (h1 : fr ≤ un) (h2 : un ≤ l) {i : Nat} (hi : i < 3) : fX1_isWord (ad 400) i (MM nd (rdC ad c (nI l) t (nI fr) (nI un) ft ky lv sc p)) = some (wdB b t fr un i) := by
  have h96 := hb.1
  unfold fX1_isWord wdB
  simp only [rdg2 hL, rdg4 hL, rdg3 hL, sLn3 ⟨i, hi⟩, Option.bind_some, show nI un - nI fr = nI (un - fr) from pk_sub h1]
  by_cases ht : t = -2
  · rw [if_pos ht]
    by_cases h4 : un - fr = 4
    · rw [if_pos (by rw [h4])]
      have step : ∀ k, k < 4 → fX1_isWord_b0 (ad 400) i (MM nd (rdC ad c (nI l) t (nI fr) (nI un) ft ky lv sc p)) (nI k) = if b (fr + k) = wrd i k then some (.inl (nI (k + 1))) else some (.inr false) := by
        intro k hk
        simp only [fX1_isWord_b0, sLn3 ⟨i, hi⟩, sCh3 ⟨i, hi⟩ ⟨k, hk⟩, if_neg (nI_ge hk (by omega)), rdg3 hL, rdv hL, nI_add, C_isByte hL hb (show fr + k < 2 ^ 30 by omega), inR_eq (show fr + k < l by omega), Option.bind_some, nI_1]
      have last : fX1_isWord_b0 (ad 400) i (MM nd (rdC ad c (nI l) t (nI fr) (nI un) ft ky lv sc p)) (nI 4) = some (.inr true) := by
        simp only [fX1_isWord_b0, sLn3 ⟨i, hi⟩, if_pos (show nI 4 ≤ nI 4 by decide), Option.bind_some]
      have s0 := step 0 (by omega)
      have s1 := step 1 (by omega)
      have s2 := step 2 (by omega)
      have s3 := step 3 (by omega)
      rw [show fr + 0 = fr from rfl] at s0
      by_cases c0 : b fr = wrd i 0
      · rw [if_pos c0] at s0
        refine (lpL (n := 4999) s0).trans ?_
        by_cases c1 : b (fr + 1) = wrd i 1
        · rw [if_pos c1] at s1
          refine (lpL (n := 4998) s1).trans ?_
          by_cases c2 : b (fr + 2) = wrd i 2
          · rw [if_pos c2] at s2
            refine (lpL (n := 4997) s2).trans ?_
            by_cases c3 : b (fr + 3) = wrd i 3
            · rw [if_pos c3] at s3
              refine (lpL (n := 4996) s3).trans ?_
              rw [lpR (n := 4995) last, decide_eq_true ⟨ht, h4, c0, c1, c2, c3⟩]
            · rw [if_neg c3] at s3
              rw [lpR (n := 4996) s3, decide_eq_false (fun z => c3 z.2.2.2.2.2)]
          · rw [if_neg c2] at s2
            rw [lpR (n := 4997) s2, decide_eq_false (fun z => c2 z.2.2.2.2.1)]
        · rw [if_neg c1] at s1
          rw [lpR (n := 4998) s1, decide_eq_false (fun z => c1 z.2.2.2.1)]
      · rw [if_neg c0] at s0
        refine (lpR (n := 4999) s0).trans ?_
        rw [decide_eq_false (fun z => c0 z.2.2.1)]
    · rw [if_neg (fun z => h4 ((nI_eq (by omega) (by omega)).mp z)), decide_eq_false (fun z => h4 z.2.1)]
  · rw [if_neg ht, decide_eq_false (fun z => ht z.1)]
theorem R_isWordAt (hR : Lay nd2 ad2 KR) (hN : ByN b l) (hby : ByR fi fa b l) (h : TokR b l t fr un fi) (e15 : fi 15 = nI fr) (e16 : fi 16 = nI un) {i : Nat} (h0 : ¬ wrd i 3 = 0) : fX8_isWordAt (ad2 31) (wrd i 0) (wrd i 1) (wrd i 2) (wrd i 3) (MR nd2 ad2 fi fa) = some (wdB b t fr un i) := by
  have h96 := hby.1
  have q1 := h.1
  have q2 := h.2.1
  have h17 : (fi 17 = 1) = (t = -2) := by
    apply propext
    rcases h.2.2 with ⟨e1, e2, -⟩ | ⟨e1, e2, -⟩ | ⟨e1, e2, -⟩ | ⟨e1, e2, -⟩ | ⟨e1, e2, e3, e4⟩
    · rw [e1, e2]; decide
    · rw [e1, e2]; decide
    · rw [e1, e2]; decide
    · rw [e1, e2]; decide
    · obtain ⟨y, y1, y2⟩ := hN fr (by omega)
      rw [e1, e3, y1]
      exact ⟨fun z => absurd z (by decide), fun z => absurd z (nI_nm y2 (by simp))⟩
  unfold fX8_isWordAt wdB
  simp only [if_neg h0, rg17 hR, rg16 hR, rg15 hR, e15, e16, rg13 hR, Option.bind_some, h17, show nI un - nI fr = nI (un - fr) from pk_sub q1]
  by_cases ht : t = -2
  · rw [if_pos ht]
    by_cases h4 : un - fr = 4
    · have i1 : nI fr + 1 = nI (fr + 1) := nI_add (a := fr) (b := 1)
      have i2 : nI fr + 2 = nI (fr + 2) := nI_add (a := fr) (b := 2)
      have i3 : nI fr + 3 = nI (fr + 3) := nI_add (a := fr) (b := 3)
      rw [if_pos (by rw [h4]; rfl)]
      simp only [i1, i2, i3, rl13 hR (show fr < 96 by omega), rl13 hR (show fr + 1 < 96 by omega), rl13 hR (show fr + 2 < 96 by omega), rl13 hR (show fr + 3 < 96 by omega), hby.2.2 fr (by omega), hby.2.2 (fr + 1) (by omega), hby.2.2 (fr + 2) (by omega), hby.2.2 (fr + 3) (by omega), Option.bind_some]
      by_cases c0 : b fr = wrd i 0
      · by_cases c1 : b (fr + 1) = wrd i 1
        · by_cases c2 : b (fr + 2) = wrd i 2
          · by_cases c3 : b (fr + 3) = wrd i 3
            · rw [if_pos c0, if_pos c1, if_pos c2, if_pos c3, decide_eq_true ⟨ht, h4, c0, c1, c2, c3⟩]
            · rw [if_pos c0, if_pos c1, if_pos c2, if_neg c3, decide_eq_false (fun z => c3 z.2.2.2.2.2)]
          · rw [if_pos c0, if_pos c1, if_neg c2, decide_eq_false (fun z => c2 z.2.2.2.2.1)]
        · rw [if_pos c0, if_neg c1, decide_eq_false (fun z => c1 z.2.2.2.1)]
      · rw [if_neg c0, decide_eq_false (fun z => c0 z.2.2.1)]
    · rw [if_neg (show ¬ nI (un - fr) = 4 from fun z => h4 ((nI_eq (b := 4) (by omega) (by omega)).mp z)), decide_eq_false (fun z => h4 z.2.1)]
  · rw [if_neg ht, decide_eq_false (fun z => ht z.1)]
/-- which key stands first: 3 is none -/
def kyB (b : Nat → Int32) (t : Int32) (fr un : Nat) : Nat := if wdB b t fr un 0 then 0 else if wdB b t fr un 1 then 1 else if wdB b t fr un 2 then 2 else 3
theorem R_key (hR : Lay nd2 ad2 KR) (hN : ByN b l) (hby : ByR fi fa b l) (h : TokR b l t fr un fi) (e15 : fi 15 = nI fr) (e16 : fi 16 = nI un) : fX8_key (ad2 31) (MR nd2 ad2 fi fa) = some (if kyB b t fr un = 3 then -1 else nI (kyB b t fr un)) := by
  have w0 := R_isWordAt hR hN hby h e15 e16 (i := 0) (by decide)
  have w1 := R_isWordAt hR hN hby h e15 e16 (i := 1) (by decide)
  have w2 := R_isWordAt hR hN hby h e15 e16 (i := 2) (by decide)
  have x0 : fX8_isWordAt (ad2 31) 104 111 108 100 (MR nd2 ad2 fi fa) = some (wdB b t fr un 0) := w0
  have x1 : fX8_isWordAt (ad2 31) 115 116 111 112 (MR nd2 ad2 fi fa) = some (wdB b t fr un 1) := w1
  have x2 : fX8_isWordAt (ad2 31) 102 105 110 101 (MR nd2 ad2 fi fa) = some (wdB b t fr un 2) := w2
  unfold fX8_key kyB
  simp only [rcv hR, x0, x1, x2, Option.bind_some]
  cases wdB b t fr un 0 <;> cases wdB b t fr un 1 <;> cases wdB b t fr un 2 <;> rfl
theorem C_parseKey (hL : Lay nd ad (KC nT)) (hb : ByOK c b l) (h1 : fr ≤ un) (h2 : un ≤ l) : fX1_parseKey (ad 400) (MM nd (rdC ad c (nI l) t (nI fr) (nI un) (-1) ky lv sc p)) = if kyB b t fr un = 3 then some (MM nd (rdC ad c (nI l) t (nI fr) (nI un) (nI fr) ky lv sc p)) else some (MM nd (rdC ad c (nI l) (lxT b l t un) (nI (lxF b l un)) (nI (lxU b l un)) (-1) (nI (kyB b t fr un)) lv sc p)) := by
  unfold fX1_parseKey kyB
  simp only [rdv hL, C_isWord hL hb h1 h2 (show 0 < 3 by omega), C_isWord hL hb h1 h2 (show 1 < 3 by omega), C_isWord hL hb h1 h2 (show 2 < 3 by omega), rdp6 hL, C_advance hL hb h2, C_refuse hL, Option.bind_some]
  cases wdB b t fr un 0 <;> cases wdB b t fr un 1 <;> cases wdB b t fr un 2 <;> rfl
theorem kyB_4 (hne : ¬ kyB b t fr un = 3) : un - fr = 4 ∧ kyB b t fr un < 3 := by
  unfold kyB at hne ⊢
  by_cases h0 : wdB b t fr un 0 = true
  · rw [if_pos h0]; exact ⟨(of_decide_eq_true h0).2.1, by omega⟩
  · rw [if_neg h0] at hne ⊢
    by_cases h1 : wdB b t fr un 1 = true
    · rw [if_pos h1]; exact ⟨(of_decide_eq_true h1).2.1, by omega⟩
    · rw [if_neg h1] at hne ⊢
      by_cases h2 : wdB b t fr un 2 = true
      · rw [if_pos h2]; exact ⟨(of_decide_eq_true h2).2.1, by omega⟩
      · rw [if_neg h2] at hne
        exact absurd rfl hne
/-- the class's reader on a refused text stands still -/
theorem PJ_bad (hL : Lay nd ad (KC nT)) {F : Nat} (hF : F < 2 ^ 31) {l : Int32} {a3 a4 : Int32} : ∀ n lam, lam ≤ 5 → 7 - lam ≤ n → (PJ n).1 (ad 400) (nI lam) a3 a4 (MM nd (rdC ad c l t f u (nI F) ky lv sc p)) = some (MM nd (rdC ad c l t f u (nI F) ky lv sc p)) := by
  intro n
  induction n with
  | zero => intro lam h1 h2; omega
  | succ n ih =>
    intro lam h1 h2
    show fX1_parseJoined (PJ n).1 (PJ n).2 (ad 400) (nI lam) a3 a4 _ = _
    have hft : ¬ nI F < 0 := Int32.not_lt.mpr (nI_pos' hF)
    by_cases h5 : lam = 5
    · subst h5
      obtain ⟨k, rfl⟩ : ∃ k, n = k + 1 := ⟨n - 1, by omega⟩
      simp only [fX1_parseJoined, if_neg (show ¬ nI 5 ≤ (4 : Int32) by decide), rdv hL, Option.bind_fun_some]
      show fX1_parsePiece (PJ k).1 (PJ k).2 (ad 400) a3 a4 _ = _
      simp only [fX1_parsePiece, rdg5 hL, if_neg hft, Option.bind_some]
    · simp only [fX1_parseJoined, if_pos (show nI lam ≤ (4 : Int32) from nI_le (b := 4) (by omega) (by omega)), rdv hL, nI_1, ih (lam + 1) (by omega) (by omega), Option.bind_some, ite_some, Option.bind_fun_some]
      refine lpR (n := 4999) ?_
      simp only [fX1_parseJoined_b0, rdg5 hL, Option.bind_some, if_pos (nI_pos' hF)]
      split <;> rfl
end QD
