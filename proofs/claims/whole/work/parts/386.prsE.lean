theorem lpL {S R : Type} {b : S → Option (S ⊕ R)} {n : Nat} {s s1 : S} (h : b s = some (.inl s1)) : loopF b (n + 1) s = loopF b n s1 := by
  show (match b s with | none => none | some (.inl s1) => loopF b n s1 | some (.inr r) => some r) = _
  rw [h]
theorem lpR {S R : Type} {b : S → Option (S ⊕ R)} {n : Nat} {s : S} {r : R} (h : b s = some (.inr r)) : loopF b (n + 1) s = some r := by
  show (match b s with | none => none | some (.inl s1) => loopF b n s1 | some (.inr r) => some r) = _
  rw [h]
/-- what a level of the reference does at a token -/
def LvB (nd2 : Nat → Option Nat) (ad2 : Nat → Nat) (b : Nat → Int32) (l : Nat) (v : Int32) {R : Type} (f1 : Mem → R) (f2 : Bool → Mem → R) (g : Mem → Option (Bool × Mem)) (B : Mem → Option R) : Prop :=
  ∀ fi fa t fr un, TokR b l t fr un fi → (tgt t = v → ∀ fj, fX8_nextToken (ad2 31) (MR nd2 ad2 fi fa) = some (MR nd2 ad2 fj fa) →
    (∀ fi1 fa1 fi2 fa2, g (MR nd2 ad2 fj fa) = some (true, MR nd2 ad2 fi1 fa1) → fX8_step (ad2 31) 2 t (MR nd2 ad2 fi1 fa1) = some (MR nd2 ad2 fi2 fa2) → B (MR nd2 ad2 fi fa) = some (f1 (MR nd2 ad2 fi2 fa2))) ∧
    (∀ fi1 fa1, g (MR nd2 ad2 fj fa) = some (false, MR nd2 ad2 fi1 fa1) → B (MR nd2 ad2 fi fa) = some (f2 false (MR nd2 ad2 fi1 fa1)))) ∧
  (¬ tgt t = v → B (MR nd2 ad2 fi fa) = some (f2 true (MR nd2 ad2 fi fa)))
section QA
variable {nT : Nat} {nd nd2 : Nat → Option Nat} {c : Nat → pE} {ad ad2 : Nat → Nat} {b p : Nat → Int32} {l κ β o q σ δ P fr un fr0 lam : Nat} {t lv ft ky sc : Int32} {fi0 fi : Nat → Int32} {fa0 fa : Nat → Nat → Int32}
theorem J_body (hL : Lay nd ad (KC nT)) (hR : Lay nd2 ad2 KR) (hb : ByOK c b l) (hN : ByN b l) (hb0 : ByR fi0 fa0 b l) (hβ : β ≤ 2896) {gJ : Nat → Int32 → Int32 → Int32 → Mem → Option (Mem)} {Y : Mem → Option (Bool × Mem)} (hJ : JH nd nd2 ad ad2 c b l κ β fi0 fa0 o q (gJ (ad 400) (nI (lam + 1)) (nI o) (nI q)) Y) (hlam : lam ≤ 4) {R : Type} {f1 : Mem → R} {f2 : Bool → Mem → R} {B : Mem → Option R} (hB : LvB nd2 ad2 b l (nI lam) f1 f2 Y B) {k N : Nat} (hk : k < N) (hN2 : N ≤ 96)
    (h : Cp b l κ β o q σ (δ + 1) fr un t lv p fi0 fi fa0 fa) (hP : σ + P + 4 ≤ fr) :
    (fX1_parseJoined_b0 gJ (ad 400) (nI lam) (nI o) (nI q) (nI N) (nI k, MM nd (rdC ad c (nI l) t (nI fr) (nI un) (-1) (nI κ) lv (nI σ) p)) = some (.inr (MM nd (rdC ad c (nI l) t (nI fr) (nI un) (-1) (nI κ) lv (nI σ) p))) ∧ B (MR nd2 ad2 fi fa) = some (f2 true (MR nd2 ad2 fi fa))) ∨
    (∃ fi2 fa2 t2 fr2 un2 lv2 σ2 p2, fX1_parseJoined_b0 gJ (ad 400) (nI lam) (nI o) (nI q) (nI N) (nI k, MM nd (rdC ad c (nI l) t (nI fr) (nI un) (-1) (nI κ) lv (nI σ) p)) = some (.inl (nI (k + 1), MM nd (rdC ad c (nI l) t2 (nI fr2) (nI un2) (-1) (nI κ) lv2 (nI σ2) p2))) ∧ B (MR nd2 ad2 fi fa) = some (f1 (MR nd2 ad2 fi2 fa2)) ∧ Cp b l κ β o q σ2 (δ + 1) fr2 un2 t2 lv2 p2 fi0 fi2 fa0 fa2 ∧ σ2 + P + 4 ≤ fr2 ∧ fr < fr2) ∨
    (∃ F m7 fi1 fa1, F ≤ l ∧ fX1_parseJoined_b0 gJ (ad 400) (nI lam) (nI o) (nI q) (nI N) (nI k, MM nd (rdC ad c (nI l) t (nI fr) (nI un) (-1) (nI κ) lv (nI σ) p)) = some (.inl (nI (k + 1), m7)) ∧ Bad nd ad c l κ F m7 ∧ B (MR nd2 ad2 fi fa) = some (f2 false (MR nd2 ad2 fi1 fa1)) ∧ fi1 15 = nI F ∧ FrK β fi0 fi1 fa0 fa1) := by
  obtain ⟨hB1, hB2⟩ := hB fi fa t fr un h.1
  simp only [fX1_parseJoined_b0, if_neg (nI_ge hk (show N < 2 ^ 31 by omega)), rdg5 hL, rdg2 hL, rdv hL, C_tight, Option.bind_some, show ¬ (0 : Int32) ≤ -1 by decide, if_false]
  by_cases ht : tgt t = nI lam
  · obtain ⟨M5, fj, a1, a2, a3, a4⟩ := J_turn hL hR hb hN hb0 hβ hJ h hP (tgt_in ht hlam)
    obtain ⟨hB3, hB4⟩ := hB1 ht fj a1
    simp only [if_pos ht, a2, Option.bind_some, a3, nI_1]
    rcases a4 with ⟨M6, fi1, fa1, fi2, fa2, t2, fr2, un2, lv2, σ2, p2, c1, c2, c3, c4, c5, c6, c7, c8⟩ | ⟨F, m6, m7, fi1, fa1, c1, c2, c3, c4, c5, c6, c7, c8⟩
    · exact Or.inr (Or.inl ⟨fi2, fa2, t2, fr2, un2, lv2, σ2, p2, by rw [c1]; simp only [Option.bind_some, c2, c4], hB3 _ _ _ _ c3 c5, c6, c7, c8⟩)
    · exact Or.inr (Or.inr ⟨F, m7, fi1, fa1, c1, by rw [c2]; simp only [Option.bind_some, c3.cv hL, c4], c5, hB4 _ _ c6, c7, c8⟩)
  · simp only [if_neg ht]
    exact Or.inl ⟨trivial, hB2 ht⟩
theorem J_bad (hL : Lay nd ad (KC nT)) {gJ : Nat → Int32 → Int32 → Int32 → Mem → Option (Mem)} {F : Nat} {m : Mem} (h : Bad nd ad c l κ F m) (hF : F < 2 ^ 31) {a2 a3 a4 N y : Int32} {n : Nat} : loopF (fX1_parseJoined_b0 gJ (ad 400) a2 a3 a4 N) (n + 1) (y, m) = some m := by
  refine lpR ?_
  simp only [fX1_parseJoined_b0, h.fT hL, Option.bind_some, if_pos (nI_pos' hF)]
  split <;> rfl
theorem J_loop (hL : Lay nd ad (KC nT)) (hR : Lay nd2 ad2 KR) (hb : ByOK c b l) (hN : ByN b l) (hb0 : ByR fi0 fa0 b l) (hβ : β ≤ 2896) {gJ : Nat → Int32 → Int32 → Int32 → Mem → Option (Mem)} {Y : Mem → Option (Bool × Mem)} (hJ : JH nd nd2 ad ad2 c b l κ β fi0 fa0 o q (gJ (ad 400) (nI (lam + 1)) (nI o) (nI q)) Y) (hlam : lam ≤ 4) {B : Mem → Option (Mem ⊕ (Bool × Mem))} (hB : LvB nd2 ad2 b l (nI lam) Sum.inl (fun x m => Sum.inr (x, m)) Y B) :
    ∀ d k σ fr un t lv p fi fa N1 N2, 97 - fr ≤ d → d + 1 < N1 → d < N2 → k + 4 ≤ fr → Cp b l κ β o q σ (δ + 1) fr un t lv p fi0 fi fa0 fa → σ + P + 4 ≤ fr → fr0 ≤ fr → Res nd nd2 ad ad2 c b l κ β fi0 fa0 o q (δ + 1) P fr0 (loopF (fX1_parseJoined_b0 gJ (ad 400) (nI lam) (nI o) (nI q) (nI 96)) N1 (nI k, MM nd (rdC ad c (nI l) t (nI fr) (nI un) (-1) (nI κ) lv (nI σ) p))) (loopF B N2 (MR nd2 ad2 fi fa)) := by
  have h96 := hb.1
  intro d
  induction d with
  | zero =>
    intro k σ fr un t lv p fi fa N1 N2 hd h1 h2 hk h hP h0
    have := h.1.1
    have := h.1.2.1
    omega
  | succ d ih =>
    intro k σ fr un t lv p fi fa N1 N2 hd h1 h2 hk h hP h0
    have q1 := h.1.1
    have q2 := h.1.2.1
    obtain ⟨N1, rfl⟩ : ∃ n, N1 = n + 2 := ⟨N1 - 2, by omega⟩
    obtain ⟨N2, rfl⟩ : ∃ n, N2 = n + 1 := ⟨N2 - 1, by omega⟩
    rcases J_body hL hR hb hN hb0 hβ hJ hlam hB (k := k) (N := 96) (by omega) (by omega) h hP with ⟨a1, a2⟩ | ⟨fi2, fa2, t2, fr2, un2, lv2, σ2, p2, a1, a2, a3, a4, a5⟩ | ⟨F, m7, fi1, fa1, a1, a2, a3, a4, a5, a6⟩
    · left
      exact ⟨t, fr, un, lv, σ, p, fi, fa, lpR a1, lpR a2, h, hP, h0⟩
    · rw [lpL a1, lpL a2]
      exact ih (k + 1) σ2 fr2 un2 t2 lv2 p2 fi2 fa2 (N1 + 1) N2 (by omega) (by omega) (by omega) (by omega) a3 a4 (by omega)
    · right
      rw [lpL a2, J_bad hL a3 (by omega), lpR a4]
      exact ⟨F, m7, fi1, fa1, a1, rfl, a3, rfl, a5, a6⟩
/-- a level with a loop -/
theorem J_level (hL : Lay nd ad (KC nT)) (hR : Lay nd2 ad2 KR) (hb : ByOK c b l) (hN : ByN b l) (hb0 : ByR fi0 fa0 b l) (hβ : β ≤ 2896) {gJ : Nat → Int32 → Int32 → Int32 → Mem → Option (Mem)} {gP : Nat → Int32 → Int32 → Mem → Option (Mem)} {Y Z : Mem → Option (Bool × Mem)} (hJ : JH nd nd2 ad ad2 c b l κ β fi0 fa0 o q (gJ (ad 400) (nI (lam + 1)) (nI o) (nI q)) Y) (hlam : lam ≤ 4) (hl2 : lam ≠ 2) {B : Mem → Option (Mem ⊕ (Bool × Mem))} (hB : LvB nd2 ad2 b l (nI lam) Sum.inl (fun x m => Sum.inr (x, m)) Y B)
    (hZ : ∀ fi fa, Z (MR nd2 ad2 fi fa) = (Y (MR nd2 ad2 fi fa)).bind fun (b1, m2) => if b1 = true then loopF B bigN m2 else some (false, m2)) :
    JH nd nd2 ad ad2 c b l κ β fi0 fa0 o q (fX1_parseJoined gJ gP (ad 400) (nI lam) (nI o) (nI q)) Z := by
  intro σ δ P fr un t lv p fi fa h hP
  have h96 := hb.1
  have e2 : ¬ nI lam = 2 := fun z => hl2 ((nI_eq (b := 2) (by omega) (by omega)).mp z)
  rw [hZ]
  simp only [fX1_parseJoined, if_pos (show nI lam ≤ (4 : Int32) from nI_le (b := 4) hlam (by omega)), rdv hL, nI_1, if_neg e2, Option.bind_some]
  rcases hJ σ δ P fr un t lv p fi fa h hP with ⟨t2, fr2, un2, lv2, σ2, p2, fi1, fa1, e1, e2, e3, e4, e5⟩ | ⟨F, m, fi1, fa1, f1, f2, f3, f4, f5, f6⟩
  · rw [e1, e2]
    simp only [Option.bind_some, if_true, Option.bind_fun_some]
    exact J_loop hL hR hb hN hb0 hβ hJ hlam hB 97 0 σ2 fr2 un2 t2 lv2 p2 fi1 fa1 bigN bigN (by omega) (by rw [bigN_eq]; omega) (by rw [bigN_eq]; omega) (by omega) e3 e4 e5
  · rw [f2, f4]
    simp only [Option.bind_some, Option.bind_fun_some]
    right
    exact ⟨F, m, fi1, fa1, f1, J_bad (n := 4999) hL f3 (by omega), f3, rfl, f5, f6⟩
/-- the level of tests: at most one -/
theorem J_test (hL : Lay nd ad (KC nT)) (hR : Lay nd2 ad2 KR) (hb : ByOK c b l) (hN : ByN b l) (hb0 : ByR fi0 fa0 b l) (hβ : β ≤ 2896) {gJ : Nat → Int32 → Int32 → Int32 → Mem → Option (Mem)} {gP : Nat → Int32 → Int32 → Mem → Option (Mem)} {Y Z : Mem → Option (Bool × Mem)} (hJ : JH nd nd2 ad ad2 c b l κ β fi0 fa0 o q (gJ (ad 400) (nI 3) (nI o) (nI q)) Y) {B : Mem → Option (Bool × Mem)} (hB : LvB nd2 ad2 b l (nI 2) (fun m => (true, m)) (fun x m => (x, m)) Y B)
    (hZ : ∀ fi fa, Z (MR nd2 ad2 fi fa) = (Y (MR nd2 ad2 fi fa)).bind fun (b1, m2) => if b1 = true then B m2 else some (false, m2)) :
    JH nd nd2 ad ad2 c b l κ β fi0 fa0 o q (fX1_parseJoined gJ gP (ad 400) (nI 2) (nI o) (nI q)) Z := by
  intro σ δ P fr un t lv p fi fa h hP
  have h96 := hb.1
  have hJ2 := hJ
  rw [hZ]
  simp only [fX1_parseJoined, if_pos (show nI 2 ≤ (4 : Int32) by decide), rdv hL, nI_1, if_pos (show nI 2 = 2 from rfl), Option.bind_some]
  rcases hJ σ δ P fr un t lv p fi fa h hP with ⟨t2, fr2, un2, lv2, σ2, p2, fi1, fa1, e1, e2, e3, e4, e5⟩ | ⟨F, m, fi1, fa1, f1, f2, f3, f4, f5, f6⟩
  · rw [e1, e2]
    simp only [Option.bind_some, if_true, Option.bind_fun_some]
    rw [show bigN = 4998 + 1 + 1 from rfl]
    rcases J_body hL hR hb hN hb0 hβ hJ (by omega) hB (k := 0) (N := 1) (by omega) (by omega) e3 e4 with ⟨a1, a2⟩ | ⟨fi2, fa2, t3, fr3, un3, lv3, σ3, p3, a1, a2, a3, a4, a5⟩ | ⟨F, m7, fi1, fa1, a1, a2, a3, a4, a5, a6⟩
    · left
      exact ⟨t2, fr2, un2, lv2, σ2, p2, fi1, fa1, lpR a1, a2, e3, e4, e5⟩
    · left
      refine ⟨t3, fr3, un3, lv3, σ3, p3, fi2, fa2, ?_, a2, a3, a4, by omega⟩
      refine (lpL (n := 4999) a1).trans ?_
      refine lpR (n := 4998) ?_
      simp only [fX1_parseJoined_b0, if_pos (show nI 1 ≤ nI (0 + 1) by decide)]
    · right
      refine ⟨F, m7, fi1, fa1, a1, ?_, a3, a4, a5, a6⟩
      refine (lpL (n := 4999) a2).trans ?_
      exact J_bad (n := 4998) hL a3 (by omega)
  · rw [f2, f4]
    simp only [Option.bind_some, Option.bind_fun_some]
    right
    exact ⟨F, m, fi1, fa1, f1, J_bad (n := 4999) hL f3 (by omega), f3, rfl, f5, f6⟩
end QA
