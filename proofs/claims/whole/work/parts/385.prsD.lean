/-! BOTH READERS GO ON TOGETHER, OR BOTH REFUSE AT ONE PLACE -/
def FrK (β : Nat) (fi0 fi : Nat → Int32) (fa0 fa : Nat → Nat → Int32) : Prop := (∀ k, ¬ (15 ≤ k ∧ k ≤ 24) → fi k = fi0 k) ∧ (∀ k, k ≠ 0 → fa k = fa0 k) ∧ (∀ j, j < β ∨ β + 196 ≤ j → fa 0 j = fa0 0 j)
def Bad (nd : Nat → Option Nat) (ad : Nat → Nat) (c : Nat → pE) (l κ F : Nat) (m : Mem) : Prop := ∃ t f un lv σ p, un ≤ l ∧ σ ≤ 96 ∧ m = MM nd (rdC ad c (nI l) t f (nI un) (nI F) (nI κ) lv (nI σ) p)
def Res (nd nd2 : Nat → Option Nat) (ad ad2 : Nat → Nat) (c : Nat → pE) (b : Nat → Int32) (l κ β : Nat) (fi0 : Nat → Int32) (fa0 : Nat → Nat → Int32) (o q δ P fr0 : Nat) (X : Option Mem) (Y : Option (Bool × Mem)) : Prop :=
  (∃ t fr un lv σ p fi fa, X = some (MM nd (rdC ad c (nI l) t (nI fr) (nI un) (-1) (nI κ) lv (nI σ) p)) ∧ Y = some (true, MR nd2 ad2 fi fa) ∧ Cp b l κ β o q σ δ fr un t lv p fi0 fi fa0 fa ∧ σ + P + 4 ≤ fr ∧ fr0 ≤ fr) ∨
  (∃ F m fi fa, F ≤ l ∧ X = some m ∧ Bad nd ad c l κ F m ∧ Y = some (false, MR nd2 ad2 fi fa) ∧ fi 15 = nI F ∧ FrK β fi0 fi fa0 fa)
def JH (nd nd2 : Nat → Option Nat) (ad ad2 : Nat → Nat) (c : Nat → pE) (b : Nat → Int32) (l κ β : Nat) (fi0 : Nat → Int32) (fa0 : Nat → Nat → Int32) (o q : Nat) (X : Mem → Option Mem) (Y : Mem → Option (Bool × Mem)) : Prop :=
  ∀ σ δ P fr un t lv p fi fa, Cp b l κ β o q σ δ fr un t lv p fi0 fi fa0 fa → σ + P + 4 ≤ fr → Res nd nd2 ad ad2 c b l κ β fi0 fa0 o q (δ + 1) P fr (X (MM nd (rdC ad c (nI l) t (nI fr) (nI un) (-1) (nI κ) lv (nI σ) p))) (Y (MR nd2 ad2 fi fa))
def tgt (t : Int32) : Int32 := if t = 38 then 1 else if t = 42 then 4 else if t = 43 then 3 else if t = 45 then 3 else if t = 47 then 4 else if t = 60 then 2 else if t = 61 then 2 else if t = 62 then 2 else if t = 124 then 0 else -1
theorem C_tight (t : Int32) (m : Mem) : fX1_tightness t m = some (tgt t) := by
  unfold fX1_tightness tgt
  simp only [ite_some]
theorem tgt_in {t : Int32} {lam : Nat} (h : tgt t = nI lam) (hl : lam ≤ 4) : t ∈ ([38, 42, 43, 45, 47, 60, 61, 62, 124] : List Int32) := by
  unfold tgt at h
  by_cases h1 : t = 38; · rw [h1]; decide
  by_cases h2 : t = 42; · rw [h2]; decide
  by_cases h3 : t = 43; · rw [h3]; decide
  by_cases h4 : t = 45; · rw [h4]; decide
  by_cases h5 : t = 47; · rw [h5]; decide
  by_cases h6 : t = 60; · rw [h6]; decide
  by_cases h7 : t = 61; · rw [h7]; decide
  by_cases h8 : t = 62; · rw [h8]; decide
  by_cases h9 : t = 124; · rw [h9]; decide
  rw [if_neg h1, if_neg h2, if_neg h3, if_neg h4, if_neg h5, if_neg h6, if_neg h7, if_neg h8, if_neg h9] at h
  exfalso
  rcases (show lam = 0 ∨ lam = 1 ∨ lam = 2 ∨ lam = 3 ∨ lam = 4 by omega) with e | e | e | e | e <;> rw [e] at h <;> exact absurd h (by decide)
theorem sgn_fact : ∀ t ∈ ([38, 42, 43, 45, 47, 60, 61, 62, 124] : List Int32), 0 ≤ t ∧ ¬ t = 33 := by decide
theorem TokR.sgn {b : Nat → Int32} {l fr un : Nat} {t : Int32} {fi : Nat → Int32} (h : TokR b l t fr un fi) (h0 : 0 ≤ t) : fi 17 = 3 ∧ fi 19 = t ∧ un = fr + 1 := by
  obtain ⟨h1, h2, h3⟩ := h
  rcases h3 with ⟨e1, -⟩ | ⟨e1, -⟩ | ⟨e1, -⟩ | ⟨e1, -⟩ | ⟨e1, e2, e3, e4⟩
  · rw [e1] at h0; exact absurd h0 (by decide)
  · rw [e1] at h0; exact absurd h0 (by decide)
  · rw [e1] at h0; exact absurd h0 (by decide)
  · rw [e1] at h0; exact absurd h0 (by decide)
  · exact ⟨e1, e2.trans e3.symm, e4⟩
section PZ
variable {nT : Nat} {nd nd2 : Nat → Option Nat} {c : Nat → pE} {ad ad2 : Nat → Nat} {b p : Nat → Int32} {l κ β o q σ δ P fr un : Nat} {t lv ft ky sc : Int32} {fi0 fi : Nat → Int32} {fa0 fa : Nat → Nat → Int32}
theorem Cp.frk (h : Cp b l κ β o q σ δ fr un t lv p fi0 fi fa0 fa) : FrK β fi0 fi fa0 fa := by
  obtain ⟨-, -, -, -, -, -, -, -, h9, h10, h11, -⟩ := h
  exact ⟨h9, h10, h11⟩
theorem Bad.step {F : Nat} {m : Mem} (hL : Lay nd ad (KC nT)) (h : Bad nd ad c l κ F m) (v : Int32) : ∃ m1, fX1_addStep (ad 400) v m = some m1 ∧ Bad nd ad c l κ F m1 := by
  obtain ⟨t, f, un, lv, σ, p, h1, h2, rfl⟩ := h
  by_cases h3 : σ < 96
  · exact ⟨_, C_addStep hL h3 v, _, _, _, _, _, _, h1, by omega, rfl⟩
  · refine ⟨_, ?_, t, f, un, lv, σ, p, h1, h2, rfl⟩
    unfold fX1_addStep
    simp only [rdg9 hL, if_pos (show (96 : Int32) ≤ nI σ from nI_le (a := 96) (by omega) (by omega)), Option.bind_some]
theorem Bad.fT {F : Nat} {m : Mem} (hL : Lay nd ad (KC nT)) (h : Bad nd ad c l κ F m) : gI m (ad 400) 1 5 = some (nI F) := by
  obtain ⟨t, f, un, lv, σ, p, h1, h2, rfl⟩ := h
  exact rdg5 hL
theorem Bad.cv {F : Nat} {m : Mem} (hL : Lay nd ad (KC nT)) (h : Bad nd ad c l κ F m) {α : Type} {x : Option α} : cV m (ad 400) 1 x = x := by
  obtain ⟨t, f, un, lv, σ, p, h1, h2, rfl⟩ := h
  exact rdv hL
theorem Bad.closing {F : Nat} {m : Mem} (hL : Lay nd ad (KC nT)) (hb : ByOK c b l) (hF : F ≤ l) (h : Bad nd ad c l κ F m) : ∃ m1, fX1_parseClosing (ad 400) m = some m1 ∧ Bad nd ad c l κ F m1 := by
  have h96 := hb.1
  obtain ⟨t, f, un, lv, σ, p, h1, h2, rfl⟩ := h
  unfold fX1_parseClosing
  simp only [rdg2 hL, rdv hL, Option.bind_some]
  by_cases ht : t = 41
  · rw [if_pos ht, C_advance hL hb h1]
    refine ⟨_, rfl, _, _, _, _, _, _, ?_, h2, rfl⟩
    unfold lxU
    have hfl := rwE_le (b := b) (lo := 32) (hi := 32) h1
    by_cases hl : lxF b l un < l
    · rw [if_pos hl]
      split
      · exact (rwE_le (b := b) hfl.2).2
      · split
        · exact (rwE_le (b := b) hfl.2).2
        · exact hl
    · rw [if_neg hl]
      exact Nat.le_refl _
  · rw [if_neg ht, C_refuse2 hL (nI_pos' (by omega))]
    exact ⟨_, rfl, t, f, un, lv, σ, p, h1, h2, rfl⟩
theorem J_turn (hL : Lay nd ad (KC nT)) (hR : Lay nd2 ad2 KR) (hb : ByOK c b l) (hN : ByN b l) (hb0 : ByR fi0 fa0 b l) (hβ : β ≤ 2896) {X : Mem → Option Mem} {Y : Mem → Option (Bool × Mem)} (hJ : JH nd nd2 ad ad2 c b l κ β fi0 fa0 o q X Y) (h : Cp b l κ β o q σ (δ + 1) fr un t lv p fi0 fi fa0 fa) (hP : σ + P + 4 ≤ fr) (ht : t ∈ ([38, 42, 43, 45, 47, 60, 61, 62, 124] : List Int32)) :
    ∃ M5 fj, fX8_nextToken (ad2 31) (MR nd2 ad2 fi fa) = some (MR nd2 ad2 fj fa) ∧ fX1_advance (ad 400) (MM nd (rdC ad c (nI l) t (nI fr) (nI un) (-1) (nI κ) lv (nI σ) p)) = some (MM nd M5) ∧ (∀ (α : Type) (x : Option α), cV (MM nd M5) (ad 400) 1 x = x) ∧
    ((∃ M6 fi1 fa1 fi2 fa2 t2 fr2 un2 lv2 σ2 p2, X (MM nd M5) = some (MM nd M6) ∧ (∀ (α : Type) (x : Option α), cV (MM nd M6) (ad 400) 1 x = x) ∧ Y (MR nd2 ad2 fj fa) = some (true, MR nd2 ad2 fi1 fa1) ∧ fX1_addStep (ad 400) (-t) (MM nd M6) = some (MM nd (rdC ad c (nI l) t2 (nI fr2) (nI un2) (-1) (nI κ) lv2 (nI σ2) p2)) ∧ fX8_step (ad2 31) 2 t (MR nd2 ad2 fi1 fa1) = some (MR nd2 ad2 fi2 fa2) ∧ Cp b l κ β o q σ2 (δ + 1) fr2 un2 t2 lv2 p2 fi0 fi2 fa0 fa2 ∧ σ2 + P + 4 ≤ fr2 ∧ fr < fr2) ∨
     (∃ F m6 m7 fi1 fa1, F ≤ l ∧ X (MM nd M5) = some m6 ∧ Bad nd ad c l κ F m6 ∧ fX1_addStep (ad 400) (-t) m6 = some m7 ∧ Bad nd ad c l κ F m7 ∧ Y (MR nd2 ad2 fj fa) = some (false, MR nd2 ad2 fi1 fa1) ∧ fi1 15 = nI F ∧ FrK β fi0 fi1 fa0 fa1)) := by
  have h96 := hb.1
  have hs := sgn_fact t ht
  have htk := h.1
  have hun := (htk.sgn hs.1).2.2
  obtain ⟨fj, a1, a2, a3⟩ := J_adv hR hN hb0 h
  refine ⟨_, fj, a1, C_advance hL hb htk.2.1, fun α x => rdv hL, ?_⟩
  rcases hJ σ (δ + 1) (P + 1) _ _ _ _ _ _ _ a2 (by omega) with ⟨t2, fr2, un2, lv2, σ2, p2, fi1, fa1, e1, e2, e3, e4, e5⟩ | ⟨F, m, fi1, fa1, f1, f2, f3, f4, f5, f6⟩
  · left
    have hfr := e3.1.1
    have hun2 := e3.1.2.1
    obtain ⟨fi2, fa2, s1, s2⟩ := J_step hR hβ (by omega) e3 (w := 2) (v := t) (Or.inr (Or.inr ⟨rfl, Or.inr ⟨hs.2, by omega, ht⟩⟩))
    have hnd : newD 2 t (δ + 1 + 1) = δ + 1 := by
      unfold newD
      rw [if_pos rfl, if_neg hs.2]
      omega
    rw [hnd] at s2
    exact ⟨_, fi1, fa1, fi2, fa2, t2, fr2, un2, lv2, σ2 + 1, _, e1, fun α x => rdv hL, e2, C_addStep hL (by omega) (-t), s1, s2, by omega, by omega⟩
  · right
    obtain ⟨m7, g1, g2⟩ := f3.step hL (-t)
    exact ⟨F, m, m7, fi1, fa1, f1, f2, f3, g1, g2, f4, f5, f6⟩
end PZ
