def Cp (b : Nat → Int32) (l κ β o q σ δ fr un : Nat) (t lv : Int32) (p : Nat → Int32) (fi0 fi : Nat → Int32) (fa0 fa : Nat → Nat → Int32) : Prop :=
  TokR b l t fr un fi ∧ fi 15 = nI fr ∧ fi 16 = nI un ∧ fi 20 = nI o ∧ fi 21 = nI q ∧ fi 22 = nI σ ∧ fi 23 = nI β ∧ fi 24 = lv ∧ (∀ k, ¬ (15 ≤ k ∧ k ≤ 24) → fi k = fi0 k) ∧ (∀ k, k ≠ 0 → fa k = fa0 k) ∧ (∀ j, j < β ∨ β + 196 ≤ j → fa 0 j = fa0 0 j) ∧
  (∀ k, k < σ → p k = encS (nI κ) (fa 0 (β + 2 * k)) (fa 0 (β + 2 * k + 1))) ∧ (∀ k, k < σ → stB (fa 0) β (nI κ) k) ∧ dpB (fa 0) β σ = δ
/-- a step that may come on a pile of δ -/
def newS (key w v : Int32) (δ : Nat) : Prop := (w = 0 ∧ ∃ n, v = nI n ∧ n < 10000) ∨ (w = 1 ∧ nmOK key v) ∨ (w = 2 ∧ ((v = 33 ∧ 1 ≤ δ) ∨ (¬ v = 33 ∧ 2 ≤ δ ∧ v ∈ ([38, 42, 43, 45, 47, 60, 61, 62, 124] : List Int32))))
def newD (w v : Int32) (δ : Nat) : Nat := if w = 2 then (if v = 33 then δ else δ - 1) else δ + 1
section PX
variable {nT : Nat} {nd nd2 : Nat → Option Nat} {c : Nat → pE} {ad ad2 : Nat → Nat} {b p : Nat → Int32} {l κ β o q σ δ fr un : Nat} {t lv ft ky sc : Int32} {fi0 fi : Nat → Int32} {fa0 fa : Nat → Nat → Int32}
theorem Cp.by (hb0 : ByR fi0 fa0 b l) (h : Cp b l κ β o q σ δ fr un t lv p fi0 fi fa0 fa) : ByR fi fa b l := by
  obtain ⟨-, -, -, -, -, -, -, -, h9, h10, -⟩ := h
  refine ⟨hb0.1, (h9 14 (by omega)).trans hb0.2.1, fun j hj => ?_⟩
  rw [h10 13 (by omega)]
  exact hb0.2.2 j hj
theorem J_adv (hR : Lay nd2 ad2 KR) (hN : ByN b l) (hb0 : ByR fi0 fa0 b l) (h : Cp b l κ β o q σ δ fr un t lv p fi0 fi fa0 fa) : ∃ fj, fX8_nextToken (ad2 31) (MR nd2 ad2 fi fa) = some (MR nd2 ad2 fj fa) ∧ Cp b l κ β o q σ δ (lxF b l un) (lxU b l un) (lxT b l t un) lv p fi0 fj fa0 fa ∧ un ≤ lxF b l un := by
  have hby := h.by hb0
  obtain ⟨h1, h2, h3, h4, h5, h6, h7, h8, h9, h10⟩ := h
  have hu := h1.2.1
  have hgl : glT b l t un = (decide (0 < un ∧ (fi 17 = 1 ∨ fi 17 = 2)) && decide (lxF b l un = un)) := by
    unfold glT
    rw [h1.bw hN]
    rfl
  obtain ⟨fj, r1, r2, r3, r4, r5, r6, r7, r8⟩ := R_nextToken hR hby hu h3 rfl
  refine ⟨fj, r1, ⟨lx_tok hu hgl r5 r6 r7 r8, r3, r4, (r2 20 (by omega)).trans h4, (r2 21 (by omega)).trans h5, (r2 22 (by omega)).trans h6, (r2 23 (by omega)).trans h7, (r2 24 (by omega)).trans h8, fun k hk => (r2 k (by omega)).trans (h9 k hk), h10⟩, (rwE_le (b := b) (lo := 32) (hi := 32) hu).1⟩
theorem C_addStep (hL : Lay nd ad (KC nT)) {l' f u : Int32} (hσ : σ < 96) (v : Int32) : fX1_addStep (ad 400) v (MM nd (rdC ad c l' t f u ft ky lv (nI σ) p)) = some (MM nd (rdC ad c l' t f u ft ky lv (nI (σ + 1)) (upd p σ v))) := by
  unfold fX1_addStep
  simp only [rdg9 hL, if_neg (show ¬ (96 : Int32) ≤ nI σ from nI_ge (b := 96) hσ (by omega)), rdr8 hL, rds hL hσ, nI_1, rdp9 hL, Option.bind_some]
theorem J_step (hR : Lay nd2 ad2 KR) (hβ : β ≤ 2896) (hσ : σ ≤ 94) (h : Cp b l κ β o q σ δ fr un t lv p fi0 fi fa0 fa) {w v : Int32} (hn : newS (nI κ) w v δ) : ∃ fj fb, fX8_step (ad2 31) w v (MR nd2 ad2 fi fa) = some (MR nd2 ad2 fj fb) ∧ Cp b l κ β o q (σ + 1) (newD w v δ) fr un t lv (upd p σ (encS (nI κ) w v)) fi0 fj fa0 fb := by
  obtain ⟨h1, h2, h3, h4, h5, h6, h7, h8, h9, h10, h11, h12, h13, h14⟩ := h
  have i1 : nI β + (2 : Int32) * nI σ = nI (β + 2 * σ) := by rw [ix2m, nI_add]
  have u0 : ∀ j, j ≠ β + 2 * σ → j ≠ β + 2 * σ + 1 → upd (upd (fa 0) (β + 2 * σ) w) (β + 2 * σ + 1) v j = fa 0 j := fun j a1 a2 => by rw [upd_n a2, upd_n a1]
  have u1 : upd (upd (fa 0) (β + 2 * σ) w) (β + 2 * σ + 1) v (β + 2 * σ) = w := by rw [upd_n (by omega), upd_s]
  have u2 : upd (upd (fa 0) (β + 2 * σ) w) (β + 2 * σ + 1) v (β + 2 * σ + 1) = v := upd_s
  refine ⟨upd fi 22 (nI (σ + 1)), upF fa 0 (upd (upd (fa 0) (β + 2 * σ) w) (β + 2 * σ + 1) v), ?_, ?_⟩
  · unfold fX8_step
    simp only [rg0 hR, rg23 hR, rg22 hR, h6, h7, i1, nI_1, rs0 hR (show β + 2 * σ < 3092 by omega), rs0 hR (show β + 2 * σ + 1 < 3092 by omega), upF_s, upF_2, rpu22 hR, Option.bind_some]
  · have hd : dpB (upd (upd (fa 0) (β + 2 * σ) w) (β + 2 * σ + 1) v) β σ = δ := by
      rw [← h14]
      exact dpB_cg (fun j a1 a2 => u0 j (by omega) (by omega))
    refine ⟨?_, by rw [upd_n (by decide)]; exact h2, by rw [upd_n (by decide)]; exact h3, by rw [upd_n (by decide)]; exact h4, by rw [upd_n (by decide)]; exact h5, upd_s, by rw [upd_n (by decide)]; exact h7, by rw [upd_n (by decide)]; exact h8, fun k hk => by rw [upd_n (by omega)]; exact h9 k hk, fun k hk => by rw [upF_n hk]; exact h10 k hk, fun j hj => by rw [upF_s, u0 j (by omega) (by omega)]; exact h11 j hj, fun k hk => ?_, fun k hk => ?_, ?_⟩
    · unfold TokR at h1 ⊢
      rw [upd_n (by decide), upd_n (by decide), upd_n (by decide)]
      exact h1
    · rw [upF_s]
      by_cases ek : k = σ
      · subst ek; rw [upd_s, u1, u2]
      · rw [upd_n ek, u0 _ (by omega) (by omega), u0 _ (by omega) (by omega)]
        exact h12 k (by omega)
    · rw [upF_s]
      by_cases ek : k = σ
      · subst ek
        unfold stB
        rw [u1, u2, hd]
        exact hn
      · exact stB_cg (fun j a1 a2 => u0 j (by omega) (by omega)) (h13 k (by omega))
    · rw [upF_s, dpB_s, u1, u2, hd]
      rfl
theorem C_refuse (hL : Lay nd ad (KC nT)) {l' f u : Int32} : fX1_refuse (ad 400) (MM nd (rdC ad c l' t f u (-1) ky lv sc p)) = some (MM nd (rdC ad c l' t f u f ky lv sc p)) := by
  unfold fX1_refuse
  simp only [rdg5 hL, show ¬ (0 : Int32) ≤ -1 by decide, if_false, rdg3 hL, rdp5 hL, Option.bind_some]
theorem C_refuse2 (hL : Lay nd ad (KC nT)) {l' f u : Int32} (hf : 0 ≤ ft) : fX1_refuse (ad 400) (MM nd (rdC ad c l' t f u ft ky lv sc p)) = some (MM nd (rdC ad c l' t f u ft ky lv sc p)) := by
  unfold fX1_refuse
  simp only [rdg5 hL, if_pos hf, Option.bind_some]
theorem R_isSign (hR : Lay nd2 ad2 KR) (hN : ByN b l) (h : TokR b l t fr un fi) {v : Int32} (hv : 0 ≤ v) : fX8_isSign (ad2 31) v (MR nd2 ad2 fi fa) = some (decide (t = v)) := by
  unfold fX8_isSign
  simp only [rg17 hR, rg19 hR, Option.bind_some]
  have neg : ∀ z : Int32, z = -1 ∨ z = -2 ∨ z = -3 ∨ z = -4 → ¬ z = v := by
    intro z hz e
    rw [← e] at hv
    rcases hz with y | y | y | y <;> rw [y] at hv <;> exact absurd hv (by decide)
  obtain ⟨h1, h2, h3⟩ := h
  rcases h3 with ⟨e1, e2, -⟩ | ⟨e1, e2, -⟩ | ⟨e1, e2, -⟩ | ⟨e1, e2, -⟩ | ⟨e1, e2, e3, e4⟩
  · rw [e2, if_neg (by decide), decide_eq_false (neg t (Or.inl e1))]
  · rw [e2, if_neg (by decide), decide_eq_false (neg t (Or.inr (Or.inl e1)))]
  · rw [e2, if_neg (by decide), decide_eq_false (neg t (Or.inr (Or.inr (Or.inl e1))))]
  · rw [e2, if_neg (by decide), decide_eq_false (neg t (Or.inr (Or.inr (Or.inr e1))))]
  · rw [if_pos e1, e2, ← e3]
    by_cases hz : t = v
    · rw [if_pos hz, decide_eq_true hz]
    · rw [if_neg hz, decide_eq_false hz]
end PX
