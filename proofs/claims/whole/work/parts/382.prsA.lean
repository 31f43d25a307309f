/-! THE PARSERS SIDE BY SIDE -/
def TokR (b : Nat → Int32) (l : Nat) (t : Int32) (fr un : Nat) (fi : Nat → Int32) : Prop :=
  fr ≤ un ∧ un ≤ l ∧
  ((t = -1 ∧ fi 17 = 0 ∧ fr = l ∧ un = l) ∨
   (t = -2 ∧ fi 17 = 1 ∧ fr < un ∧ (fi 19 = if un - fr = 1 then b fr else 0) ∧ inR b l 97 122 fr = true) ∨
   (t = -3 ∧ fi 17 = 2 ∧ fr < un ∧ un - fr ≤ 4 ∧ fi 18 = dgF b fr (un - fr) ∧ ∀ j, fr ≤ j → j < un → inR b l 48 57 j = true) ∨
   (t = -4 ∧ fi 17 = 4 ∧ fr < un) ∨ (fi 17 = 3 ∧ fi 19 = b fr ∧ t = b fr ∧ un = fr + 1))
/-- bytes are bytes -/
def ByN (b : Nat → Int32) (l : Nat) : Prop := ∀ j, j < l → ∃ q, b j = nI q ∧ q < 256
theorem nI_nm {q : Nat} {v : Int32} (hq : q < 256) (hv : v = -1 ∨ v = -2 ∨ v = -3 ∨ v = -4) : ¬ nI q = v := by
  intro z
  have := nI_pos' (n := q) (by omega)
  rw [z] at this
  rcases hv with e | e | e | e <;> rw [e] at this <;> exact absurd this (by decide)
theorem TokR.bw {b : Nat → Int32} {l fr un : Nat} {t : Int32} {fi : Nat → Int32} (hN : ByN b l) (h : TokR b l t fr un fi) : bwT t = decide (0 < un ∧ (fi 17 = 1 ∨ fi 17 = 2)) := by
  obtain ⟨h1, h2, h3⟩ := h
  unfold bwT
  rcases h3 with ⟨e1, e2, -⟩ | ⟨e1, e2, e3, -⟩ | ⟨e1, e2, e3, -⟩ | ⟨e1, e2, -⟩ | ⟨e1, e2, e3, e4⟩
  · rw [e1, e2, decide_eq_false (fun z => by rcases z with y | y <;> exact absurd y (by decide)), decide_eq_false (fun z => by rcases z.2 with y | y <;> exact absurd y (by decide))]
  · rw [e1, e2]; simp; omega
  · rw [e1, e2]; simp; omega
  · rw [e1, e2, decide_eq_false (fun z => by rcases z with y | y <;> exact absurd y (by decide)), decide_eq_false (fun z => by rcases z.2 with y | y <;> exact absurd y (by decide))]
  · obtain ⟨q, q1, q2⟩ := hN fr (by omega)
    rw [e1, e3, q1, decide_eq_false (fun z => z.elim (nI_nm q2 (by simp)) (nI_nm q2 (by simp))), decide_eq_false (fun z => by rcases z.2 with y | y <;> exact absurd y (by decide))]
theorem lx_tok {b : Nat → Int32} {l un : Nat} {t : Int32} {g : Bool} {fj : Nat → Int32} (hu : un ≤ l) (hg : glT b l t un = g) (h17 : fj 17 = kdT b l g un) (h1 : fj 17 = 1 → fj 19 = if lxU b l un - lxF b l un = 1 then b (lxF b l un) else 0) (h2 : fj 17 = 2 → fj 18 = dgF b (lxF b l un) (lxU b l un - lxF b l un)) (h3 : fj 17 = 3 → fj 19 = b (lxF b l un)) : TokR b l (lxT b l t un) (lxF b l un) (lxU b l un) fj := by
  have hfl : un ≤ lxF b l un ∧ lxF b l un ≤ l := rwE_le (b := b) (lo := 32) (hi := 32) hu
  by_cases hl : lxF b l un < l
  · have hU : lxU b l un = if inR b l 97 122 (lxF b l un) then rwE b l 97 122 (lxF b l un) else if inR b l 48 57 (lxF b l un) then rwE b l 48 57 (lxF b l un) else lxF b l un + 1 := by unfold lxU; rw [if_pos hl]
    have hK : kdT b l g un = if inR b l 97 122 (lxF b l un) then (if g then 4 else 1) else if inR b l 48 57 (lxF b l un) then (if g then 4 else if lxU b l un - lxF b l un ≤ 4 then 2 else 4) else 3 := by unfold kdT; rw [if_pos hl]
    have hT : lxT b l t un = if inR b l 97 122 (lxF b l un) then (if g then -4 else -2) else if inR b l 48 57 (lxF b l un) then (if g then -4 else if lxU b l un - lxF b l un ≤ 4 then -3 else -4) else b (lxF b l un) := by unfold lxT; rw [if_pos hl, hg]
    by_cases q1 : inR b l 97 122 (lxF b l un) = true
    · rw [if_pos q1] at hU hK hT
      have r1 := rwE_le (b := b) (lo := 97) (hi := 122) hfl.2
      have r2 := rwE_gt q1
      rw [← hU] at r1 r2
      refine ⟨r1.1, r1.2, ?_⟩
      cases g with
      | true => exact Or.inr (Or.inr (Or.inr (Or.inl ⟨hT, h17.trans hK, r2⟩)))
      | false => exact Or.inr (Or.inl ⟨hT, h17.trans hK, r2, h1 (h17.trans hK), q1⟩)
    · rw [if_neg q1] at hU hK hT
      by_cases q2 : inR b l 48 57 (lxF b l un) = true
      · rw [if_pos q2] at hU hK hT
        have r1 := rwE_le (b := b) (lo := 48) (hi := 57) hfl.2
        have r2 := rwE_gt q2
        have r3 := rwE_all (b := b) (lo := 48) (hi := 57) _ (lxF b l un) rfl hfl.2
        rw [← hU] at r1 r2 r3
        refine ⟨r1.1, r1.2, ?_⟩
        cases g with
        | true => exact Or.inr (Or.inr (Or.inr (Or.inl ⟨hT, h17.trans hK, r2⟩)))
        | false =>
          by_cases q3 : lxU b l un - lxF b l un ≤ 4
          · have hK2 : kdT b l false un = 2 := by rw [hK]; simp [q3]
            have hT2 : lxT b l t un = -3 := by rw [hT]; simp [q3]
            exact Or.inr (Or.inr (Or.inl ⟨hT2, h17.trans hK2, r2, q3, h2 (h17.trans hK2), r3⟩))
          · have hK2 : kdT b l false un = 4 := by rw [hK]; simp [q3]
            have hT2 : lxT b l t un = -4 := by rw [hT]; simp [q3]
            exact Or.inr (Or.inr (Or.inr (Or.inl ⟨hT2, h17.trans hK2, r2⟩)))
      · rw [if_neg q2] at hU hK hT
        exact ⟨by omega, by omega, Or.inr (Or.inr (Or.inr (Or.inr ⟨h17.trans hK, h3 (h17.trans hK), hT, hU⟩)))⟩
  · have hF : lxF b l un = l := by omega
    have hU : lxU b l un = l := by unfold lxU; rw [if_neg hl]
    have hK : kdT b l g un = 0 := by unfold kdT; rw [if_neg hl]
    have hT : lxT b l t un = -1 := by unfold lxT; rw [if_neg hl]
    exact ⟨by omega, by omega, Or.inl ⟨hT, h17.trans hK, hF, hU⟩⟩
/-- steps in a row: how deep the pile is -/
def dpB (s : Nat → Int32) (β : Nat) : Nat → Nat
  | 0 => 0
  | k + 1 => if s (β + 2 * k) = 2 then (if s (β + 2 * k + 1) = 33 then dpB s β k else dpB s β k - 1) else dpB s β k + 1
def stB (s : Nat → Int32) (β : Nat) (key : Int32) (k : Nat) : Prop :=
  (s (β + 2 * k) = 0 ∧ ∃ n, s (β + 2 * k + 1) = nI n ∧ n < 10000) ∨ (s (β + 2 * k) = 1 ∧ nmOK key (s (β + 2 * k + 1))) ∨
  (s (β + 2 * k) = 2 ∧ ((s (β + 2 * k + 1) = 33 ∧ 1 ≤ dpB s β k) ∨ (¬ s (β + 2 * k + 1) = 33 ∧ 2 ≤ dpB s β k ∧ s (β + 2 * k + 1) ∈ ([38, 42, 43, 45, 47, 60, 61, 62, 124] : List Int32))))
theorem dpB_s (s : Nat → Int32) (β k : Nat) : dpB s β (k + 1) = if s (β + 2 * k) = 2 then (if s (β + 2 * k + 1) = 33 then dpB s β k else dpB s β k - 1) else dpB s β k + 1 := rfl
theorem dpB_cg {s u : Nat → Int32} {β : Nat} : ∀ {k : Nat}, (∀ j, β ≤ j → j < β + 2 * k → u j = s j) → dpB u β k = dpB s β k := by
  intro k
  induction k with
  | zero => intro _; rfl
  | succ k ih =>
    intro h
    rw [dpB_s, dpB_s, h _ (by omega) (by omega), h _ (by omega) (by omega), ih (fun j h1 h2 => h j h1 (by omega))]
theorem stB_cg {s u : Nat → Int32} {β k : Nat} {key : Int32} (h : ∀ j, β ≤ j → j < β + 2 * k + 2 → u j = s j) (hs : stB s β key k) : stB u β key k := by
  unfold stB at hs ⊢
  rw [h _ (by omega) (by omega), h _ (by omega) (by omega), dpB_cg (fun j h1 h2 => h j h1 (by omega))]
  exact hs
