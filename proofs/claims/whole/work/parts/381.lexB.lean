theorem rwE_all {b : Nat → Int32} {l : Nat} {lo hi : Int32} : ∀ (d i : Nat), l - i = d → i ≤ l → ∀ j, i ≤ j → j < rwE b l lo hi i → inR b l lo hi j = true := by
  intro d
  induction d with
  | zero =>
    intro i hd hle j h1 h2
    have : ¬ inR b l lo hi i = true := fun z => by have := inR_lt z; omega
    rw [rwE_f this] at h2
    omega
  | succ d ih =>
    intro i hd hle j h1 h2
    by_cases h : inR b l lo hi i = true
    · by_cases e : j = i
      · subst e; exact h
      · rw [rwE_t h] at h2
        exact ih (i + 1) (by omega) (by omega) j (by omega) h2
    · rw [rwE_f h] at h2
      omega
/-- a number's digits -/
def dgF (b : Nat → Int32) (fr : Nat) : Nat → Int32
  | 0 => 0
  | k + 1 => dgF b fr k * 10 + b (fr + k) - 48
theorem dgF_s (b : Nat → Int32) (fr k : Nat) : dgF b fr (k + 1) = dgF b fr k * 10 + b (fr + k) - 48 := rfl
theorem dgF_in {b : Nat → Int32} {l fr : Nat} : ∀ {k : Nat}, k ≤ 4 → (∀ j, fr ≤ j → j < fr + k → inR b l 48 57 j = true) → ∃ w, dgF b fr k = nI w ∧ w < 10 ^ k := by
  intro k
  induction k with
  | zero => intro _ _; exact ⟨0, rfl, by decide⟩
  | succ k ih =>
    intro hk h
    obtain ⟨w, w1, w2⟩ := ih (by omega) (fun j h1 h2 => h j h1 (by omega))
    have hd := of_decide_eq_true (h (fr + k) (by omega) (by omega))
    obtain ⟨q, q1, q2, q3⟩ := bt (a := 48) (b := 57) hd.2 (by omega) (by omega)
    have h10 : (10 : Nat) ^ k ≤ 1000 := by
      rcases (show k = 0 ∨ k = 1 ∨ k = 2 ∨ k = 3 by omega) with e | e | e | e <;> subst e <;> decide
    rw [dgF_s, w1, q1, show nI w * 10 = nI (w * 10) from pk_mul w 10, nI_add, show nI (w * 10 + q) - 48 = nI (w * 10 + q - 48) from pk_sub (b := 48) (by omega)]
    refine ⟨_, rfl, ?_⟩
    rw [Nat.pow_succ]
    omega
/-- what the reference calls the next token -/
def kdT (b : Nat → Int32) (l : Nat) (g : Bool) (u : Nat) : Int32 :=
  if lxF b l u < l then (if inR b l 97 122 (lxF b l u) then (if g then 4 else 1) else if inR b l 48 57 (lxF b l u) then (if g then 4 else if lxU b l u - lxF b l u ≤ 4 then 2 else 4) else 3) else 0
section LZ
variable {nd : Nat → Option Nat} {ad : Nat → Nat} {fi : Nat → Int32} {fa : Nat → Nat → Int32} {b : Nat → Int32} {l : Nat}
def ByR (fi : Nat → Int32) (fa : Nat → Nat → Int32) (b : Nat → Int32) (l : Nat) : Prop := l ≤ 96 ∧ fi 14 = nI l ∧ ∀ j, j < l → fa 13 j = b j
theorem upd_2 {f : Nat → Int32} {k : Nat} {x y : Int32} : upd (upd f k x) k y = upd f k y := by funext j; by_cases h : j = k <;> simp [upd, h]
theorem R_isLetter (hL : Lay nd ad KR) (hb : ByR fi fa b l) {i : Nat} (hi : i < 2 ^ 30) : fX8_isLetter (ad 31) (nI i) (MR nd ad fi fa) = some (inR b l 97 122 i) := by
  obtain ⟨h96, h14, hj⟩ := hb
  unfold fX8_isLetter inR
  simp only [rg14 hL, h14, Option.bind_some]
  by_cases h : i < l
  · rw [if_neg (nI_ge h (by omega))]
    simp only [rg13 hL, rl13 hL (show i < 96 by omega), hj i h, Option.bind_some, isIn_t k64_97 k64_122]
    by_cases h2 : 97 ≤ b i ∧ b i ≤ 122
    · rw [if_pos (decide_eq_true h2)]; simp [h, h2.1, h2.2]
    · rw [if_neg (fun z => h2 (of_decide_eq_true z))]
      congr 1
      symm
      exact decide_eq_false (fun z => h2 z.2)
  · rw [if_pos (nI_le (by omega) (by omega))]
    congr 1
    symm
    exact decide_eq_false (fun z => h z.1)
theorem R_isDigit (hL : Lay nd ad KR) (hb : ByR fi fa b l) {i : Nat} (hi : i < 2 ^ 30) : fX8_isDigit (ad 31) (nI i) (MR nd ad fi fa) = some (inR b l 48 57 i) := by
  obtain ⟨h96, h14, hj⟩ := hb
  unfold fX8_isDigit inR
  simp only [rg14 hL, h14, Option.bind_some]
  by_cases h : i < l
  · rw [if_neg (nI_ge h (by omega))]
    simp only [rg13 hL, rl13 hL (show i < 96 by omega), hj i h, Option.bind_some, isIn_t k64_48 k64_57]
    by_cases h2 : 48 ≤ b i ∧ b i ≤ 57
    · rw [if_pos (decide_eq_true h2)]; simp [h, h2.1, h2.2]
    · rw [if_neg (fun z => h2 (of_decide_eq_true z))]
      congr 1
      symm
      exact decide_eq_false (fun z => h2 z.2)
  · rw [if_pos (nI_le (by omega) (by omega))]
    congr 1
    symm
    exact decide_eq_false (fun z => h z.1)
theorem ByR.u (hb : ByR fi fa b l) {k : Nat} {v : Int32} (hk : k ≠ 14) : ByR (upd fi k v) fa b l := ⟨hb.1, by rw [upd_n (fun z => hk z.symm)]; exact hb.2.1, hb.2.2⟩
theorem R_skip (hL : Lay nd ad KR) (hb : ByR fi fa b l) {i : Nat} (hi : i ≤ l) (h16 : fi 16 = nI i) : loopF (fX8_nextToken_b0 (ad 31)) bigN (MR nd ad fi fa) = some (MR nd ad (upd fi 16 (nI (rwE b l 32 32 i))) fa) := by
  have h96 := hb.1
  obtain ⟨r, h1, h2⟩ := loop_gen (b := fX8_nextToken_b0 (ad 31))
    (fun k st => ∃ j, st = MR nd ad (upd fi 16 (nI j)) fa ∧ j = i + k ∧ j ≤ l ∧ rwE b l 32 32 j = rwE b l 32 32 i) (fun r => r = MR nd ad (upd fi 16 (nI (rwE b l 32 32 i))) fa) (l - i) (by
      rintro k st ⟨j, rfl, hj, hjl, he⟩ hk
      have h14 : upd fi 16 (nI j) 14 = nI l := by rw [upd_n (by decide)]; exact hb.2.1
      simp only [fX8_nextToken_b0, rg16 hL, rg14 hL, upd_s, h14, Option.bind_some]
      by_cases hl : j < l
      · rw [if_neg (nI_ge hl (by omega))]
        simp only [rg13 hL, rl13 hL (show j < 96 by omega), hb.2.2 j hl, Option.bind_some]
        by_cases h32 : b j = 32
        · have hin : inR b l 32 32 j = true := decide_eq_true ⟨hl, by rw [h32]; decide, by rw [h32]; decide⟩
          rw [if_pos h32, nI_1, rpu16 hL, upd_2]
          exact Or.inr ⟨by omega, _, rfl, j + 1, rfl, by omega, by omega, by rw [← he, rwE_t hin]⟩
        · have hin : ¬ inR b l 32 32 j = true := fun z => h32 (by
            have := of_decide_eq_true z
            exact Int32.le_antisymm this.2.2 this.2.1)
          rw [if_neg h32]
          exact Or.inl ⟨_, rfl, by rw [← he, rwE_f hin]⟩
      · rw [if_pos (nI_le (by omega) (by omega))]
        refine Or.inl ⟨_, rfl, ?_⟩
        rw [← he, rwE_f (fun z => hl (inR_lt z))]) bigN 0 (MR nd ad fi fa) ⟨i, by rw [← h16, upd_id], rfl, hi, rfl⟩ (Nat.zero_le _) (by rw [bigN_eq]; omega)
  rw [h1, h2]
theorem R_letters (hL : Lay nd ad KR) (hb : ByR fi fa b l) {i : Nat} (hi : i ≤ l) (h16 : fi 16 = nI i) : loopF (fX8_nextToken_b2 (ad 31)) bigN (MR nd ad fi fa) = some (MR nd ad (upd fi 16 (nI (rwE b l 97 122 i))) fa) := by
  have h96 := hb.1
  obtain ⟨r, h1, h2⟩ := loop_gen (b := fX8_nextToken_b2 (ad 31))
    (fun k st => ∃ j, st = MR nd ad (upd fi 16 (nI j)) fa ∧ j = i + k ∧ j ≤ l ∧ rwE b l 97 122 j = rwE b l 97 122 i) (fun r => r = MR nd ad (upd fi 16 (nI (rwE b l 97 122 i))) fa) (l - i) (by
      rintro k st ⟨j, rfl, hj, hjl, he⟩ hk
      have hb2 : ByR (upd fi 16 (nI j)) fa b l := hb.u (by decide)
      simp only [fX8_nextToken_b2, rg16 hL, upd_s, rcv hL, R_isLetter hL hb2 (show j < 2 ^ 30 by omega), Option.bind_some]
      by_cases hin : inR b l 97 122 j = true
      · have := inR_lt hin
        rw [if_pos hin, nI_1, rpu16 hL, upd_2]
        exact Or.inr ⟨by omega, _, rfl, j + 1, rfl, by omega, by omega, by rw [← he, rwE_t hin]⟩
      · rw [if_neg hin]
        exact Or.inl ⟨_, rfl, by rw [← he, rwE_f hin]⟩) bigN 0 (MR nd ad fi fa) ⟨i, by rw [← h16, upd_id], rfl, hi, rfl⟩ (Nat.zero_le _) (by rw [bigN_eq]; omega)
  rw [h1, h2]
theorem R_digits (hL : Lay nd ad KR) (hb : ByR fi fa b l) {i : Nat} (hi : i ≤ l) (h16 : fi 16 = nI i) (h15 : fi 15 = nI i) (h18 : fi 18 = 0) : ∃ v, loopF (fX8_nextToken_b1 (ad 31)) bigN (MR nd ad fi fa) = some (MR nd ad (upd (upd fi 18 v) 16 (nI (rwE b l 48 57 i))) fa) ∧ (rwE b l 48 57 i - i ≤ 4 → v = dgF b i (rwE b l 48 57 i - i)) := by
  have h96 := hb.1
  obtain ⟨r, h1, v, h2, h3⟩ := loop_gen (b := fX8_nextToken_b1 (ad 31))
    (fun k st => ∃ j v, st = MR nd ad (upd (upd fi 18 v) 16 (nI j)) fa ∧ j = i + k ∧ j ≤ l ∧ rwE b l 48 57 j = rwE b l 48 57 i ∧ (k ≤ 4 → v = dgF b i k)) (fun r => ∃ v, r = MR nd ad (upd (upd fi 18 v) 16 (nI (rwE b l 48 57 i))) fa ∧ (rwE b l 48 57 i - i ≤ 4 → v = dgF b i (rwE b l 48 57 i - i))) (l - i) (by
      rintro k st ⟨j, v, rfl, hj, hjl, he, hv⟩ hk
      have hb2 : ByR (upd (upd fi 18 v) 16 (nI j)) fa b l := (hb.u (by decide)).u (by decide)
      have e18 : upd (upd fi 18 v) 16 (nI j) 18 = v := by rw [upd_n (by decide), upd_s]
      have e15 : upd (upd fi 18 v) 16 (nI j) 15 = nI i := by rw [upd_n (by decide), upd_n (by decide)]; exact h15
      simp only [fX8_nextToken_b1, rg16 hL, upd_s, rcv hL, R_isDigit hL hb2 (show j < 2 ^ 30 by omega), Option.bind_some]
      by_cases hin : inR b l 48 57 j = true
      · have hjl2 := inR_lt hin
        rw [if_pos hin]
        have hs : nI j - nI i = nI k := by rw [pk_sub (by omega)]; congr 1; omega
        simp only [rg15 hL, e15, hs, rg18 hL, e18, rg13 hL, rl13 hL (show j < 96 by omega), hb.2.2 j hjl2, Option.bind_some]
        have hset : ∀ y, upd (upd (upd (upd fi 18 v) 16 (nI j)) 18 y) 16 (nI (j + 1)) = upd (upd fi 18 y) 16 (nI (j + 1)) := by
          intro y
          funext q
          by_cases q1 : q = 16
          · subst q1; rw [upd_s, upd_s]
          · rw [upd_n q1, upd_n q1]
            by_cases q2 : q = 18
            · subst q2; rw [upd_s, upd_s]
            · rw [upd_n q2, upd_n q1, upd_n q2, upd_n q2]
        have e16 : ∀ y, upd (upd (upd fi 18 v) 16 (nI j)) 18 y 16 = nI j := fun y => by rw [upd_n (by decide), upd_s]
        by_cases h4 : 4 ≤ k
        · rw [if_pos (show (4 : Int32) ≤ nI k from nI_le (a := 4) h4 (by omega))]
          simp only [Option.bind_some, rpu18 hL, rg16 hL, e16, nI_1, rpu16 hL, hset]
          exact Or.inr ⟨by omega, _, rfl, j + 1, v, rfl, by omega, by omega, by rw [← he, rwE_t hin], fun z => by omega⟩
        · rw [if_neg (show ¬ (4 : Int32) ≤ nI k from nI_ge (b := 4) (by omega) (by omega))]
          simp only [Option.bind_some, rpu18 hL, rg16 hL, e16, nI_1, rpu16 hL, hset]
          refine Or.inr ⟨by omega, _, rfl, j + 1, _, rfl, by omega, by omega, by rw [← he, rwE_t hin], fun z => ?_⟩
          rw [dgF_s, hv (by omega), Int32.mul_comm, hj]
      · rw [if_neg hin]
        have hej : rwE b l 48 57 i = j := by rw [← he, rwE_f hin]
        refine Or.inl ⟨_, rfl, v, by rw [hej], fun z => ?_⟩
        rw [hej] at z ⊢
        rw [hv (by omega)]
        congr 1
        omega) bigN 0 (MR nd ad fi fa) ⟨i, 0, by
          have : upd (upd fi 18 0) 16 (nI i) = fi := by
            rw [← h18, upd_id, ← h16, upd_id]
          rw [this], rfl, hi, rfl, fun _ => rfl⟩ (Nat.zero_le _) (by rw [bigN_eq]; omega)
  rw [h1, h2]
  exact ⟨v, rfl, h3⟩
theorem R_nextToken (hL : Lay nd ad KR) (hb : ByR fi fa b l) {un : Nat} (hu : un ≤ l) (h16 : fi 16 = nI un) {g : Bool} (hg : g = (decide (0 < un ∧ (fi 17 = 1 ∨ fi 17 = 2)) && decide (lxF b l un = un))) :
    ∃ fj, fX8_nextToken (ad 31) (MR nd ad fi fa) = some (MR nd ad fj fa) ∧ (∀ k, ¬ (15 ≤ k ∧ k ≤ 19) → fj k = fi k) ∧ fj 15 = nI (lxF b l un) ∧ fj 16 = nI (lxU b l un) ∧ fj 17 = kdT b l g un ∧ (fj 17 = 1 → fj 19 = if lxU b l un - lxF b l un = 1 then b (lxF b l un) else 0) ∧ (fj 17 = 2 → fj 18 = dgF b (lxF b l un) (lxU b l un - lxF b l un)) ∧ (fj 17 = 3 → fj 19 = b (lxF b l un)) := by
  have h96 := hb.1
  have hfl : un ≤ lxF b l un ∧ lxF b l un ≤ l := rwE_le (b := b) (lo := 32) (hi := 32) hu
  have hy : (if nI un ≤ 0 then some (0 : Int32) else if fi 17 = 1 then some 1 else if fi 17 = 2 then some 1 else some 0) = some (if decide (0 < un ∧ (fi 17 = 1 ∨ fi 17 = 2)) = true then 1 else 0) := by
    rcases Nat.eq_zero_or_pos un with e | e
    · subst e; simp [nI_0]
    · rw [if_neg (nI_nle e (by omega))]
      by_cases q1 : fi 17 = 1
      · rw [if_pos q1]; simp [e, q1]
      · rw [if_neg q1]
        by_cases q2 : fi 17 = 2
        · rw [if_pos q2]; simp [e, q2]
        · rw [if_neg q2]; simp [q1, q2]
  unfold fX8_nextToken
  simp only [rg16 hL, rg17 hL, h16, Option.bind_some]
  rw [hy]
  simp only [Option.bind_some]
  rw [R_skip hL hb hu h16]
  simp only [Option.bind_some]
  have hy2 : (if (if decide (0 < un ∧ (fi 17 = 1 ∨ fi 17 = 2)) = true then (1 : Int32) else 0) = 0 then some (0 : Int32) else (gI (MR nd ad (upd fi 16 (nI (rwE b l 32 32 un))) fa) (ad 31) 8 16).bind fun x15 => if nI un = x15 then some (1 : Int32) else some 0) = some (if g = true then 1 else 0) := by
    simp only [rg16 hL, upd_s, Option.bind_some]
    rw [hg]
    unfold lxF
    cases hw : decide (0 < un ∧ (fi 17 = 1 ∨ fi 17 = 2)) with
    | false => simp
    | true =>
      by_cases he : rwE b l 32 32 un = un
      · simp [he]
      · have : ¬ nI un = nI (rwE b l 32 32 un) := fun z => he (by
          have := (nI_eq (by omega) (by unfold lxF at hfl; omega)).mp z
          exact this.symm)
        simp [he, this]
  rw [hy2]
  simp only [Option.bind_some, rg16 hL, upd_s, rpu15 hL, rg15 hL, rg14 hL, rcv hL]
  have e0 : ∀ v, rwE b l 32 32 v = lxF b l v := fun _ => rfl
  simp only [e0]
  generalize hfi2 : upd (upd fi 16 (nI (lxF b l un))) 15 (nI (lxF b l un)) = f2
  have q15 : f2 15 = nI (lxF b l un) := by rw [← hfi2, upd_s]
  have q16 : f2 16 = nI (lxF b l un) := by rw [← hfi2, upd_n (by decide), upd_s]
  have q14 : f2 14 = nI l := by rw [← hfi2, upd_n (by decide), upd_n (by decide)]; exact hb.2.1
  have qn : ∀ k, k ≠ 15 → k ≠ 16 → f2 k = fi k := fun k h1 h2 => by rw [← hfi2, upd_n h1, upd_n h2]
  have hb2 : ByR f2 fa b l := ⟨hb.1, q14, hb.2.2⟩
  have hg0 : ∀ g : Bool, ((if g = true then (1 : Int32) else 0) = 0) = (¬ g = true) := by intro g; cases g <;> simp
  rw [q14]
  by_cases hl : lxF b l un < l
  · have hU : lxU b l un = if inR b l 97 122 (lxF b l un) then rwE b l 97 122 (lxF b l un) else if inR b l 48 57 (lxF b l un) then rwE b l 48 57 (lxF b l un) else lxF b l un + 1 := by
      unfold lxU; rw [if_pos hl]
    have hK : kdT b l g un = if inR b l 97 122 (lxF b l un) then (if g then 4 else 1) else if inR b l 48 57 (lxF b l un) then (if g then 4 else if lxU b l un - lxF b l un ≤ 4 then 2 else 4) else 3 := by
      unfold kdT; rw [if_pos hl]
    rw [if_neg (fun z => absurd ((nI_eq (by omega) (by omega)).mp z) (by omega))]
    rw [R_isLetter hL hb2 (by omega)]
    simp only [Option.bind_some]
    by_cases h1 : inR b l 97 122 (lxF b l un) = true
    · rw [if_pos h1] at hU hK
      have hr := rwE_le (b := b) (lo := 97) (hi := 122) (i := lxF b l un) hfl.2
      rw [← hU] at hr
      rw [if_pos h1, R_letters hL hb2 hfl.2 q16, ← hU]
      simp only [Option.bind_some, ite_some, hg0, rpu17 hL, rg16 hL, rg15 hL, rg13 hL]
      have e16 : ∀ v, upd (upd f2 16 (nI (lxU b l un))) 17 v 16 = nI (lxU b l un) := fun v => by rw [upd_n (by decide), upd_s]
      have e15 : ∀ v, upd (upd f2 16 (nI (lxU b l un))) 17 v 15 = nI (lxF b l un) := fun v => by rw [upd_n (by decide), upd_n (by decide)]; exact q15
      simp only [e16, e15, rl13 hL (show lxF b l un < 96 by omega), hb.2.2 _ hl, Option.bind_some, ite_some, rpu19 hL]
      refine ⟨_, rfl, fun k hk => ?_, ?_, ?_, ?_, ?_, ?_, ?_⟩
      · rw [upd_n (by omega), upd_n (by omega), upd_n (by omega)]; exact qn k (by omega) (by omega)
      · rw [upd_n (by decide)]; exact e15 _
      · rw [upd_n (by decide)]; exact e16 _
      · rw [upd_n (by decide), upd_s, hK]
        cases g <;> rfl
      · intro _
        rw [upd_s, show nI (lxU b l un) - nI (lxF b l un) = nI (lxU b l un - lxF b l un) from pk_sub hr.1]
        by_cases hz : lxU b l un - lxF b l un = 1
        · rw [if_pos (by rw [hz]; rfl), if_pos hz]
        · rw [if_neg (show ¬ nI (lxU b l un - lxF b l un) = 1 from fun z => hz ((nI_eq (b := 1) (by omega) (by omega)).mp z)), if_neg hz]
      · rw [upd_n (by decide), upd_s]
        cases g <;> exact fun z => absurd z (by decide)
      · rw [upd_n (by decide), upd_s]
        cases g <;> exact fun z => absurd z (by decide)
    · rw [if_neg h1] at hU hK
      rw [if_neg h1, R_isDigit hL hb2 (by omega)]
      simp only [Option.bind_some]
      by_cases h2 : inR b l 48 57 (lxF b l un) = true
      · rw [if_pos h2] at hU hK
        have hr := rwE_le (b := b) (lo := 48) (hi := 57) (i := lxF b l un) hfl.2
        rw [← hU] at hr
        rw [if_pos h2, rpu18 hL]
        simp only [Option.bind_some]
        obtain ⟨v, d1, d2⟩ := R_digits (fi := upd f2 18 0) hL (hb2.u (by decide)) hfl.2 (by rw [upd_n (by decide)]; exact q16) (by rw [upd_n (by decide)]; exact q15) upd_s
        rw [← hU] at d1 d2
        rw [upd_2] at d1
        rw [d1]
        have e16 : upd (upd f2 18 v) 16 (nI (lxU b l un)) 16 = nI (lxU b l un) := upd_s
        have e15 : upd (upd f2 18 v) 16 (nI (lxU b l un)) 15 = nI (lxF b l un) := by rw [upd_n (by decide), upd_n (by decide)]; exact q15
        have h4 : (nI (lxU b l un - lxF b l un) ≤ 4) = (lxU b l un - lxF b l un ≤ 4) := propext (nI_leI (b := 4) (by omega) (by omega))
        simp only [Option.bind_some, ite_some, hg0, rg16 hL, rg15 hL, e16, e15, show nI (lxU b l un) - nI (lxF b l un) = nI (lxU b l un - lxF b l un) from pk_sub hr.1, h4, rpu17 hL]
        refine ⟨_, rfl, fun k hk => ?_, ?_, ?_, ?_, ?_, ?_, ?_⟩
        · rw [upd_n (by omega), upd_n (by omega), upd_n (by omega)]; exact qn k (by omega) (by omega)
        · rw [upd_n (by decide)]; exact e15
        · rw [upd_n (by decide)]; exact e16
        · rw [upd_s, hK]
          cases g <;> rfl
        · rw [upd_s]
          intro z
          exfalso
          revert z
          cases g <;> simp <;> split <;> decide
        · rw [upd_s]
          intro z
          rw [upd_n (by decide), upd_n (by decide), upd_s]
          refine d2 ?_
          revert z
          cases g
          · simp
          · simp
        · rw [upd_s]
          intro z
          exfalso
          revert z
          cases g <;> simp <;> split <;> decide
      · rw [if_neg h2] at hU hK
        rw [if_neg h2, rpu17 hL]
        simp only [Option.bind_some, rg13 hL, rg15 hL]
        have e15 : upd f2 17 3 15 = nI (lxF b l un) := by rw [upd_n (by decide)]; exact q15
        have e16 : ∀ v, upd (upd f2 17 3) 19 v 16 = nI (lxF b l un) := fun v => by rw [upd_n (by decide), upd_n (by decide)]; exact q16
        simp only [e15, rl13 hL (show lxF b l un < 96 by omega), hb.2.2 _ hl, Option.bind_some, rpu19 hL, rg16 hL, e16, nI_1, rpu16 hL]
        refine ⟨_, rfl, fun k hk => ?_, ?_, ?_, ?_, ?_, ?_, ?_⟩
        · rw [upd_n (by omega), upd_n (by omega), upd_n (by omega)]; exact qn k (by omega) (by omega)
        · rw [upd_n (by decide), upd_n (by decide)]; exact e15
        · rw [upd_s, hU]
        · rw [upd_n (by decide), upd_n (by decide), upd_s, hK]
        · rw [upd_n (by decide), upd_n (by decide), upd_s]; exact fun z => absurd z (by decide)
        · rw [upd_n (by decide), upd_n (by decide), upd_s]; exact fun z => absurd z (by decide)
        · intro _
          rw [upd_n (by decide), upd_s]
  · have hF : lxF b l un = l := by omega
    have hU : lxU b l un = l := by unfold lxU; rw [if_neg hl]
    have hK : kdT b l g un = 0 := by unfold kdT; rw [if_neg hl]
    rw [if_pos (by rw [hF]), rpu17 hL]
    refine ⟨_, rfl, fun k hk => ?_, ?_, ?_, ?_, ?_, ?_, ?_⟩
    · rw [upd_n (by omega)]; exact qn k (by omega) (by omega)
    · rw [upd_n (by decide)]; exact q15
    · rw [upd_n (by decide), q16, hF, hU]
    · rw [upd_s, hK]
    · rw [upd_s]; exact fun z => absurd z (by decide)
    · rw [upd_s]; exact fun z => absurd z (by decide)
    · rw [upd_s]; exact fun z => absurd z (by decide)
end LZ
