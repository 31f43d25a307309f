/-! THE READER: tokens -/
def rdC (ad : Nat → Nat) (c : Nat → pE) (l t f u ft ky lv sc : Int32) (p : Nat → Int32) : Nat → pE := upC (upC c 402 (.inl (0, 96, .inl p))) 400 (.inr (1, rdF ad l t f u ft ky lv sc))
/-- the bytes that are told -/
def ByOK (c : Nat → pE) (b : Nat → Int32) (l : Nat) : Prop := l ≤ 96 ∧ ∃ g, c 401 = .inl (0, 96, .inl g) ∧ ∀ j, j < l → g j = b j
def inR (b : Nat → Int32) (l : Nat) (lo hi : Int32) (i : Nat) : Bool := decide (i < l ∧ lo ≤ b i ∧ b i ≤ hi)
def rwF (b : Nat → Int32) (l : Nat) (lo hi : Int32) : Nat → Nat → Nat
  | 0, i => i
  | f + 1, i => if inR b l lo hi i then rwF b l lo hi f (i + 1) else i
def rwE (b : Nat → Int32) (l : Nat) (lo hi : Int32) (i : Nat) : Nat := rwF b l lo hi (l - i) i
theorem rwF_s (b : Nat → Int32) (l : Nat) (lo hi : Int32) (f i : Nat) : rwF b l lo hi (f + 1) i = if inR b l lo hi i then rwF b l lo hi f (i + 1) else i := rfl
theorem inR_lt {b : Nat → Int32} {l : Nat} {lo hi : Int32} {i : Nat} (h : inR b l lo hi i = true) : i < l := (of_decide_eq_true h).1
theorem rwE_t {b : Nat → Int32} {l : Nat} {lo hi : Int32} {i : Nat} (h : inR b l lo hi i = true) : rwE b l lo hi i = rwE b l lo hi (i + 1) := by
  have := inR_lt h
  unfold rwE
  rw [show l - i = (l - (i + 1)) + 1 by omega, rwF_s, if_pos h]
theorem rwE_f {b : Nat → Int32} {l : Nat} {lo hi : Int32} {i : Nat} (h : ¬ inR b l lo hi i = true) : rwE b l lo hi i = i := by
  unfold rwE
  cases hd : l - i with
  | zero => rfl
  | succ n => rw [rwF_s, if_neg h]
theorem rwE_in {b : Nat → Int32} {l : Nat} {lo hi : Int32} : ∀ (d i : Nat), l - i = d → i ≤ l → i ≤ rwE b l lo hi i ∧ rwE b l lo hi i ≤ l := by
  intro d
  induction d with
  | zero =>
    intro i hd hle
    have : ¬ inR b l lo hi i = true := fun z => by have := inR_lt z; omega
    rw [rwE_f this]
    omega
  | succ d ih =>
    intro i hd hle
    by_cases h : inR b l lo hi i = true
    · rw [rwE_t h]
      have := ih (i + 1) (by omega) (by omega)
      omega
    · rw [rwE_f h]
      omega
theorem rwE_le {b : Nat → Int32} {l : Nat} {lo hi : Int32} {i : Nat} (hi2 : i ≤ l) : i ≤ rwE b l lo hi i ∧ rwE b l lo hi i ≤ l := rwE_in _ i rfl hi2
theorem rwE_gt {b : Nat → Int32} {l : Nat} {lo hi : Int32} {i : Nat} (h : inR b l lo hi i = true) : i < rwE b l lo hi i := by
  rw [rwE_t h]
  have := inR_lt h
  have := rwE_le (b := b) (l := l) (lo := lo) (hi := hi) (i := i + 1) (by omega)
  omega
section LX
variable {nT : Nat} {nd : Nat → Option Nat} {c : Nat → pE} {ad : Nat → Nat} {b p : Nat → Int32} {l : Nat} {t f u ft ky lv sc : Int32}
theorem rdg1 (hL : Lay nd ad (KC nT)) {l : Int32} : gI (MM nd (rdC ad c l t f u ft ky lv sc p)) (ad 400) 1 1 = some l := gI_MM hL K400 upC_s rfl
theorem rdg2 (hL : Lay nd ad (KC nT)) {l : Int32} : gI (MM nd (rdC ad c l t f u ft ky lv sc p)) (ad 400) 1 2 = some t := gI_MM hL K400 upC_s rfl
theorem rdg3 (hL : Lay nd ad (KC nT)) {l : Int32} : gI (MM nd (rdC ad c l t f u ft ky lv sc p)) (ad 400) 1 3 = some f := gI_MM hL K400 upC_s rfl
theorem rdg4 (hL : Lay nd ad (KC nT)) {l : Int32} : gI (MM nd (rdC ad c l t f u ft ky lv sc p)) (ad 400) 1 4 = some u := gI_MM hL K400 upC_s rfl
theorem rdg5 (hL : Lay nd ad (KC nT)) {l : Int32} : gI (MM nd (rdC ad c l t f u ft ky lv sc p)) (ad 400) 1 5 = some ft := gI_MM hL K400 upC_s rfl
theorem rdg6 (hL : Lay nd ad (KC nT)) {l : Int32} : gI (MM nd (rdC ad c l t f u ft ky lv sc p)) (ad 400) 1 6 = some ky := gI_MM hL K400 upC_s rfl
theorem rdg7 (hL : Lay nd ad (KC nT)) {l : Int32} : gI (MM nd (rdC ad c l t f u ft ky lv sc p)) (ad 400) 1 7 = some lv := gI_MM hL K400 upC_s rfl
theorem rdg9 (hL : Lay nd ad (KC nT)) {l : Int32} : gI (MM nd (rdC ad c l t f u ft ky lv sc p)) (ad 400) 1 9 = some sc := gI_MM hL K400 upC_s rfl
theorem rdr0 (hL : Lay nd ad (KC nT)) {l : Int32} : gR (MM nd (rdC ad c l t f u ft ky lv sc p)) (ad 400) 1 0 = some (ad 401) := gR_MM hL K400 upC_s rfl
theorem rdr8 (hL : Lay nd ad (KC nT)) {l : Int32} : gR (MM nd (rdC ad c l t f u ft ky lv sc p)) (ad 400) 1 8 = some (ad 402) := gR_MM hL K400 upC_s rfl
theorem rdv (hL : Lay nd ad (KC nT)) {l : Int32} {α : Type} {x : Option α} : cV (MM nd (rdC ad c l t f u ft ky lv sc p)) (ad 400) 1 x = x := cV_MM hL K400 upC_s
theorem rdp (hL : Lay nd ad (KC nT)) {l : Int32} {k : Nat} {v : Int32} {R : List Value} (hk : k < 10) (hR : (rdF ad l t f u ft ky lv sc).set k (.int v) = R) : pI (MM nd (rdC ad c l t f u ft ky lv sc p)) (ad 400) 1 k v = some (MM nd (upC (upC c 402 (.inl (0, 96, .inl p))) 400 (.inr (1, R)))) := by
  unfold rdC
  rw [pI_MM hL K400 upC_s (by simpa [rdF] using hk), upC_2, hR]
theorem rdp2 (hL : Lay nd ad (KC nT)) {l v : Int32} : pI (MM nd (rdC ad c l t f u ft ky lv sc p)) (ad 400) 1 2 v = some (MM nd (rdC ad c l v f u ft ky lv sc p)) := rdp hL (by decide) rfl
theorem rdp3 (hL : Lay nd ad (KC nT)) {l v : Int32} : pI (MM nd (rdC ad c l t f u ft ky lv sc p)) (ad 400) 1 3 v = some (MM nd (rdC ad c l t v u ft ky lv sc p)) := rdp hL (by decide) rfl
theorem rdp4 (hL : Lay nd ad (KC nT)) {l v : Int32} : pI (MM nd (rdC ad c l t f u ft ky lv sc p)) (ad 400) 1 4 v = some (MM nd (rdC ad c l t f v ft ky lv sc p)) := rdp hL (by decide) rfl
theorem rdp5 (hL : Lay nd ad (KC nT)) {l v : Int32} : pI (MM nd (rdC ad c l t f u ft ky lv sc p)) (ad 400) 1 5 v = some (MM nd (rdC ad c l t f u v ky lv sc p)) := rdp hL (by decide) rfl
theorem rdp6 (hL : Lay nd ad (KC nT)) {l v : Int32} : pI (MM nd (rdC ad c l t f u ft ky lv sc p)) (ad 400) 1 6 v = some (MM nd (rdC ad c l t f u ft v lv sc p)) := rdp hL (by decide) rfl
theorem rdp7 (hL : Lay nd ad (KC nT)) {l v : Int32} : pI (MM nd (rdC ad c l t f u ft ky lv sc p)) (ad 400) 1 7 v = some (MM nd (rdC ad c l t f u ft ky v sc p)) := rdp hL (by decide) rfl
theorem rdp9 (hL : Lay nd ad (KC nT)) {l v : Int32} : pI (MM nd (rdC ad c l t f u ft ky lv sc p)) (ad 400) 1 9 v = some (MM nd (rdC ad c l t f u ft ky lv v p)) := rdp hL (by decide) rfl
theorem rdb (hL : Lay nd ad (KC nT)) (hb : ByOK c b l) {i : Nat} (hi : i < l) {l' : Int32} : ldI (MM nd (rdC ad c l' t f u ft ky lv sc p)) (ad 401) (nI i) = some (b i) := by
  obtain ⟨h96, g, g1, g2⟩ := hb
  rw [← g2 i hi]
  exact ldI_MM hL K401 ((upC_n (by omega)).trans ((upC_n (by omega)).trans g1)) (by omega) (by omega)
theorem rds (hL : Lay nd ad (KC nT)) {i : Nat} (hi : i < 96) {v l : Int32} : stI (MM nd (rdC ad c l t f u ft ky lv sc p)) (ad 402) (nI i) v = some (MM nd (rdC ad c l t f u ft ky lv sc (upd p i v))) := by
  unfold rdC
  rw [stI_MM hL K402 ((upC_n (by omega)).trans upC_s) hi (by omega)]
  congr 2
  funext j
  by_cases e1 : j = 400
  · subst e1; rw [upC_n (by omega), upC_s, upC_s]
  · by_cases e2 : j = 402
    · subst e2; rw [upC_s, upC_n (by omega), upC_s]
    · rw [upC_n e2, upC_n e1, upC_n e2, upC_n e1, upC_n e2]
theorem C_isByte (hL : Lay nd ad (KC nT)) (hb : ByOK c b l) {i : Nat} (hi : i < 2 ^ 30) (lo hi2 : Int32) : fX1_isByte (ad 400) (nI i) lo hi2 (MM nd (rdC ad c (nI l) t f u ft ky lv sc p)) = some (inR b l lo hi2 i) := by
  have h96 := hb.1
  unfold fX1_isByte inR
  rw [if_neg (nI_pos (show i < 2 ^ 31 by omega))]
  simp only [rdg1 hL, Option.bind_some]
  by_cases h : i < l
  · rw [if_neg (nI_ge h (by omega))]
    simp only [rdr0 hL, rdb hL hb h, Option.bind_some]
    by_cases h1 : b i < lo
    · rw [if_pos h1]
      congr 1
      symm
      exact decide_eq_false (fun z => absurd z.2.1 (Int32.not_le.mpr h1))
    · rw [if_neg h1]
      by_cases h2 : hi2 < b i
      · rw [if_pos h2]
        congr 1
        symm
        exact decide_eq_false (fun z => absurd z.2.2 (Int32.not_le.mpr h2))
      · rw [if_neg h2]
        congr 1
        symm
        exact decide_eq_true ⟨h, Int32.not_lt.mp h1, Int32.not_lt.mp h2⟩
  · rw [if_pos (nI_le (by omega) (by omega))]
    congr 1
    symm
    exact decide_eq_false (fun z => h z.1)
theorem C_endOfRow (hL : Lay nd ad (KC nT)) (hb : ByOK c b l) {i : Nat} (hi : i ≤ l) (lo hi2 : Int32) : fX1_endOfRow (ad 400) lo hi2 (MM nd (rdC ad c (nI l) t (nI i) u ft ky lv sc p)) = some (nI (rwE b l lo hi2 i)) := by
  have h96 := hb.1
  obtain ⟨r, h1, h2⟩ := loop_gen (b := fX1_endOfRow_b0 (ad 400) lo hi2 (MM nd (rdC ad c (nI l) t (nI i) u ft ky lv sc p)))
    (fun k st => ∃ j, st = nI j ∧ j = i + k ∧ j ≤ l ∧ rwE b l lo hi2 j = rwE b l lo hi2 i) (fun r => r = nI (rwE b l lo hi2 i)) (l - i) (by
      rintro k st ⟨j, rfl, hj, hjl, he⟩ hk
      simp only [fX1_endOfRow_b0, rdg1 hL, rdv hL, C_isByte hL hb (show j < 2 ^ 30 by omega), Option.bind_some]
      by_cases hl : j < l
      · rw [if_neg (nI_ge hl (by omega))]
        by_cases hin : inR b l lo hi2 j = true
        · rw [if_pos hin]
          exact Or.inr ⟨by omega, _, rfl, j + 1, nI_1 j, by omega, by omega, by rw [← he, rwE_t hin]⟩
        · rw [if_neg hin]
          exact Or.inl ⟨_, rfl, by rw [← he, rwE_f hin]⟩
      · rw [if_pos (nI_le (by omega) (by omega))]
        refine Or.inl ⟨_, rfl, ?_⟩
        rw [← he, rwE_f (fun z => hl (inR_lt z))]) bigN 0 (nI i) ⟨i, rfl, rfl, hi, rfl⟩ (Nat.zero_le _) (by rw [bigN_eq]; omega)
  unfold fX1_endOfRow
  simp only [rdg3 hL, Option.bind_some]
  rw [h1, h2]
  rfl
theorem C_skip (hL : Lay nd ad (KC nT)) (hb : ByOK c b l) {i : Nat} (hi : i ≤ l) : loopF (fX1_advance_b0 (ad 400)) bigN (MM nd (rdC ad c (nI l) t (nI i) u ft ky lv sc p)) = some (MM nd (rdC ad c (nI l) t (nI (rwE b l 32 32 i)) u ft ky lv sc p)) := by
  have h96 := hb.1
  obtain ⟨r, h1, h2⟩ := loop_gen (b := fX1_advance_b0 (ad 400))
    (fun k st => ∃ j, st = MM nd (rdC ad c (nI l) t (nI j) u ft ky lv sc p) ∧ j = i + k ∧ j ≤ l ∧ rwE b l 32 32 j = rwE b l 32 32 i) (fun r => r = MM nd (rdC ad c (nI l) t (nI (rwE b l 32 32 i)) u ft ky lv sc p)) (l - i) (by
      rintro k st ⟨j, rfl, hj, hjl, he⟩ hk
      simp only [fX1_advance_b0, rdg1 hL, rdg3 hL, rdv hL, C_isByte hL hb (show j < 2 ^ 30 by omega), Option.bind_some]
      by_cases hl : j < l
      · rw [if_neg (nI_ge hl (by omega))]
        by_cases hin : inR b l 32 32 j = true
        · rw [if_pos hin, nI_1, rdp3 hL]
          exact Or.inr ⟨by omega, _, rfl, j + 1, rfl, by omega, by omega, by rw [← he, rwE_t hin]⟩
        · rw [if_neg hin]
          exact Or.inl ⟨_, rfl, by rw [← he, rwE_f hin]⟩
      · rw [if_pos (nI_le (by omega) (by omega))]
        refine Or.inl ⟨_, rfl, ?_⟩
        rw [← he, rwE_f (fun z => hl (inR_lt z))]) bigN 0 (MM nd (rdC ad c (nI l) t (nI i) u ft ky lv sc p)) ⟨i, rfl, rfl, hi, rfl⟩ (Nat.zero_le _) (by rw [bigN_eq]; omega)
  rw [h1, h2]
end LX
/-- the next token: what it is, where it begins, where it ends -/
def bwT (t : Int32) : Bool := decide (t = -2 ∨ t = -3)
def glT (b : Nat → Int32) (l : Nat) (t : Int32) (u : Nat) : Bool := bwT t && decide (rwE b l 32 32 u = u)
def lxF (b : Nat → Int32) (l : Nat) (u : Nat) : Nat := rwE b l 32 32 u
def lxU (b : Nat → Int32) (l : Nat) (u : Nat) : Nat :=
  if lxF b l u < l then (if inR b l 97 122 (lxF b l u) then rwE b l 97 122 (lxF b l u) else if inR b l 48 57 (lxF b l u) then rwE b l 48 57 (lxF b l u) else lxF b l u + 1) else l
def lxT (b : Nat → Int32) (l : Nat) (t : Int32) (u : Nat) : Int32 :=
  if lxF b l u < l then (if inR b l 97 122 (lxF b l u) then (if glT b l t u then -4 else -2) else if inR b l 48 57 (lxF b l u) then (if glT b l t u then -4 else if lxU b l u - lxF b l u ≤ 4 then -3 else -4) else b (lxF b l u)) else -1
section LY
variable {nT : Nat} {nd : Nat → Option Nat} {c : Nat → pE} {ad : Nat → Nat} {b p : Nat → Int32} {l : Nat} {t f u ft ky lv sc : Int32}
theorem C_advance (hL : Lay nd ad (KC nT)) (hb : ByOK c b l) {un : Nat} (hu : un ≤ l) : fX1_advance (ad 400) (MM nd (rdC ad c (nI l) t f (nI un) ft ky lv sc p)) = some (MM nd (rdC ad c (nI l) (lxT b l t un) (nI (lxF b l un)) (nI (lxU b l un)) ft ky lv sc p)) := by
  have h96 := hb.1
  have hfl := rwE_le (b := b) (lo := 32) (hi := 32) hu
  have hbw : (if t = -2 then some (1 : Int32) else if t = -3 then some 1 else some 0) = some (if bwT t = true then 1 else 0) := by
    unfold bwT
    by_cases h1 : t = -2
    · rw [if_pos h1]; simp [h1]
    · by_cases h2 : t = -3
      · rw [if_neg h1, if_pos h2]; simp [h2]
      · rw [if_neg h1, if_neg h2]; simp [h1, h2]
  unfold fX1_advance
  simp only [rdg2 hL, rdg4 hL, rdp3 hL, Option.bind_some, hbw, C_skip hL hb hu]
  have hgl : (if (if bwT t = true then (1 : Int32) else 0) = 0 then some (0 : Int32) else (gI (MM nd (rdC ad c (nI l) t (nI (rwE b l 32 32 un)) (nI un) ft ky lv sc p)) (ad 400) 1 3).bind fun x14 => if x14 = nI un then some (1 : Int32) else some 0) = some (if glT b l t un = true then 1 else 0) := by
    simp only [rdg3 hL, rdg4 hL, Option.bind_some]
    unfold glT
    cases hw : bwT t with
    | false => simp
    | true =>
      by_cases he : rwE b l 32 32 un = un
      · simp [he]
      · have : ¬ nI (rwE b l 32 32 un) = nI un := fun z => he ((nI_eq (by omega) (by omega)).mp z)
        simp [he, this]
  rw [hgl]
  simp only [rdg3 hL, rdg1 hL, Option.bind_some, rdv hL]
  unfold lxT lxU lxF
  by_cases hl : rwE b l 32 32 un < l
  · rw [if_pos hl, if_pos hl, if_pos (nI_lt hl (by omega))]
    simp only [C_isByte hL hb (show rwE b l 32 32 un < 2 ^ 30 by omega), Option.bind_some]
    have hg0 : ∀ g : Bool, ((if g = true then (1 : Int32) else 0) = 0) = (¬ g = true) := by intro g; cases g <;> simp
    by_cases h1 : inR b l 97 122 (rwE b l 32 32 un) = true
    · rw [if_pos h1, if_pos h1, if_pos h1]
      simp only [C_endOfRow hL hb hfl.2, rdp4 hL, Option.bind_some, ite_some, rdp2 hL, hg0]
      cases hg : glT b l t un <;> rfl
    · rw [if_neg h1, if_neg h1, if_neg h1]
      by_cases h2 : inR b l 48 57 (rwE b l 32 32 un) = true
      · have hr := rwE_le (b := b) (lo := 48) (hi := 57) hfl.2
        have hsub : nI (rwE b l 48 57 (rwE b l 32 32 un)) - nI (rwE b l 32 32 un) = nI (rwE b l 48 57 (rwE b l 32 32 un) - rwE b l 32 32 un) := pk_sub hr.1
        have h4 : (nI (rwE b l 48 57 (rwE b l 32 32 un) - rwE b l 32 32 un) ≤ 4) = (rwE b l 48 57 (rwE b l 32 32 un) - rwE b l 32 32 un ≤ 4) := propext (nI_leI (b := 4) (by omega) (by omega))
        rw [if_pos h2, if_pos h2]
        simp only [C_endOfRow hL hb hfl.2, rdp4 hL, Option.bind_some, rdg4 hL, rdg3 hL, hsub, ite_some, rdp2 hL, hg0, h4, if_pos h2]
        cases hg : glT b l t un <;> rfl
      · rw [if_neg h2, if_neg h2, if_neg h2]
        simp only [rdr0 hL, rdg3 hL, rdb hL hb hl, rdp2 hL, rdp4 hL, nI_1, Option.bind_some]
  · rw [if_neg hl, if_neg hl, if_neg (nI_nlt (by omega) (by omega))]
    simp only [rdp2 hL, rdg1 hL, rdp4 hL, Option.bind_some]
end LY
