/-! PURE: memory in canonical form (cells by their node numbers), loops, numbers -/
def MM (nd : Nat → Option Nat) (c : Nat → pE) : Mem := fun q => (nd q).map c
def upC (c : Nat → pE) (k : Nat) (e : pE) : Nat → pE := fun j => if j = k then e else c j
def Lay (nd : Nat → Option Nat) (ad : Nat → Nat) (K : Nat → Prop) : Prop := (∀ k, K k → nd (ad k) = some k) ∧ ∀ q k, nd q = some k → K k ∧ ad k = q
theorem upC_s {c : Nat → pE} {k : Nat} {e : pE} : upC c k e k = e := by simp [upC]
theorem upC_n {c : Nat → pE} {k j : Nat} {e : pE} (h : ¬ j = k) : upC c k e j = c j := by simp [upC, h]
section CM
variable {nd : Nat → Option Nat} {ad : Nat → Nat} {K : Nat → Prop} {c : Nat → pE} {k : Nat}
theorem MM_at (h : Lay nd ad K) (hk : K k) : MM nd c (ad k) = some (c k) := by simp [MM, h.1 k hk]
theorem MM_up (h : Lay nd ad K) (hk : K k) (e : pE) : mup (MM nd c) (ad k) e = MM nd (upC c k e) := by
  funext q
  by_cases hq : q = ad k
  · subst hq
    rw [mup_s, MM_at h hk, upC_s]
  · rw [mup_n hq]
    unfold MM
    cases hn : nd q with
    | none => rfl
    | some j =>
      have hj : ¬ j = k := fun z => hq (by rw [← z]; exact (h.2 q j hn).2.symm)
      simp [upC_n hj]
theorem gI_MM (h : Lay nd ad K) (hk : K k) {ci f : Nat} {fs : List Value} {v : Int32} (hc : c k = .inr (ci, fs)) (hv : fs[f]? = some (.int v)) : gI (MM nd c) (ad k) ci f = some v := by
  unfold gI
  rw [MM_at h hk, hc]
  simp [hv]
theorem gR_MM (h : Lay nd ad K) (hk : K k) {ci f : Nat} {fs : List Value} {v : Nat} (hc : c k = .inr (ci, fs)) (hv : fs[f]? = some (.ref v)) : gR (MM nd c) (ad k) ci f = some v := by
  unfold gR
  rw [MM_at h hk, hc]
  simp [hv]
theorem pI_MM (h : Lay nd ad K) (hk : K k) {ci f : Nat} {fs : List Value} {v : Int32} (hc : c k = .inr (ci, fs)) (hf : f < fs.length) : pI (MM nd c) (ad k) ci f v = some (MM nd (upC c k (.inr (ci, fs.set f (.int v))))) := by
  unfold pI
  rw [MM_at h hk, hc]
  simp [hf, MM_up h hk]
theorem ldI_MM (h : Lay nd ad K) (hk : K k) {n j : Nat} {g : Nat → Int32} (hc : c k = .inl (0, n, .inl g)) (hj : j < n) (hn : n < 2 ^ 31) : ldI (MM nd c) (ad k) (nI j) = some (g j) := by
  unfold ldI
  rw [MM_at h hk, hc]
  simp [nI_clamp (show j < 2 ^ 31 by omega), nI_pos (show j < 2 ^ 31 by omega), hj]
theorem stI_MM (h : Lay nd ad K) (hk : K k) {n j : Nat} {g : Nat → Int32} {v : Int32} (hc : c k = .inl (0, n, .inl g)) (hj : j < n) (hn : n < 2 ^ 31) : stI (MM nd c) (ad k) (nI j) v = some (MM nd (upC c k (.inl (0, n, .inl (upd g j v))))) := by
  unfold stI
  rw [MM_at h hk, hc]
  simp [nI_clamp (show j < 2 ^ 31 by omega), nI_pos (show j < 2 ^ 31 by omega), hj, MM_up h hk]
theorem ldR_MM (h : Lay nd ad K) (hk : K k) {n j t a : Nat} {g : Nat → Option Nat} (hc : c k = .inl (t, n, .inr (.inr (.inr (.inr g))))) (hj : j < n) (hn : n < 2 ^ 31) (ha : g j = some a) : ldR (MM nd c) (ad k) t (nI j) = some a := by
  unfold ldR
  rw [MM_at h hk, hc]
  simp [nI_clamp (show j < 2 ^ 31 by omega), nI_pos (show j < 2 ^ 31 by omega), hj, ha]
theorem stR_MM (h : Lay nd ad K) (hk : K k) {n j t ci k2 : Nat} {g : Nat → Option Nat} {fs : List Value} (hc : c k = .inl (t, n, .inr (.inr (.inr (.inr g))))) (hk2 : K k2) (hc2 : c k2 = .inr (ci, fs)) (hj : j < n) (hn : n < 2 ^ 31) : stR (MM nd c) (ad k) t ci (nI j) (ad k2) = some (MM nd (upC c k (.inl (t, n, .inr (.inr (.inr (.inr (va_up g j (some (ad k2)))))))))) := by
  unfold stR
  rw [MM_at h hk, hc, MM_at h hk2, hc2]
  simp [nI_clamp (show j < 2 ^ 31 by omega), nI_pos (show j < 2 ^ 31 by omega), hj, MM_up h hk]
theorem alI_MM (h : Lay nd ad K) (hk : K k) {n : Nat} {g : Nat → Int32} (hc : c k = .inl (0, n, .inl g)) : alI (MM nd c) (ad k) = some (nI n) := by
  unfold alI
  rw [MM_at h hk, hc]
  simp [nI]
theorem cV_MM (h : Lay nd ad K) (hk : K k) {α : Type} {ci : Nat} {fs : List Value} {x : Option α} (hc : c k = .inr (ci, fs)) : cV (MM nd c) (ad k) ci x = x := by
  unfold cV
  rw [MM_at h hk, hc]
  simp
theorem cpI_MM (h : Lay nd ad K) (hk : K k) {k2 n0 n1 sp dp n : Nat} {f g : Nat → Int32} (hc : c k = .inl (0, n0, .inl f)) (hk2 : K k2) (hc2 : c k2 = .inl (0, n1, .inl g)) (h0 : n0 < 2 ^ 31) (h1 : n1 < 2 ^ 31) (h2 : sp + n ≤ n0) (h3 : dp + n ≤ n1) : cpI (MM nd c) (ad k) (nI sp) (ad k2) (nI dp) (nI n) = some (MM nd (upC c k2 (.inl (0, n1, .inl (va_cpy f g sp dp n))))) := by
  unfold cpI
  rw [MM_at h hk, hc, MM_at h hk2, hc2]
  simp [nI_clamp (show sp < 2 ^ 31 by omega), nI_clamp (show dp < 2 ^ 31 by omega), nI_clamp (show n < 2 ^ 31 by omega), nI_pos (show sp < 2 ^ 31 by omega), nI_pos (show dp < 2 ^ 31 by omega), nI_pos (show n < 2 ^ 31 by omega), h2, h3, MM_up h hk2]
end CM
/-! loops -/
theorem bigN_eq : bigN = 5000 := rfl
theorem loop_gen {S R : Type} {b : S → Option (S ⊕ R)} (I : Nat → S → Prop) (Q : R → Prop) (e : Nat) (h : ∀ i s, I i s → i ≤ e → (∃ r, b s = some (.inr r) ∧ Q r) ∨ (i < e ∧ ∃ s1, b s = some (.inl s1) ∧ I (i + 1) s1)) : ∀ (n i : Nat) (s : S), I i s → i ≤ e → e - i < n → ∃ r, loopF b n s = some r ∧ Q r := by
  intro n
  induction n with
  | zero => intro i s _ _ hn; omega
  | succ n ih =>
    intro i s hI hi hn
    rcases h i s hI hi with ⟨r, h1, h2⟩ | ⟨h0, s1, h1, h2⟩
    · exact ⟨r, by unfold loopF; rw [h1], h2⟩
    · obtain ⟨r, h3, h4⟩ := ih (i + 1) s1 h2 (by omega) (by omega)
      exact ⟨r, by unfold loopF; rw [h1]; exact h3, h4⟩
/-- a loop of e rounds -/
theorem loop_rel {S R : Type} {b : S → Option (S ⊕ R)} (I : Nat → S → Prop) (Q : R → Prop) (e : Nat) (he : e < 5000) {s : S} (h0 : I 0 s) (hs : ∀ i s, i < e → I i s → ∃ s1, b s = some (.inl s1) ∧ I (i + 1) s1) (hx : ∀ s, I e s → ∃ r, b s = some (.inr r) ∧ Q r) : ∃ r, loopF b bigN s = some r ∧ Q r := by
  refine loop_gen I Q e (fun i s hI hi => ?_) bigN 0 s h0 (Nat.zero_le _) (by rw [bigN_eq]; omega)
  by_cases h : i < e
  · exact Or.inr ⟨h, hs i s h hI⟩
  · have : i = e := by omega
    subst this
    exact Or.inl (hx s hI)
/-- a loop whose states are told outright -/
theorem loop_for {S R : Type} {b : S → Option (S ⊕ R)} (St : Nat → S) (e : Nat) (r : R) (he : e < 5000) (hs : ∀ i, i < e → b (St i) = some (.inl (St (i + 1)))) (hx : b (St e) = some (.inr r)) : loopF b bigN (St 0) = some r := by
  obtain ⟨r1, h1, h2⟩ := loop_rel (fun i s => s = St i) (fun x => x = r) e he (s := St 0) rfl (fun i s hi hI => ⟨St (i + 1), by rw [hI]; exact hs i hi, rfl⟩) (fun s hI => ⟨r, by rw [hI]; exact hx, rfl⟩)
  rw [h1, h2]
/-- a loop that ends in a round k that is known -/
theorem loop_at {S R : Type} {b : S → Option (S ⊕ R)} (St : Nat → S) (k : Nat) (r : R) (he : k < 5000) (hs : ∀ i, i < k → b (St i) = some (.inl (St (i + 1)))) (hx : b (St k) = some (.inr r)) : loopF b bigN (St 0) = some r := loop_for St k r he hs hx
/-! numbers -/
theorem lit32 (n : Nat) : (OfNat.ofNat n : Int32) = nI (OfNat.ofNat n) := rfl
theorem ite_some {α : Type} {c : Prop} {dc : Decidable c} {a b : α} : (if c then some a else some b) = some (if c then a else b) := by split <;> rfl
abbrev nt (x : Int32) : Nat := x.toNatClampNeg
theorem nt_nI {n : Nat} (h : n < 2 ^ 31) : nt (nI n) = n := nI_clamp h
theorem i64_le (x y : Int32) : x.toInt64 ≤ y.toInt64 ↔ x ≤ y := by
  rw [Int64.le_iff_toInt_le, Int32.le_iff_toInt_le, Int32.toInt_toInt64, Int32.toInt_toInt64]
theorem i64_lt (x y : Int32) : x.toInt64 < y.toInt64 ↔ x < y := by
  rw [Int64.lt_iff_toInt_lt, Int32.lt_iff_toInt_lt, Int32.toInt_toInt64, Int32.toInt_toInt64]
/-- the reference's isIn, on ints -/
theorem isIn_32 (x y z : Int32) (m : Mem) : fX8_isIn x.toInt64 y.toInt64 z.toInt64 m = some (decide (y ≤ x ∧ x ≤ z)) := by
  unfold fX8_isIn
  by_cases h1 : y ≤ x
  · have g1 : ¬ lg_cmp x.toInt64 y.toInt64 < 0 := by
      rw [Int32.not_lt, lg_cmp_ge, i64_le]; exact h1
    rw [if_neg g1]
    by_cases h2 : x ≤ z
    · have g2 : ¬ 0 < lg_cmp x.toInt64 z.toInt64 := by
        rw [Int32.not_lt, lg_cmp_le, i64_le]; exact h2
      rw [if_neg g2]
      simp [h1, h2]
    · have g2 : 0 < lg_cmp x.toInt64 z.toInt64 := by
        rw [← Int32.not_le, lg_cmp_le, i64_le]; exact h2
      rw [if_pos g2]
      simp [h2]
  · have g1 : lg_cmp x.toInt64 y.toInt64 < 0 := by
      rw [← Int32.not_le, lg_cmp_ge, i64_le]; exact h1
    rw [if_pos g1]
    simp [h1]
