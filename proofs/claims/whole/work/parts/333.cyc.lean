/-! sums round the ring -/
def sm (g : Nat → Nat) : Nat → Nat
  | 0 => 0
  | n + 1 => sm g n + g n
theorem sm_s (g : Nat → Nat) (n : Nat) : sm g (n + 1) = sm g n + g n := rfl
theorem sm_cg {f g : Nat → Nat} : ∀ {n : Nat}, (∀ i, i < n → f i = g i) → sm f n = sm g n := by
  intro n
  induction n with
  | zero => intro _; rfl
  | succ n ih => intro h; rw [sm_s, sm_s, ih (fun i hi => h i (by omega)), h n (by omega)]
theorem sm_sh (a : Nat → Nat) : ∀ n, sm (fun i => a (i + 1)) n + a 0 = sm a (n + 1) := by
  intro n
  induction n with
  | zero => simp [sm]
  | succ n ih => rw [sm_s, sm_s a (n + 1)]; omega
theorem sm_rv (a : Nat → Nat) : ∀ n, sm (fun i => a (n - i)) n = sm (fun j => a (j + 1)) n := by
  intro n
  induction n with
  | zero => rfl
  | succ n ih =>
    rw [sm_s (fun j => a (j + 1)) n, ← ih, ← sm_sh (fun i => a (n + 1 - i)) n]
    have : sm (fun i => a (n + 1 - (i + 1))) n = sm (fun i => a (n - i)) n := sm_cg (fun i _ => by rw [show n + 1 - (i + 1) = n - i by omega])
    simp only [Nat.sub_zero]
    omega
theorem sm_rot1 (g : Nat → Nat) (N c : Nat) : sm (fun i => g ((c + (i + 1)) % N)) N = sm (fun i => g ((c + i) % N)) N := by
  have h := sm_sh (fun i => g ((c + i) % N)) N
  rw [sm_s] at h
  have e : (c + N) % N = (c + 0) % N := by rw [Nat.add_mod_right, Nat.add_zero]
  rw [e] at h
  omega
theorem sm_rot (g : Nat → Nat) (N : Nat) : ∀ c, sm (fun i => g ((c + i) % N)) N = sm g N := by
  intro c
  induction c with
  | zero => exact sm_cg (fun i hi => by rw [Nat.zero_add, Nat.mod_eq_of_lt hi])
  | succ c ih =>
    have e : sm (fun i => g ((c + 1 + i) % N)) N = sm (fun i => g ((c + (i + 1)) % N)) N := sm_cg (fun i _ => by rw [show c + 1 + i = c + (i + 1) by omega])
    rw [e, sm_rot1, ih]
theorem sm_on (g : Nat → Nat) (s : Nat → Int32) (c : Nat) : sm (fun i => g (onS s c i)) (nt (s 0)) = sm g (nt (s 0)) := by
  unfold onS
  by_cases hw : s 5 = 1
  · simp only [if_pos hw]
    exact sm_rot g _ c
  · simp only [if_neg hw]
    have e : sm (fun i => g ((c + nt (s 0) - i % nt (s 0)) % nt (s 0))) (nt (s 0)) = sm (fun i => (fun j => g ((c + j) % nt (s 0))) (nt (s 0) - i)) (nt (s 0)) := sm_cg (fun i hi => by
      show g _ = g _
      rw [Nat.mod_eq_of_lt hi, show c + nt (s 0) - i = c + (nt (s 0) - i) by omega])
    rw [e]
    exact (sm_rv (fun j => g ((c + j) % nt (s 0))) (nt (s 0))).trans ((sm_rot1 g (nt (s 0)) c).trans (sm_rot g (nt (s 0)) c))
theorem mod_le2 {x N : Nat} (h : x < 2 * N) : x % N = if x < N then x else x - N := by
  split
  · next h1 => exact Nat.mod_eq_of_lt h1
  · next h1 => rw [Nat.mod_eq_sub_mod (by omega), Nat.mod_eq_of_lt (by omega)]
theorem onS_0 {s : Nat → Int32} {c : Nat} (hc : c < nt (s 0)) : onS s c 0 = c := by
  unfold onS
  split
  · rw [Nat.add_zero, Nat.mod_eq_of_lt hc]
  · rw [Nat.zero_mod, Nat.sub_zero, Nat.add_mod_right, Nat.mod_eq_of_lt hc]
theorem onS_on {s : Nat → Int32} {c i j : Nat} (hc : c < nt (s 0)) (hij : i + j ≤ nt (s 0)) : onS s (onS s c i) j = onS s c (i + j) := by
  unfold onS
  split
  · rw [Nat.mod_add_mod, Nat.add_assoc]
  · generalize nt (s 0) = N at *
    have h1 : ∀ k, k ≤ N → k % N = if k < N then k else k - N := fun k hk => mod_le2 (by omega)
    rw [h1 i (by omega), h1 j (by omega), h1 (i + j) hij]
    have hm : ∀ x, x < 2 * N → x % N = if x < N then x else x - N := fun x hx => mod_le2 hx
    rw [hm (c + N - if i < N then i else i - N) (by split <;> omega)]
    rw [hm ((if c + N - (if i < N then i else i - N) < N then c + N - (if i < N then i else i - N) else c + N - (if i < N then i else i - N) - N) + N - if j < N then j else j - N) (by split <;> split <;> split <;> omega)]
    rw [hm (c + N - if i + j < N then i + j else i + j - N) (by split <;> omega)]
    by_cases a1 : i < N <;> by_cases a2 : j < N <;> by_cases a3 : i + j < N <;> simp only [a1, a2, a3, if_true, if_false] <;> (repeat' split) <;> omega
/-- the next one, found at the k-th place -/
theorem nx_find {s : Nat → Int32} {c k : Nat} : ∀ (f i : Nat), i ≤ k → k < i + f → inS s (onS s c k) = true → (∀ j, i ≤ j → j < k → ¬ inS s (onS s c j) = true) → nxF s c f i = some (onS s c k) := by
  intro f
  induction f with
  | zero => intro i h1 h2; omega
  | succ f ih =>
    intro i h1 h2 h3 h4
    rw [nxF_s]
    by_cases e : i = k
    · subst e; rw [if_pos h3]
    · rw [if_neg (h4 i (Nat.le_refl _) (by omega))]
      exact ih (i + 1) (by omega) (by omega) h3 (fun j a b => h4 j (by omega) b)
theorem nextS_in {s : Nat → Int32} {c : Nat} (hc : c < nt (s 0)) (hin : inS s c = true) : ∃ d, nextS s c = some d := by
  unfold nextS
  have key : ∀ f i, nxF s c f i = none → ∀ j, i ≤ j → j < i + f → ¬ inS s (onS s c j) = true := by
    intro f
    induction f with
    | zero => intro i _ j h1 h2; omega
    | succ f ih =>
      intro i h j h1 h2
      rw [nxF_s] at h
      split at h
      · cases h
      · next hh =>
        by_cases e : j = i
        · subst e; exact hh
        · exact ih (i + 1) h j (by omega) (by omega)
  cases h : nxF s c (nt (s 0)) 1 with
  | some d => exact ⟨d, rfl⟩
  | none =>
    have := key _ _ h (nt (s 0)) (by omega) (by omega)
    have e : onS s c (nt (s 0)) = c := by
      unfold onS
      split
      · rw [Nat.add_mod_right, Nat.mod_eq_of_lt hc]
      · rw [Nat.mod_self, Nat.sub_zero, Nat.add_mod_right, Nat.mod_eq_of_lt hc]
    rw [e] at this
    exact absurd hin this
/-- the walk of LANDS ends within f steps -/
def stops (s : Nat → Int32) : Nat → Nat → Nat → Prop
  | 0, _, _ => False
  | f + 1, c, l => l < nt (hS s c) ∨ stops s f ((nextS s c).getD 0) (l - nt (hS s c))
theorem stops_mono {s : Nat → Int32} : ∀ {f g c l : Nat}, f ≤ g → stops s f c l → stops s g c l := by
  intro f
  induction f with
  | zero => intro g c l _ h; exact h.elim
  | succ f ih =>
    intro g c l hg h
    match g, hg with
    | g + 1, hg =>
      rcases h with h | h
      · exact Or.inl h
      · exact Or.inr (ih (by omega) h)
theorem landG_stops {s : Nat → Int32} : ∀ {f g c l : Nat}, f ≤ g → stops s f c l → landG s g c l = landG s f c l := by
  intro f
  induction f with
  | zero => intro g c l _ h; exact h.elim
  | succ f ih =>
    intro g c l hg h
    match g, hg with
    | g + 1, hg =>
      rw [landG_s, landG_s]
      split
      · rfl
      · next hh => exact ih (by omega) (h.resolve_left hh)
def GS (s : Nat → Int32) (c : Nat) : Nat := if inS s c then nt (hS s c) else 0
theorem rnd_sm {s : Nat → Int32} : ∀ n, rndF s n = sm (GS s) n := by
  intro n
  induction n with
  | zero => rfl
  | succ n ih => rw [rndF_s, sm_s, ih]; rfl
theorem least_in {p : Nat → Prop} : ∀ {n : Nat} {i : Nat}, p n → i ≤ n → ∃ k, i ≤ k ∧ k ≤ n ∧ p k ∧ ∀ j, i ≤ j → j < k → ¬ p j := by
  intro n i hn hi
  obtain ⟨k, ⟨h1, h2⟩, h3⟩ := pk_least (fun k => i ≤ k ∧ p k) ⟨n, hi, hn⟩
  refine ⟨k, h1, ?_, h2, fun j a b z => h3 j b ⟨a, z⟩⟩
  rcases Nat.lt_or_ge n k with h | h
  · exact absurd ⟨hi, hn⟩ (h3 n h)
  · exact h
theorem land_stop {s : Nat → Int32} {c0 l0 : Nat} (hc : c0 < nt (s 0)) (hl : l0 < rndS s) : ∀ (d i : Nat), nt (s 0) - i = d → i < nt (s 0) → inS s (onS s c0 i) = true → sm (fun j => GS s (onS s c0 j)) i ≤ l0 → stops s (nt (s 0) - i) (onS s c0 i) (l0 - sm (fun j => GS s (onS s c0 j)) i) := by
  intro d
  induction d using Nat.strongRecOn with
  | ind d ih =>
    intro i hd hi hin hle
    have e1 : nt (s 0) - i = (nt (s 0) - i - 1) + 1 := by omega
    rw [e1]
    by_cases hlt : l0 - sm (fun j => GS s (onS s c0 j)) i < nt (hS s (onS s c0 i))
    · exact Or.inl hlt
    · refine Or.inr ?_
      have hg : GS s (onS s c0 i) = nt (hS s (onS s c0 i)) := by unfold GS; rw [if_pos hin]
      have hs1 : sm (fun j => GS s (onS s c0 j)) (i + 1) ≤ l0 := by rw [sm_s]; simp only [hg]; omega
      -- some later place is in
      have hex : ∃ k, i < k ∧ k < nt (s 0) ∧ inS s (onS s c0 k) = true := by
        refine Classical.byContradiction fun hno => ?_
        have hz : ∀ n, i + 1 ≤ n → n ≤ nt (s 0) → sm (fun j => GS s (onS s c0 j)) n = sm (fun j => GS s (onS s c0 j)) (i + 1) := by
          intro n
          induction n with
          | zero => intro h; omega
          | succ n ihn =>
            intro h1 h2
            by_cases e : n = i
            · subst e; rfl
            · rw [sm_s, ihn (by omega) (by omega)]
              have : GS s (onS s c0 n) = 0 := by
                unfold GS
                rw [if_neg (fun z => hno ⟨n, by omega, by omega, z⟩)]
              simp only [this]; omega
        have := hz (nt (s 0)) (by omega) (Nat.le_refl _)
        rw [sm_on (GS s), ← rnd_sm] at this
        unfold rndS at hl
        omega
      obtain ⟨k0, hk1, hk2, hk3⟩ := hex
      obtain ⟨k, g1, g2, g3, g4⟩ := least_in (p := fun k => inS s (onS s c0 k) = true) (i := i + 1) hk3 (by omega)
      have hnext : nextS s (onS s c0 i) = some (onS s c0 k) := by
        have e2 : onS s (onS s c0 i) (k - i) = onS s c0 k := by rw [onS_on hc (by omega), show i + (k - i) = k by omega]
        rw [← e2]
        refine nx_find _ 1 (by omega) (by omega) (by rw [e2]; exact g3) (fun j a b => ?_)
        rw [onS_on hc (by omega)]
        exact g4 (i + j) (by omega) (by omega)
      have hsk : ∀ n, i + 1 ≤ n → n ≤ k → sm (fun j => GS s (onS s c0 j)) n = sm (fun j => GS s (onS s c0 j)) (i + 1) := by
        intro n
        induction n with
        | zero => intro h; omega
        | succ n ihn =>
          intro h1 h2
          by_cases e : n = i
          · subst e; rfl
          · rw [sm_s, ihn (by omega) (by omega)]
            have : GS s (onS s c0 n) = 0 := by
              unfold GS
              rw [if_neg (g4 n (by omega) (by omega))]
            simp only [this]; omega
      have hk := hsk k (by omega) (Nat.le_refl _)
      rw [hnext]
      have e3 : l0 - sm (fun j => GS s (onS s c0 j)) i - nt (hS s (onS s c0 i)) = l0 - sm (fun j => GS s (onS s c0 j)) k := by
        rw [hk, sm_s]; simp only [hg]; omega
      rw [e3]
      exact stops_mono (by omega) (ih (nt (s 0) - k) (by omega) k rfl (by omega) g3 (by omega))
theorem land_ok {s : Nat → Int32} {c l : Nat} (hc : c < nt (s 0)) (hin : inS s c = true) (hl : l < rndS s) : stops s (nt (s 0)) c l := by
  have h := land_stop hc hl (nt (s 0)) 0 rfl (by omega) (by rw [onS_0 hc]; exact hin) (Nat.zero_le _)
  rw [onS_0 hc] at h
  exact h
