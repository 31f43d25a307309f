theorem div_m1 (x : Int32) : x / (-1) = -x := by
  apply Int32.toInt_inj.mp
  rw [Int32.toInt_div, show (-1 : Int32).toInt = -1 by decide, Int.tdiv_neg, Int.tdiv_one, Int32.toInt_neg]
theorem R_joined (v x y : Int32) (m : Mem) : fX8_joined v x y m = some (jnS v x y) := by
  unfold fX8_joined jnS
  split
  · split
    · rfl
    · split <;> rfl
  · split
    · rfl
    · split
      · rfl
      · split
        · rfl
        · split
          · split
            · rfl
            · next h0 =>
              split
              · next h1 => rw [h1, div_m1]
              · unfold dvI; rw [if_neg h0]; rfl
          · split
            · by_cases h : x < y
              · rw [if_neg (Int32.not_le.mpr h), if_pos h]
              · rw [if_pos (Int32.not_lt.mp h), if_neg h]
            · split
              · split <;> rfl
              · split
                · by_cases h : y < x
                  · rw [if_neg (Int32.not_le.mpr h), if_pos h]
                  · rw [if_pos (Int32.not_lt.mp h), if_neg h]
                · split
                  · split <;> rfl
                  · rfl
theorem dpS_le {s : Nat → Int32} {t : Nat} : ∀ k, dpS s t k ≤ k := by
  intro k
  induction k with
  | zero => exact Nat.le_refl 0
  | succ k ih => rw [dpS_s]; split; · split <;> omega
                 · omega
theorem evN_s {s : Nat → Int32} {t : Nat} {nm : Int32 → Int32} (k : Nat) : evN s t nm (k + 1) = (if whS s t k = 2 then
      (if vlS s t k = 33 then upd (evN s t nm k) (dpS s t k - 1) (if evN s t nm k (dpS s t k - 1) = 0 then 1 else 0)
       else upd (evN s t nm k) (dpS s t k - 2) (jnS (vlS s t k) (evN s t nm k (dpS s t k - 2)) (evN s t nm k (dpS s t k - 1))))
    else upd (evN s t nm k) (dpS s t k) (if whS s t k = 0 then vlS s t k else nm (vlS s t k))) := rfl
theorem upd_s {f : Nat → Int32} {k : Nat} {x : Int32} : upd f k x k = x := by simp [upd]
theorem upd_n {f : Nat → Int32} {k j : Nat} {x : Int32} (h : ¬ j = k) : upd f k x j = f j := by simp [upd, h]
theorem upd_agree {p q : Nat → Int32} {n j : Nat} {x : Int32} (h : ∀ i, i < n → p i = q i) : ∀ i, i < n → upd p j x i = upd q j x i := by
  intro i hi
  by_cases e : i = j
  · subst e; rw [upd_s, upd_s]
  · rw [upd_n e, upd_n e]; exact h i hi
theorem nm_idx {key v : Int32} (hk : key = 0 ∨ key = 1 ∨ key = 2) (h : nmOK key v) : ∃ j, v = nI j ∧ j < 128 := by
  rcases hk with rfl | rfl | rfl
  · rcases h.1 rfl with rfl | rfl | rfl
    · exact ⟨104, rfl, by decide⟩
    · exact ⟨97, rfl, by decide⟩
    · exact ⟨102, rfl, by decide⟩
  · rcases h.2.1 rfl with rfl | rfl | rfl
    · exact ⟨115, rfl, by decide⟩
    · exact ⟨112, rfl, by decide⟩
    · exact ⟨116, rfl, by decide⟩
  · rcases h.2.2 rfl with rfl | rfl
    · exact ⟨97, rfl, by decide⟩
    · exact ⟨112, rfl, by decide⟩
section RB
variable {nd : Nat → Option Nat} {ad : Nat → Nat} {fi : Nat → Int32} {fa : Nat → Nat → Int32}
theorem R_worked (hL : Lay nd ad KR) {t : Nat} (ht : t < 14) (hx : TxOK (fa 0) t) (nm : Int32 → Int32) (hnm : ∀ v, nmOK (fa 0 (92 + 200 * t)) v → fa 25 (nt v) = nm v) : ∃ p, fX8_worked (ad 31) (nI t) (MR nd ad fi fa) = some (evN (fa 0) t nm (cnS (fa 0) t) 0, MR nd ad fi (upF fa 26 p)) := by
  obtain ⟨hkey, ⟨n, h1, h2⟩, hst, hend⟩ := hx
  have hcn : cnS (fa 0) t = n := by unfold cnS; rw [h1]; exact nt_nI (by omega)
  rw [hcn] at hst hend ⊢
  obtain ⟨m1, h3, p, h4, h5⟩ := loop_rel (b := fX8_worked_b0 (ad 31) (nI t)) (s := ((0 : Int32), (0 : Int32), MR nd ad fi fa))
    (fun k st => ∃ p, st = (nI (dpS (fa 0) t k), nI k, MR nd ad fi (upF fa 26 p)) ∧ ∀ i, i < dpS (fa 0) t k → p i = evN (fa 0) t nm k i)
    (fun m => ∃ p, m = MR nd ad fi (upF fa 26 p) ∧ ∀ i, i < dpS (fa 0) t n → p i = evN (fa 0) t nm n i) n (by omega) ⟨fa 26, by rw [upF_id]; rfl, fun i hi => by cases hi⟩ (by
      rintro k st hk ⟨p, rfl, hp⟩
      have hd := dpS_le (s := fa 0) (t := t) k
      have g0 : ¬ nI n ≤ nI k := nI_ge hk (by omega)
      have e0 : upF fa 26 p 0 = fa 0 := upF_n (by decide)
      have e25 : upF fa 26 p 25 = fa 25 := upF_n (by decide)
      have e26 : upF fa 26 p 26 = p := upF_s
      have i2 : (92 + 200 * t) + 2 = 94 + 200 * t := by omega
      have i4 : (92 + 200 * t) + 4 + 2 * k = 96 + 200 * t + 2 * k := by omega
      have i5 : 96 + 200 * t + 2 * k + 1 = 97 + 200 * t + 2 * k := by omega
      simp only [fX8_worked_b0, fX8_textAt, rg0 hL, rg25 hL, rg26 hL, rcv hL, Option.bind_some, ix92, ixp2, ixp4, ix2m, nI_add, ixp1, i2, i4, i5]
      rw [rl0 hL (by omega), rl0 hL (by omega), rl0 hL (by omega)]
      simp only [Option.bind_some, e0, h1, if_neg g0]
      rw [evN_s, dpS_s]
      rcases hst k hk with ⟨w, v, hv, hv2⟩ | ⟨w, hv⟩ | ⟨w, hv⟩
      · have w2 : ¬ whS (fa 0) t k = 2 := by rw [w]; decide
        rw [if_neg w2, if_pos w, if_neg w2, if_neg w2, if_pos w]
        simp only [Option.bind_some]
        rw [rs26 hL (by omega), upF_2, e26]
        refine ⟨_, rfl, upd p (dpS (fa 0) t k) (vlS (fa 0) t k), rfl, ?_⟩
        intro i hi
        by_cases e : i = dpS (fa 0) t k
        · subst e; rw [upd_s, upd_s]
        · rw [upd_n e, upd_n e]; exact hp i (by omega)
      · have w2 : ¬ whS (fa 0) t k = 2 := by rw [w]; decide
        have w0 : ¬ whS (fa 0) t k = 0 := by rw [w]; decide
        obtain ⟨j, hj1, hj2⟩ := nm_idx hkey hv
        have hvv := hnm _ hv
        rw [if_neg w2, if_neg w0, if_neg w2, if_neg w2, if_neg w0]
        have ev : fa 0 (97 + 200 * t + 2 * k) = nI j := hj1
        rw [ev, rl25 hL hj2, e25]
        simp only [Option.bind_some]
        rw [rs26 hL (by omega), upF_2, e26]
        have hvj : fa 25 j = nm (vlS (fa 0) t k) := by rw [← hvv, hj1, nt_nI (by omega)]
        refine ⟨_, rfl, upd p (dpS (fa 0) t k) (fa 25 j), rfl, ?_⟩
        intro i hi
        by_cases e : i = dpS (fa 0) t k
        · subst e; rw [upd_s, upd_s, hvj]
        · rw [upd_n e, upd_n e]; exact hp i (by omega)
      · rw [if_pos w, if_pos w, if_pos w]
        rcases hv with ⟨v33, hd1⟩ | ⟨v33, hd2, -⟩
        · rw [if_pos v33, if_pos v33, if_pos v33]
          have es : nI (dpS (fa 0) t k) - 1 = nI (dpS (fa 0) t k - 1) := pk_sub hd1
          rw [es, rl26 hL (by omega), e26]
          simp only [Option.bind_some, ite_some]
          rw [rs26 hL (by omega), upF_2, e26, hp _ (by omega)]
          exact ⟨_, rfl, _, rfl, upd_agree hp⟩
        · rw [if_neg v33, if_neg v33, if_neg v33]
          have es : nI (dpS (fa 0) t k) + (-1) = nI (dpS (fa 0) t k - 1) := sb_m1 (by omega)
          have es2 : nI (dpS (fa 0) t k - 1) - 1 = nI (dpS (fa 0) t k - 2) := pk_sub (b := 1) (by omega)
          rw [es, es2, rl26 hL (by omega), rl26 hL (by omega), e26]
          simp only [Option.bind_some, R_joined]
          rw [rs26 hL (by omega), upF_2, e26, hp _ (by omega), hp _ (by omega)]
          exact ⟨_, rfl, _, rfl, fun i hi => upd_agree hp i (by omega)⟩)
    (by
      rintro st ⟨p, rfl, hp⟩
      have i2 : (92 + 200 * t) + 2 = 94 + 200 * t := by omega
      have e0 : upF fa 26 p 0 = fa 0 := upF_n (by decide)
      simp only [fX8_worked_b0, fX8_textAt, rg0 hL, rcv hL, Option.bind_some, ix92, ixp2, i2]
      rw [rl0 hL (by omega), e0, h1]
      simp only [Option.bind_some]
      rw [if_pos (nI_le (Nat.le_refl _) (by omega))]
      exact ⟨_, rfl, p, rfl, hp⟩)
  refine ⟨p, ?_⟩
  unfold fX8_worked
  rw [h3, h4]
  simp only [Option.bind_some, rg26 hL]
  rw [show (0 : Int32) = nI 0 from rfl, rl26 hL (by omega), upF_s, h5 0 (by omega)]
  rfl
end RB
