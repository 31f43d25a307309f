section CH
variable {nT B : Nat} {nd : Nat → Option Nat} {c : Nat → pE} {ad tx : Nat → Nat} {s : Nat → Int32}
/-- only texts' stacks have changed -/
def ScT (c e : Nat → pE) : Prop := ScC c e ∧ ∀ k, k < 1000 → e k = c k
theorem ScT.rf {c : Nat → pE} : ScT c c := ⟨ScC.rf, fun _ _ => rfl⟩
theorem neg_neg32 (v : Int32) : -(-v) = v := Int32.neg_neg
/-- a text's value -/
theorem C_value (hL : Lay nd ad (KC nT)) {x t : Nat} (hx : x < nT) (hT : TextOK c ad x s t) (hX : TxOK s t) (a b d : Int32) : ∃ e, fX6_value (ad (1000 + 3 * x)) a b d (MM nd c) = some (evS s t a b d, MM nd e) ∧ ScT c e := by
  obtain ⟨hkey, ⟨n, h1, h2⟩, hst, hend⟩ := hX
  have hcn : cnS s t = n := by unfold cnS; rw [h1]; exact nt_nI (by omega)
  obtain ⟨t0, ⟨g, t1, tg⟩, p0, t2⟩ := hT
  rw [hcn] at hst hend t1 tg t2
  have k0 : KC nT (1000 + 3 * x) := KC_tx (i := 0) hx (by decide)
  have k1 : KC nT (1000 + 3 * x + 1) := KC_tx hx (by decide)
  have k2 : KC nT (1000 + 3 * x + 2) := KC_tx hx (by decide)
  have hsc : isScr (1000 + 3 * x + 2) := by unfold isScr; omega
  -- the memory with another stack
  have M : ∀ p : Nat → Int32, (gR (MM nd (upC c (1000 + 3 * x + 2) (.inl (0, n, .inl p)))) (ad (1000 + 3 * x)) 6 2 = some (ad (1000 + 3 * x + 1))) ∧ (gR (MM nd (upC c (1000 + 3 * x + 2) (.inl (0, n, .inl p)))) (ad (1000 + 3 * x)) 6 3 = some (ad (1000 + 3 * x + 2))) ∧ (alI (MM nd (upC c (1000 + 3 * x + 2) (.inl (0, n, .inl p)))) (ad (1000 + 3 * x + 1)) = some (nI n)) ∧ (∀ k, k < n → ldI (MM nd (upC c (1000 + 3 * x + 2) (.inl (0, n, .inl p)))) (ad (1000 + 3 * x + 1)) (nI k) = some (g k)) ∧ (∀ k, k < n → ldI (MM nd (upC c (1000 + 3 * x + 2) (.inl (0, n, .inl p)))) (ad (1000 + 3 * x + 2)) (nI k) = some (p k)) ∧ (∀ k v, k < n → stI (MM nd (upC c (1000 + 3 * x + 2) (.inl (0, n, .inl p)))) (ad (1000 + 3 * x + 2)) (nI k) v = some (MM nd (upC c (1000 + 3 * x + 2) (.inl (0, n, .inl (upd p k v)))))) ∧ (alI (MM nd (upC c (1000 + 3 * x + 2) (.inl (0, n, .inl p)))) (ad (1000 + 3 * x + 2)) = some (nI n)) := by
    intro p
    have q0 : upC c (1000 + 3 * x + 2) (.inl (0, n, .inl p)) (1000 + 3 * x) = _ := (upC_n (by omega)).trans t0
    have q1 : upC c (1000 + 3 * x + 2) (.inl (0, n, .inl p)) (1000 + 3 * x + 1) = _ := (upC_n (by omega)).trans t1
    refine ⟨gR_MM hL k0 q0 rfl, gR_MM hL k0 q0 rfl, alI_MM hL k1 q1, fun k hk => ldI_MM hL k1 q1 hk (by omega), fun k hk => ldI_MM hL k2 upC_s hk (by omega), fun k v hk => ?_, alI_MM hL k2 upC_s⟩
    rw [stI_MM hL k2 upC_s hk (by omega)]
    congr 2
    funext j
    by_cases e : j = 1000 + 3 * x + 2
    · subst e; rw [upC_s, upC_s]
    · rw [upC_n e, upC_n e, upC_n e]
  have hstart : MM nd c = MM nd (upC c (1000 + 3 * x + 2) (.inl (0, n, .inl p0))) := by
    congr 1
    funext j
    by_cases e : j = 1000 + 3 * x + 2
    · subst e; rw [upC_s, t2]
    · rw [upC_n e]
  obtain ⟨r, h3, p, h4, h5⟩ := loop_rel (b := fX6_value_b0 (ad (1000 + 3 * x)) a b d) (s := ((-1 : Int32), (0 : Int32), MM nd c))
    (fun k st => ∃ p, st = (nI (dpS s t k) - 1, nI k, MM nd (upC c (1000 + 3 * x + 2) (.inl (0, n, .inl p)))) ∧ ∀ i, i < dpS s t k → p i = evN s t (nmS (s (92 + 200 * t)) a b d) k i)
    (fun r => ∃ p, r = (nI (dpS s t n) - 1, MM nd (upC c (1000 + 3 * x + 2) (.inl (0, n, .inl p)))) ∧ ∀ i, i < dpS s t n → p i = evN s t (nmS (s (92 + 200 * t)) a b d) n i) n (by omega) ⟨p0, by rw [hstart]; rfl, fun i hi => by cases hi⟩ (by
      rintro k st hk ⟨p, rfl, hp⟩
      obtain ⟨m1, m2, m3, m4, m5, m6, m7⟩ := M p
      have hd := dpS_le (s := s) (t := t) k
      have g0 : ¬ nI n ≤ nI k := nI_ge hk (by omega)
      simp only [fX6_value_b0, m1, m2, m3, m7, m4 k hk, Option.bind_some, if_neg g0, ixp1]
      rw [evN_s, dpS_s, tg k hk]
      have hup : nI (dpS s t k) - 1 + 1 = nI (dpS s t k) := by rw [Int32.sub_add_cancel]
      have hroom : ¬ nI n ≤ nI (dpS s t k) := nI_ge (by omega) (by omega)
      rcases hst k hk with ⟨w, v, hv, hv2⟩ | ⟨w, hv⟩ | ⟨w, hv⟩
      · have w2 : ¬ whS s t k = 2 := by rw [w]; decide
        have he : encS (s (92 + 200 * t)) (whS s t k) (vlS s t k) = nI v := by unfold encS; rw [if_pos w, hv]
        rw [he, if_neg (nI_pos (show v < 2 ^ 31 by omega)), hup, if_neg hroom, if_neg (show ¬ (10000 : Int32) ≤ nI v from nI_ge (b := 10000) hv2 (by omega))]
        simp only [Option.bind_some]
        rw [m6 _ _ (by omega)]
        simp only [Option.bind_some]
        rw [if_neg w2, if_neg w2, if_pos w]
        refine ⟨_, rfl, upd p (dpS s t k) (nI v), ?_, ?_⟩
        · rw [show nI (dpS s t k + 1) - 1 = nI (dpS s t k) from nI_pred _]
        · intro i hi
          by_cases e : i = dpS s t k
          · subst e; rw [upd_s, upd_s, hv]
          · rw [upd_n e, upd_n e]; exact hp i (by omega)
      · have w2 : ¬ whS s t k = 2 := by rw [w]; decide
        have w0 : ¬ whS s t k = 0 := by rw [w]; decide
        have he : encS (s (92 + 200 * t)) (whS s t k) (vlS s t k) = 10000 + nmIx (s (92 + 200 * t)) (vlS s t k) := by unfold encS; rw [if_neg w0, if_pos w]
        have hval : ¬ (10000 + nmIx (s (92 + 200 * t)) (vlS s t k) < 0) ∧ (10000 : Int32) ≤ 10000 + nmIx (s (92 + 200 * t)) (vlS s t k) ∧ (if 10000 + nmIx (s (92 + 200 * t)) (vlS s t k) = 10000 then some a else if 10000 + nmIx (s (92 + 200 * t)) (vlS s t k) = 10001 then some b else some d) = some (nmS (s (92 + 200 * t)) a b d (vlS s t k)) := by
          rcases hkey with hk0 | hk0 | hk0
          · rw [hk0] at hv ⊢
            rcases hv.1 rfl with hv | hv | hv <;> rw [hv] <;> exact ⟨by decide, by decide, rfl⟩
          · rw [hk0] at hv ⊢
            rcases hv.2.1 rfl with hv | hv | hv <;> rw [hv] <;> exact ⟨by decide, by decide, rfl⟩
          · rw [hk0] at hv ⊢
            rcases hv.2.2 rfl with hv | hv <;> rw [hv] <;> exact ⟨by decide, by decide, rfl⟩
        rw [he, if_neg hval.1, hup, if_neg hroom, if_pos hval.2.1, hval.2.2]
        simp only [Option.bind_some]
        rw [m6 _ _ (by omega), if_neg w2, if_neg w2, if_neg w0]
        simp only [Option.bind_some]
        refine ⟨_, rfl, upd p (dpS s t k) (nmS (s (92 + 200 * t)) a b d (vlS s t k)), ?_, ?_⟩
        · rw [show nI (dpS s t k + 1) - 1 = nI (dpS s t k) from nI_pred _]
        · intro i hi
          by_cases e : i = dpS s t k
          · subst e; rw [upd_s, upd_s]
          · rw [upd_n e, upd_n e]; exact hp i (by omega)
      · have w0 : ¬ whS s t k = 0 := by rw [w]; decide
        have w1 : ¬ whS s t k = 1 := by rw [w]; decide
        have he : encS (s (92 + 200 * t)) (whS s t k) (vlS s t k) = -(vlS s t k) := by unfold encS; rw [if_neg w0, if_neg w1]
        rw [he, if_pos w, if_pos w]
        rcases hv with ⟨v33, hd1⟩ | ⟨v33, hd2, hvm⟩
        · have es : nI (dpS s t k) - 1 = nI (dpS s t k - 1) := pk_sub (b := 1) hd1
          rw [if_pos v33, if_pos v33, v33, if_pos (show (-33 : Int32) < 0 by decide), if_pos rfl, es, if_neg (nI_pos (show dpS s t k - 1 < 2 ^ 31 by omega)), m5 _ (by omega)]
          simp only [Option.bind_some, ite_some]
          rw [m6 _ _ (by omega), hp _ (by omega)]
          simp only [Option.bind_some]
          exact ⟨_, rfl, _, rfl, upd_agree hp⟩
        · have hneg : -(vlS s t k) < 10000 ∧ -(vlS s t k) < 0 ∧ ¬ (-(vlS s t k) = -33) := by
            refine ⟨?_, ?_, fun z => v33 (Int32.neg_inj.mp z)⟩
            · simp only [List.mem_cons, List.mem_nil_iff, or_false] at hvm
              rcases hvm with e | e | e | e | e | e | e | e | e <;> rw [e] <;> decide
            · simp only [List.mem_cons, List.mem_nil_iff, or_false] at hvm
              rcases hvm with e | e | e | e | e | e | e | e | e <;> rw [e] <;> decide
          have es : nI (dpS s t k) - 1 = nI (dpS s t k - 1) := pk_sub (b := 1) (by omega)
          have es2 : nI (dpS s t k - 1) + (-1) = nI (dpS s t k - 2) := (sb_m1 (by omega)).trans (by rw [show dpS s t k - 1 - 1 = dpS s t k - 2 by omega])
          have es3 : nI (dpS s t k - 2) + 1 = nI (dpS s t k - 1) := (nI_1 _).trans (by rw [show dpS s t k - 2 + 1 = dpS s t k - 1 by omega])
          rw [if_pos hneg.2.1, if_neg hneg.2.2, if_neg v33, if_neg v33, es, if_neg (show ¬ nI (dpS s t k - 1) < 1 from nI_nlt (b := 1) (by omega) (by omega)), es2, es3, m5 _ (by omega), m5 _ (by omega)]
          simp only [Option.bind_some, neg_neg32, C_joined hvm]
          rw [m6 _ _ (by omega), hp _ (by omega), hp _ (by omega)]
          simp only [Option.bind_some]
          exact ⟨_, rfl, _, by rw [show nI (dpS s t k - 1) - 1 = nI (dpS s t k - 2) from (pk_sub (b := 1) (by omega)).trans (by rw [show dpS s t k - 1 - 1 = dpS s t k - 2 by omega])], fun i hi => upd_agree hp i (by omega)⟩)
    (by
      rintro st ⟨p, rfl, hp⟩
      obtain ⟨m1, m2, m3, m4, m5, m6, m7⟩ := M p
      simp only [fX6_value_b0, m1, m3, Option.bind_some]
      rw [if_pos (nI_le (Nat.le_refl _) (by omega))]
      exact ⟨_, rfl, p, rfl, hp⟩)
  obtain ⟨m1, m2, m3, m4, m5, m6, m7⟩ := M p
  have hn0 : 0 < n := by
    rcases Nat.eq_zero_or_pos n with e | e
    · subst e; cases hend
    · exact e
  refine ⟨upC c (1000 + 3 * x + 2) (.inl (0, n, .inl p)), ?_, ScC.up hsc t2, fun k hk => upC_n (by omega)⟩
  unfold fX6_value
  rw [h3, h4, hend]
  simp only [Option.bind_some]
  rw [show nI 1 - 1 = nI 0 from rfl, if_neg (by decide), m2]
  simp only [Option.bind_some]
  rw [m5 0 hn0, h5 0 (by omega)]
  unfold evS
  rw [hcn]
  rfl
end CH
