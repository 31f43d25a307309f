section CD
variable {nT B : Nat} {nd : Nat → Option Nat} {c : Nat → pE} {ad tx : Nat → Nat} {s : Nat → Int32}
theorem scr_B6 (hB : isB B) : isScr (B + 6) := by unfold isScr; unfold isB at hB; omega
/-- what is measured -/
def msd (s : Nat → Int32) (g : Nat → Int32) (n : Nat) : Prop := ∀ j, j < n → g j = if inS s j then hS s j else 0
theorem C_measureRound (hL : Lay nd ad (KC nT)) (hB : isB B) (h : RingOK nT c ad B s tx) (hw : Wf s) : ∃ e, fX2_measureRound (ad B) (MM nd c) = some (nI (rndS s), MM nd e) ∧ ScC c e ∧ ∃ g, e (B + 6) = .inl (0, 10, .inl g) ∧ msd s g (nt (s 0)) := by
  obtain ⟨n, h1, h2, h3⟩ := hw.n0
  obtain ⟨g0, hg0⟩ := h.2.2.2.2.2.2.1
  have hlt : B + 6 < 1000 := by unfold isB at hB; omega
  obtain ⟨r, h4, e, rfl, h5, h6⟩ := loop_rel (b := fX2_measureRound_b0 (ad B)) (s := ((0 : Int32), (0 : Int32), MM nd c))
    (fun i st => ∃ e, st = (nI (rndF s i), nI i, MM nd e) ∧ ScC c e ∧ ∃ g, e (B + 6) = .inl (0, 10, .inl g) ∧ msd s g i)
    (fun r => ∃ e, r = (nI (rndF s n), MM nd e) ∧ ScC c e ∧ ∃ g, e (B + 6) = .inl (0, 10, .inl g) ∧ msd s g n) n (by omega) ⟨c, rfl, ScC.rf, g0, hg0, fun j hj => absurd hj (Nat.not_lt_zero j)⟩ (by
      rintro i st hi ⟨e, rfl, hs, g, hg, hm⟩
      have he := h.sc hB hs
      have hi10 : i < 10 := by omega
      have hin : i < nt (s 0) := by omega
      have g0 : ¬ nI n ≤ nI i := nI_ge hi (by omega)
      simp only [fX2_measureRound_b0, cg_n hL hB he, cr_6 hL hB he, cr_1 hL hB he, cv_R hL hB he, Option.bind_some, h1, if_neg g0, C_isIn hL hB he hw (show i < 2 ^ 31 by omega), cl_ch hL hB he hi10, nt_nI (show n < 2 ^ 31 by omega)]
      have fin : ∀ (f : Nat → pE) (v : Int32), ScC e f → f (B + 6) = e (B + 6) → v = (if inS s i then hS s i else 0) →
        ∃ s1, ((stI (MM nd f) (ad (B + 6)) (nI i) v).bind fun m13 => (gR m13 (ad B) 2 9).bind fun r14 => (ldI m13 r14 (nI i)).bind fun x15 => some (Sum.inl (β := Int32 × Mem) (nI (rndF s i) + x15, nI i + 1, m13))) = some (.inl s1) ∧ ∃ e, s1 = (nI (rndF s (i + 1)), nI (i + 1), MM nd e) ∧ ScC c e ∧ ∃ g, e (B + 6) = .inl (0, 10, .inl g) ∧ msd s g (i + 1) := by
        intro f v hf hf6 hv
        have k6 : KC nT (B + 6) := KC_B hB (by decide)
        have hf6' : f (B + 6) = .inl (0, 10, .inl g) := hf6.trans hg
        have hu : ScC f (upC f (B + 6) (.inl (0, 10, .inl (upd g i v)))) := ScC.up (scr_B6 hB) hf6'
        rw [stI_MM hL k6 hf6' hi10 (by omega)]
        simp only [Option.bind_some, cr_6 hL hB ((he.sc hB hf).sc hB hu), ldI_MM hL k6 upC_s hi10 (by omega)]
        refine ⟨_, rfl, _, ?_, (hs.tr hf).tr hu, _, upC_s, ?_⟩
        · rw [upd_s, ixp1, rndF_s, hv]
          by_cases hh : inS s i = true
          · obtain ⟨q, q1, q2, q3⟩ := hS_in hw hin
            rw [if_pos hh, if_pos hh, q1, nt_nI (by omega), nI_add]
          · rw [if_neg hh, if_neg hh]
            rw [show (0 : Int32) = nI 0 from rfl, nI_add]
        · intro j hj
          by_cases ej : j = i
          · subst ej; rw [upd_s, hv]
          · rw [upd_n ej]; exact hm j (by omega)
      by_cases hh : inS s i = true
      · rw [if_pos (by simp [hh, hi])]
        obtain ⟨f, f1, f2⟩ := C_holdsOf hL hB he hw hin
        simp only [f1, Option.bind_some]
        exact fin f _ f2.1 (f2.2 _ hlt) (by rw [if_pos hh])
      · rw [if_neg (by simp [hh])]
        simp only [Option.bind_some]
        exact fin e _ ScC.rf rfl (by rw [if_neg hh]))
    (by
      rintro st ⟨e, rfl, hs, hg⟩
      have he := h.sc hB hs
      simp only [fX2_measureRound_b0, cg_n hL hB he, Option.bind_some, h1]
      rw [if_pos (nI_le (Nat.le_refl _) (by omega))]
      exact ⟨_, rfl, e, rfl, hs, hg⟩)
  unfold fX2_measureRound
  rw [h4]
  refine ⟨e, ?_, h5, ?_⟩
  · unfold rndS; rw [h3]; rfl
  · rw [h3]; exact h6
theorem rnd_0 (hm : ¬ 0 < manyS s) : rndS s = 0 := by
  have key : ∀ n, ¬ 0 < cntS s n → rndF s n = 0 := by
    intro n
    induction n with
    | zero => intro _; rfl
    | succ n ih =>
      intro hc
      rw [cntS_s] at hc
      rw [rndF_s]
      by_cases hh : inS s n = true
      · rw [if_pos hh] at hc; omega
      · rw [if_neg hh, ih (by omega)]
  exact key _ hm
theorem C_landsBehind (hL : Lay nd ad (KC nT)) (hB : isB B) (h : RingOK nT c ad B s tx) (hw : Wf s) {g : Nat → Int32} (hg : c (B + 6) = .inl (0, 10, .inl g)) (hm : msd s g (nt (s 0))) {sec : Nat} (hsec : sec < 2 ^ 30) : fX2_landsBehind (ad B) (nI sec) (nI (rndS s)) (MM nd c) = some (if 0 < manyS s then nI (landS s sec) else -1) := by
  obtain ⟨n, h1, h2, h3⟩ := hw.n0
  have k6 : KC nT (B + 6) := KC_B hB (by decide)
  unfold fX2_landsBehind
  by_cases hmy : 0 < manyS s
  · have hr0 := rnd_pos hw hmy
    have hr9 := rnd_le hw
    obtain ⟨a, g1, g2, g3⟩ := hw.n6
    obtain ⟨c1, k1, k2⟩ := cnt_in hmy
    obtain ⟨hs1, hs2⟩ := start_in hw hmy
    have ha : a < nt (s 0) := by omega
    rw [if_pos hmy, if_pos (show (0 : Int32) < nI (rndS s) from nI_lt (a := 0) hr0 (by omega))]
    simp only [cg_6 hL hB h, cv_R hL hB h, Option.bind_some]
    have hst : (if (decide (a < nt (s 0)) && inS s a) = true then some (s 6) else (fX2_nextOf (ad B) (s 6) (MM nd c)).bind fun x4 => some x4) = some (nI (startS s)) := by
      rw [g1, C_nextOf hL hB h hw (Or.inl ha)]
      unfold startS
      rw [g3]
      by_cases hh : inS s a = true
      · rw [if_pos (by simp [ha, hh]), if_pos hh]
      · rw [if_neg (by simp [hh]), if_neg hh]
        obtain ⟨d, q1, q2, q3⟩ := nx_some ha k1 k2
        rw [q1]; rfl
    have hisin : fX2_isIn (ad B) (s 6) (MM nd c) = some (decide (a < nt (s 0)) && inS s a) := by rw [g1]; exact C_isIn hL hB h hw (by omega)
    rw [hisin]
    simp only [Option.bind_some]
    rw [hst, rmI_nI (by omega) hr0 (by omega)]
    simp only [Option.bind_some]
    have hlt : sec % rndS s < rndS s := Nat.mod_lt _ hr0
    obtain ⟨r, h4, h5⟩ := loop_gen (b := fX2_landsBehind_b0 (ad B) (MM nd c))
      (fun i st => ∃ d l, st = (nI d, nI l, nI i) ∧ d < nt (s 0) ∧ inS s d = true ∧ l < 2 ^ 30 ∧ landG s (n - i) d l = landS s sec)
      (fun r => r = nI (landS s sec)) n (by
        rintro i st ⟨d, l, rfl, hd, hin, hl, hG⟩ hi
        by_cases hin2 : i < n
        · rw [show n - i = (n - (i + 1)) + 1 by omega, landG_s] at hG
          obtain ⟨q, q1, q2, q3⟩ := hS_in hw hd
          rw [q1, nt_nI (by omega)] at hG
          have g0 : ¬ nI n ≤ nI i := nI_ge hin2 (by omega)
          have hgd : g d = nI q := by rw [hm d hd, if_pos hin, q1]
          have hisC : fX2_isChild (ad B) (nI d) (MM nd c) = some true := by rw [C_isC hL hB h hw (by omega)]; simp [hd]
          simp only [fX2_landsBehind_b0, cg_n hL hB h, cv_R hL hB h, cr_6 hL hB h, Option.bind_some, h1, if_neg g0, hisC, ldI_MM hL k6 hg (show d < 10 by omega) (by omega), hgd, if_true, ixp1]
          by_cases hlq : l < q
          · rw [if_pos hlq] at hG
            exact Or.inl ⟨_, by rw [if_pos (nI_lt hlq (by omega))], by rw [hG]⟩
          · rw [if_neg hlq] at hG
            obtain ⟨d2, t1, t2, t3⟩ := nx_some hd hd hin
            rw [if_neg (nI_nlt (by omega) (by omega)), C_nextOf hL hB h hw (Or.inl hd), t1]
            rw [t1] at hG
            refine Or.inr ⟨hin2, _, rfl, d2, l - q, ?_, by rw [← h1]; exact t2, t3, by omega, hG⟩
            rw [pk_sub (by omega)]; rfl
        · rw [show n - i = 0 by omega] at hG
          refine Or.inl ⟨nI d, ?_, by rw [← hG]; rfl⟩
          simp only [fX2_landsBehind_b0, cg_n hL hB h, Option.bind_some, h1, if_pos (nI_le (show n ≤ i by omega) (show i < 2 ^ 31 by omega))])
      bigN 0 (nI (startS s), nI (sec % rndS s), 0) ⟨startS s, sec % rndS s, rfl, hs1, hs2, by omega, by unfold landS; rw [h3]; rfl⟩ (Nat.zero_le _) (by rw [bigN_eq]; omega)
    rw [h4, h5]
    rfl
  · rw [if_neg hmy, rnd_0 hmy]
    rfl
theorem C_fewestFrom (hL : Lay nd ad (KC nT)) (hB : isB B) (h : RingOK nT c ad B s tx) (hw : Wf s) {f : Nat} (hf : f < nt (s 0)) (hfi : inS s f = true) : fX2_fewestFrom (ad B) (nI f) (MM nd c) = some (nI (evenS s f)) := by
  obtain ⟨n, h1, h2, h3⟩ := hw.n0
  obtain ⟨r, h4, h5⟩ := loop_rel (b := fX2_fewestFrom_b0 (ad B) (MM nd c)) (s := (nI f, nI f, (1 : Int32)))
    (fun i st => ∃ b, b < nt (s 0) ∧ st = (nI b, nI (onS s f i), nI (i + 1)) ∧ evnF s f (n - 1 - i) (i + 1) b = evenS s f) (fun r => r = nI (evenS s f)) (n - 1) (by omega) ⟨f, hf, by rw [onS_0 hf]; rfl, by unfold evenS; rw [h3]; rfl⟩ (by
      rintro i st hi ⟨b, hb, rfl, hev⟩
      have hon := onS_lt (s := s) (by omega : 0 < nt (s 0)) f i
      have hon2 := onS_lt (s := s) (by omega : 0 < nt (s 0)) f (i + 1)
      have est := C_stepFrom hL hB h hw hon
      rw [onS_on (by omega) (by omega)] at est
      have g0 : ¬ nI n ≤ nI (i + 1) := nI_ge (by omega) (by omega)
      have hisC : fX2_isChild (ad B) (nI b) (MM nd c) = some true := by rw [C_isC hL hB h hw (by omega)]; simp [hb]
      rw [show n - 1 - i = (n - 1 - (i + 1)) + 1 by omega, evnF_s] at hev
      simp only [fX2_fewestFrom_b0, cg_n hL hB h, cv_R hL hB h, cr_1 hL hB h, Option.bind_some, if_neg g0, hisC, est, C_isIn hL hB h hw (show onS s f (i + 1) < 2 ^ 31 by omega), cl_ch hL hB h (show onS s f (i + 1) < 10 by omega), cl_ch hL hB h (show b < 10 by omega), cc_1 hL hB h (show onS s f (i + 1) < 10 by omega) hon2, cc_1 hL hB h (show b < 10 by omega) hb, if_true, ixp1]
      rw [h1, if_neg g0, nt_nI (by omega)]
      by_cases hh : inS s (onS s f (i + 1)) = true
      · rw [if_pos (by simp only [hh, Bool.and_true, decide_eq_true_eq]; omega)]
        by_cases hlt : s (13 + 3 * onS s f (i + 1)) < s (13 + 3 * b)
        · rw [if_pos ⟨hh, hlt⟩] at hev
          rw [if_neg (Int32.not_le.mpr hlt)]
          exact ⟨_, rfl, onS s f (i + 1), by omega, rfl, hev⟩
        · rw [if_neg (fun z => hlt z.2)] at hev
          rw [if_pos (Int32.not_lt.mp hlt)]
          exact ⟨_, rfl, b, by omega, rfl, hev⟩
      · rw [if_neg (by simp [hh])]
        rw [if_neg (fun z => hh z.1)] at hev
        exact ⟨_, rfl, b, by omega, rfl, hev⟩)
    (by
      rintro st ⟨b, hb, rfl, hev⟩
      rw [Nat.sub_self] at hev
      simp only [fX2_fewestFrom_b0, cg_n hL hB h, Option.bind_some, h1]
      rw [if_pos (nI_le (by omega) (by omega))]
      exact ⟨_, rfl, by rw [← hev]; rfl⟩)
  unfold fX2_fewestFrom
  rw [h4, h5]
  rfl
theorem C_goesTo (hL : Lay nd ad (KC nT)) (hB : isB B) (h : RingOK nT c ad B s tx) (hw : Wf s) {k d : Nat} (hk : k < nt (s 1)) (hd : d < nt (s 0)) (hdi : inS s d = true) : fX2_goesTo (ad B) (ad (B + 20 + k)) (nI d) (MM nd c) = some (nI (goesC s k d)) := by
  obtain ⟨n, h1, h2, h3⟩ := hw.n1
  have h10 : k < 10 := by omega
  obtain ⟨-, -, wi, w1, w2⟩ := hw.sp hk
  unfold fX2_goesTo goesC
  simp only [cs_0 hL hB h h10 hk, cs_2 hL hB h h10 hk, cv_R hL hB h, Option.bind_some, C_fewestFrom hL hB h hw hd hdi, C_nextOf hL hB h hw (Or.inl hd)]
  obtain ⟨d2, t1, -, -⟩ := nx_some hd hd hdi
  rw [t1, w1, C_isIn hL hB h hw (by omega), nt_nI (by omega)]
  simp only [Option.bind_some]
  by_cases hh : wi < nt (s 0) ∧ inS s wi = true
  · rw [if_pos hh]
    simp only [show (decide (wi < nt (s 0)) && inS s wi) = true by simp [hh.1, hh.2], if_true]
    (repeat' split) <;> rfl
  · rw [if_neg hh]
    simp only [show ¬ (decide (wi < nt (s 0)) && inS s wi) = true by simpa using hh, if_false]
    (repeat' split) <;> first | rfl | contradiction
end CD
