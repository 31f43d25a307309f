theorem on_sur {s : Nat → Int32} {a c : Nat} (ha : a < nt (s 0)) (hc : c < nt (s 0)) : ∃ k, 1 ≤ k ∧ k ≤ nt (s 0) ∧ onS s a k = c := by
  unfold onS
  generalize nt (s 0) = N at *
  by_cases hw : s 5 = 1
  · simp only [if_pos hw]
    by_cases h : a < c
    · exact ⟨c - a, by omega, by omega, by rw [show a + (c - a) = c by omega, Nat.mod_eq_of_lt hc]⟩
    · exact ⟨c + N - a, by omega, by omega, by rw [show a + (c + N - a) = c + N by omega, Nat.add_mod_right, Nat.mod_eq_of_lt hc]⟩
  · simp only [if_neg hw]
    by_cases h : c < a
    · exact ⟨a - c, by omega, by omega, by rw [Nat.mod_eq_of_lt (by omega : a - c < N), show a + N - (a - c) = c + N by omega, Nat.add_mod_right, Nat.mod_eq_of_lt hc]⟩
    · by_cases e : a = c
      · exact ⟨N, by omega, by omega, by rw [Nat.mod_self, Nat.sub_zero, Nat.add_mod_right, e, Nat.mod_eq_of_lt hc]⟩
      · exact ⟨a + N - c, by omega, by omega, by rw [Nat.mod_eq_of_lt (by omega : a + N - c < N), show a + N - (a + N - c) = c by omega, Nat.mod_eq_of_lt hc]⟩
theorem cnt_in {s : Nat → Int32} : ∀ {n : Nat}, 0 < cntS s n → ∃ c, c < n ∧ inS s c = true := by
  intro n
  induction n with
  | zero => intro h; exact absurd h (Nat.lt_irrefl 0)
  | succ n ih =>
    intro h
    rw [cntS_s] at h
    split at h
    · next hh => exact ⟨n, by omega, hh⟩
    · obtain ⟨c, h1, h2⟩ := ih (by omega)
      exact ⟨c, by omega, h2⟩
theorem nx_some {s : Nat → Int32} {a c : Nat} (ha : a < nt (s 0)) (hc : c < nt (s 0)) (hin : inS s c = true) : ∃ d, nextS s a = some d ∧ d < nt (s 0) ∧ inS s d = true := by
  obtain ⟨k, h1, h2, h3⟩ := on_sur ha hc
  obtain ⟨k2, g1, g2, g3, g4⟩ := least_in (p := fun k => inS s (onS s a k) = true) (n := k) (i := 1) (by rw [h3]; exact hin) h1
  have := nx_find (s := s) (c := a) (nt (s 0)) 1 g1 (by omega) g3 g4
  exact ⟨_, this, onS_lt (by omega) a k2, g3⟩
theorem start_in {s : Nat → Int32} (hw : Wf s) (hm : 0 < manyS s) : startS s < nt (s 0) ∧ inS s (startS s) = true := by
  obtain ⟨c, h1, h2⟩ := cnt_in hm
  obtain ⟨a, g1, g2, g3⟩ := hw.n6
  have ha : a < nt (s 0) := by omega
  unfold startS
  rw [g3]
  split
  · next h => exact ⟨ha, h⟩
  · obtain ⟨d, e1, e2, e3⟩ := nx_some ha h1 h2
    rw [e1]
    exact ⟨e2, e3⟩
theorem sm_pos {g : Nat → Nat} : ∀ {n c : Nat}, c < n → 0 < g c → 0 < sm g n := by
  intro n
  induction n with
  | zero => intro c h; omega
  | succ n ih =>
    intro c h hg
    rw [sm_s]
    by_cases e : c = n
    · subst e; omega
    · have := ih (show c < n by omega) hg; omega
theorem sm_le {g : Nat → Nat} {b : Nat} : ∀ {n : Nat}, (∀ c, c < n → g c ≤ b) → sm g n ≤ n * b := by
  intro n
  induction n with
  | zero => intro _; simp [sm]
  | succ n ih =>
    intro h
    rw [sm_s, Nat.succ_mul]
    have h1 := ih (fun c hc => h c (by omega))
    have h2 := h n (by omega)
    omega
theorem rnd_pos {s : Nat → Int32} (hw : Wf s) (hm : 0 < manyS s) : 0 < rndS s := by
  obtain ⟨c, h1, h2⟩ := cnt_in hm
  obtain ⟨h, e1, e2, e3⟩ := hS_in hw h1
  unfold rndS
  rw [rnd_sm]
  refine sm_pos h1 ?_
  unfold GS
  rw [if_pos h2, e1, nt_nI (by omega)]
  exact e2
theorem rnd_le {s : Nat → Int32} (hw : Wf s) : rndS s ≤ 990 := by
  obtain ⟨n, h1, h2, h3⟩ := hw.n0
  unfold rndS
  rw [rnd_sm]
  have := sm_le (g := GS s) (b := 99) (n := nt (s 0)) (fun c hc => by
    obtain ⟨h, e1, e2, e3⟩ := hS_in hw hc
    unfold GS
    split
    · rw [e1, nt_nI (by omega)]; exact e3
    · omega)
  omega
/-- where it LANDS is in -/
theorem landG_in {s : Nat → Int32} (hw : Wf s) : ∀ {f c l : Nat}, c < nt (s 0) → inS s c = true → landG s f c l < nt (s 0) ∧ inS s (landG s f c l) = true := by
  intro f
  induction f with
  | zero => intro c l h1 h2; exact ⟨h1, h2⟩
  | succ f ih =>
    intro c l h1 h2
    rw [landG_s]
    split
    · exact ⟨h1, h2⟩
    · obtain ⟨d, e1, e2, e3⟩ := nx_some h1 h1 h2
      rw [e1]
      exact ih e2 e3
theorem landS_in {s : Nat → Int32} (hw : Wf s) (hm : 0 < manyS s) (sec : Nat) : landS s sec < nt (s 0) ∧ inS s (landS s sec) = true := landG_in hw (start_in hw hm).1 (start_in hw hm).2
theorem evnF_in {s : Nat → Int32} {f : Nat} (h0 : 0 < nt (s 0)) : ∀ {k i b : Nat}, b < nt (s 0) → inS s b = true → evnF s f k i b < nt (s 0) ∧ inS s (evnF s f k i b) = true := by
  intro k
  induction k with
  | zero => intro i b h1 h2; exact ⟨h1, h2⟩
  | succ k ih =>
    intro i b h1 h2
    rw [evnF_s]
    split
    · next h => exact ih (onS_lt h0 f i) h.1
    · exact ih h1 h2
theorem evenS_in {s : Nat → Int32} {c : Nat} (hc : c < nt (s 0)) (hin : inS s c = true) : evenS s c < nt (s 0) ∧ inS s (evenS s c) = true := evnF_in (by omega) hc hin
section RD
variable {nd : Nat → Option Nat} {ad : Nat → Nat} {fi : Nat → Int32} {fa : Nat → Nat → Int32}
theorem R_landsAt (hL : Lay nd ad KR) (hw : Wf (fa 0)) (hm : 0 < manyS (fa 0)) {sec : Nat} (hsec : sec < 2 ^ 30) : ∃ fb, fX8_landsAt (ad 31) (nI sec) (MR nd ad fi fa) = some (nI (landS (fa 0) sec), MR nd ad fi fb) ∧ Sc fa fb := by
  obtain ⟨n, h1, h2, h3⟩ := hw.n0
  obtain ⟨a, g1, g2, g3⟩ := hw.n6
  obtain ⟨c1, k1, k2⟩ := cnt_in hm
  have hn0 : 0 < n := by omega
  have ha : a < n := by omega
  obtain ⟨hs1, hs2⟩ := start_in hw hm
  obtain ⟨fb, e1, e2⟩ := R_roundOf (fi := fi) hL hw
  have hr0 := rnd_pos hw hm
  have hr9 := rnd_le hw
  have hst : ((if fa 0 (14 + 3 * a) = 0 then some (fa 0 6) else (fX8_nextOf (ad 31) (fa 0 6) (MR nd ad fi fa)).bind fun x6 => some x6)) = some (nI (startS (fa 0))) := by
    rw [g1, R_nextOf hL hw (by omega)]
    unfold startS
    rw [g3]
    by_cases hh : fa 0 (14 + 3 * a) = 0
    · rw [if_pos hh, if_pos (inS_t hh)]
    · rw [if_neg hh, if_neg (inS_f hh)]
      obtain ⟨d, q1, q2, q3⟩ := nx_some (by omega : a < nt (fa 0 0)) k1 k2
      rw [q1]; rfl
  unfold fX8_landsAt
  simp only [rg0 hL, rk6 hL, rcv hL, Option.bind_some]
  rw [g1, R_own2 hL (by omega : a < 1000), ← g1]
  simp only [Option.bind_some]
  rw [hst]
  simp only [Option.bind_some, e1]
  rw [rmI_nI (by omega) hr0 (by omega)]
  simp only [Option.bind_some]
  have hlt : sec % rndS (fa 0) < rndS (fa 0) := Nat.mod_lt _ hr0
  have hok := land_ok hs1 hs2 hlt
  have hz2 : Sc fa fb := e2
  obtain ⟨r, h4, fc, h5, h6⟩ := loop_gen (b := fX8_landsAt_b0 (ad 31))
    (fun i st => ∃ c l fb, st = (nI c, nI l, MR nd ad fi fb) ∧ Sc fa fb ∧ c < nt (fa 0 0) ∧ inS (fa 0) c = true ∧ l < 2 ^ 30 ∧ stops (fa 0) (nt (fa 0 0) - i) c l ∧ landG (fa 0) (nt (fa 0 0) - i) c l = landS (fa 0) sec)
    (fun r => ∃ fb, r = (nI (landS (fa 0) sec), MR nd ad fi fb) ∧ Sc fa fb) (nt (fa 0 0)) (by
      rintro i st ⟨c, l, fb, rfl, hb, hc, hin, hl30, hst, hld⟩ hi
      have hz := hb.z
      cases hd : nt (fa 0 0) - i with
      | zero => rw [hd] at hst; exact hst.elim
      | succ f =>
        rw [hd] at hst hld
        rw [landG_s] at hld
        obtain ⟨h, q1, q2, q3⟩ := hS_in hw hc
        obtain ⟨fc, p1, p2⟩ := R_holds (fi := fi) hL (by rw [hz]; exact hw) (by rw [hz]; exact hc : c < nt (fb 0 0))
        rw [hz] at p1
        simp only [fX8_landsAt_b0, rcv hL, p1, Option.bind_some, q1]
        rw [q1, nt_nI (by omega)] at hld
        by_cases hlh : l < h
        · refine Or.inl ⟨_, by rw [if_pos (nI_lt hlh (by omega))], fc, ?_, hb.tr p2⟩
          rw [if_pos hlh] at hld
          rw [hld]
        · obtain ⟨fd, p3, p4⟩ := R_holds (fi := fi) (fa := fc) hL (by rw [(hb.tr p2).z]; exact hw) (by rw [(hb.tr p2).z]; exact hc : c < nt (fc 0 0))
          rw [(hb.tr p2).z] at p3
          obtain ⟨d, t1, t2, t3⟩ := nx_some hc hc hin
          have p5 := (hb.tr p2).tr p4
          rw [if_neg (nI_nlt (by omega) (by omega))]
          simp only [p3, Option.bind_some, rcv hL]
          rw [R_nextOf hL (by rw [p5.z]; exact hw) (by omega), p5.z, t1]
          simp only [Option.bind_some, q1]
          rw [if_neg hlh, t1] at hld
          refine Or.inr ⟨by omega, _, rfl, d, l - h, fd, ?_, p5, t2, t3, by omega, ?_, ?_⟩
          · rw [pk_sub (by omega)]; rfl
          · rw [show nt (fa 0 0) - (i + 1) = f by omega]
            have := hst.resolve_left (by rw [q1, nt_nI (by omega)]; exact hlh)
            rw [t1, q1, nt_nI (by omega)] at this
            exact this
          · rw [show nt (fa 0 0) - (i + 1) = f by omega]; exact hld)
    bigN 0 (nI (startS (fa 0)), nI (sec % rndS (fa 0)), MR nd ad fi fb) ⟨startS (fa 0), sec % rndS (fa 0), fb, rfl, hz2, hs1, hs2, by omega, hok, rfl⟩ (Nat.zero_le _) (by rw [bigN_eq]; omega)
  rw [h4, h5]
  exact ⟨fc, rfl, h6⟩
theorem R_evening (hL : Lay nd ad KR) (hw : Wf (fa 0)) {c : Nat} (hc : c < nt (fa 0 0)) (hin : inS (fa 0) c = true) : fX8_evening (ad 31) (nI c) (MR nd ad fi fa) = some (nI (evenS (fa 0) c)) := by
  obtain ⟨n, h1, h2, h3⟩ := hw.n0
  obtain ⟨r, h4, h5⟩ := loop_rel (b := fX8_evening_b0 (ad 31) (nI c) (MR nd ad fi fa)) (s := ((-1 : Int32), (0 : Int32)))
    (fun i st => (i = 0 ∧ st = ((-1 : Int32), (0 : Int32))) ∨ (1 ≤ i ∧ ∃ b, b < n ∧ st = (nI b, nI i) ∧ evnF (fa 0) c (n - i) i b = evenS (fa 0) c)) (fun r => r = nI (evenS (fa 0) c)) n (by omega) (Or.inl ⟨rfl, rfl⟩) (by
      intro i st hi hI
      have hon := onS_lt (s := fa 0) (by omega : 0 < nt (fa 0 0)) c i
      rcases hI with ⟨rfl, rfl⟩ | ⟨hi1, b, hb, rfl, hev⟩
      · refine ⟨(nI c, nI 1), ?_, Or.inr ⟨Nat.le_refl _, c, by omega, rfl, by unfold evenS; rw [h3]⟩⟩
        have hon0 := R_on (fi := fi) (c := c) (i := 0) hL hw (by omega) (by omega) (by omega)
        rw [onS_0 hc] at hon0
        have hin0 : fa 0 (14 + 3 * c) = 0 := by simpa [inS] using hin
        have g0 : ¬ nI n ≤ (0 : Int32) := nI_nle (by omega) (by omega)
        have hon1 : fX8_on (ad 31) (nI c) 0 (MR nd ad fi fa) = some (nI c) := hon0
        simp only [fX8_evening_b0, rg0 hL, rk0 hL, rcv hL, Option.bind_some, h1, if_neg g0, hon1, R_own2 hL (show c < 1000 by omega), hin0]
        rfl
      · have g0 : ¬ nI n ≤ nI i := nI_ge hi (by omega)
        simp only [fX8_evening_b0, rg0 hL, rk0 hL, rcv hL, Option.bind_some, h1, if_neg g0, R_on hL hw (by omega : 0 < nt (fa 0 0)) (by omega : c < 2000) (by omega : i < 2000), R_own2 hL (show onS (fa 0) c i < 1000 by omega), R_own1 hL (show onS (fa 0) c i < 1000 by omega), R_own1 hL (show b < 1000 by omega), if_neg (nI_pos (show b < 2 ^ 31 by omega)), ixp1]
        rw [show n - i = (n - (i + 1)) + 1 by omega, evnF_s] at hev
        by_cases hh : fa 0 (14 + 3 * onS (fa 0) c i) = 0
        · rw [if_pos hh]
          by_cases hlt : fa 0 (13 + 3 * onS (fa 0) c i) < fa 0 (13 + 3 * b)
          · rw [if_pos ⟨inS_t hh, hlt⟩] at hev
            rw [if_neg (Int32.not_le.mpr hlt)]
            exact ⟨_, rfl, Or.inr ⟨by omega, onS (fa 0) c i, by omega, rfl, hev⟩⟩
          · rw [if_neg (fun z => hlt z.2)] at hev
            rw [if_pos (Int32.not_lt.mp hlt)]
            exact ⟨_, rfl, Or.inr ⟨by omega, b, hb, rfl, hev⟩⟩
        · rw [if_neg hh]
          rw [if_neg (fun z => inS_f hh z.1)] at hev
          exact ⟨_, rfl, Or.inr ⟨by omega, b, hb, rfl, hev⟩⟩)
    (by
      intro st hI
      rcases hI with ⟨hn, rfl⟩ | ⟨hi1, b, hb, rfl, hev⟩
      · omega
      · simp only [fX8_evening_b0, rg0 hL, rk0 hL, Option.bind_some, h1]
        rw [if_pos (nI_le (Nat.le_refl _) (by omega))]
        rw [Nat.sub_self] at hev
        exact ⟨_, rfl, by rw [← hev]; rfl⟩)
  unfold fX8_evening
  rw [h4, h5]
  rfl
theorem R_isLot (hL : Lay nd ad KR) {k : Nat} (hk : k < 1000) : fX8_isLot (ad 31) (nI k) (MR nd ad fi fa) = some (isLotS (fa 0) k) := by
  unfold fX8_isLot isLotS
  simp only [rcv hL, R_of0 hL hk, Option.bind_some]
  by_cases h1 : fa 0 (42 + 3 * k) = 1
  · rw [if_pos h1]; simp [h1]
  · rw [if_neg h1]
    by_cases h2 : fa 0 (42 + 3 * k) = 3
    · rw [if_pos h2]; simp [h2]
    · rw [if_neg h2]; simp [h1, h2]
theorem R_lasts (hL : Lay nd ad KR) (hw : Wf (fa 0)) {k : Nat} (hk : k < nt (fa 0 1)) (x : Int32) : ∃ fb, fX8_lasts (ad 31) (nI k) x (MR nd ad fi fa) = some (lastS (fa 0) k x, MR nd ad fi fb) ∧ Sc fa fb := by
  obtain ⟨n, h1, h2, h3⟩ := hw.n1
  have hk9 : k < 1000 := by omega
  have key : ∃ fb, (if oI (lawS (fa 0) 1) < 0 then some (fa 0 (43 + 3 * k), MR nd ad fi fa) else
      (stI (MR nd ad fi fa) (ad 25) (115 : Int32) (fa 0 (43 + 3 * k))).bind fun m5 =>
      (gR m5 (ad 31) 8 25).bind fun r6 =>
      (gR m5 (ad 31) 8 0).bind fun r7 =>
      (ldI m5 r7 (4 : Int32)).bind fun x8 =>
      (stI m5 r6 (112 : Int32) x8).bind fun m9 =>
      (gR m9 (ad 31) 8 25).bind fun r10 =>
      (gR m9 (ad 31) 8 0).bind fun r11 =>
      (ldI m9 r11 (8 : Int32)).bind fun x12 =>
      (stI m9 r10 (116 : Int32) x12).bind fun m13 =>
      (cV m13 (ad 31) 8 (fX8_worked (ad 31) (oI (lawS (fa 0) 1)) m13)).bind fun (x14, m15) =>
      (fX8_held x14 (0 : Int32) (999 : Int32) m15).bind fun x16 =>
      some (x16, m15)) = some (plainS (fa 0) k, MR nd ad fi fb) ∧ Sc fa fb := by
    unfold plainS
    cases hl : lawS (fa 0) 1 with
    | none => exact ⟨fa, by rw [show oI none = -1 from rfl, if_pos (by decide)], Sc.rf⟩
    | some t =>
      obtain ⟨ht, ht2, hkk⟩ := lawS_lt hw hl
      have e1 : ∀ g, upF fa 25 g 0 = fa 0 := fun g => upF_n (by decide)
      rw [show oI (some t) = nI t from rfl, if_neg (nI_pos (by omega)), show (115 : Int32) = nI 115 from rfl, rs25 hL (by omega)]
      simp only [rg25 hL, rg0 hL, rk4 hL, Option.bind_some, e1]
      rw [show (112 : Int32) = nI 112 from rfl, rs25 hL (by omega), upF_2, upF_s]
      simp only [rg25 hL, rg0 hL, rk8 hL, Option.bind_some, e1]
      rw [show (116 : Int32) = nI 116 from rfl, rs25 hL (by omega), upF_2, upF_s]
      obtain ⟨p, hp⟩ := R_worked (fi := fi) (fa := upF fa 25 (upd (upd (upd (fa 25) 115 (fa 0 (43 + 3 * k))) 112 (fa 0 4)) 116 (fa 0 8))) hL ht (by rw [e1]; exact hw.tx ht2) (nmS (fa 0 (92 + 200 * t)) (fa 0 (43 + 3 * k)) (fa 0 4) (fa 0 8)) (by
        rw [e1, upF_s, hkk]
        intro v hv
        rcases hv.2.1 rfl with rfl | rfl | rfl
        · rfl
        · rfl
        · rfl)
      simp only [rcv hL, Option.bind_some, hp, R_held, e1]
      exact ⟨_, rfl, Sc.u25.tr Sc.u26⟩
  obtain ⟨fb, e1, e2⟩ := key
  unfold fX8_lasts lastS
  simp only [rcv hL, R_of1 hL hk9, R_counts hL hw, Option.bind_some, rg25 hL]
  rw [e1]
  simp only [rcv hL, R_isLot hL hk9, R_of0 hL hk9, Option.bind_some, e2.z]
  refine ⟨fb, ?_, e2⟩
  by_cases h : isLotS (fa 0) k = true
  · rw [if_pos h, if_pos h]
  · rw [if_neg h, if_neg h]
    by_cases h5 : fa 0 (42 + 3 * k) = 5
    · rw [if_pos h5, if_pos h5]
      split <;> rfl
    · rw [if_neg h5, if_neg h5]
theorem plainS_in {s : Nat → Int32} (hw : Wf s) {k : Nat} (hk : k < nt (s 1)) : ∃ h, plainS s k = nI h ∧ h ≤ 999 := by
  unfold plainS
  split
  · obtain ⟨-, ⟨h, h1, h2⟩, -⟩ := hw.sp hk
    exact ⟨h, h1, by omega⟩
  · obtain ⟨h, h1, h2, h3⟩ := hld_in (v := evS s _ (s (43 + 3 * k)) (s 4) (s 8)) (a := 0) (b := 999) (x := 0) (y := 999) rfl rfl (by omega) (by omega)
    exact ⟨h, h1, h3⟩
theorem lastS_in {s : Nat → Int32} (hw : Wf s) {k : Nat} (hk : k < nt (s 1)) {x : Nat} (hx : x ≤ 9) : ∃ h, lastS s k (nI x) = nI h ∧ h ≤ 1008 := by
  obtain ⟨h, h1, h2⟩ := plainS_in hw hk
  unfold lastS
  rw [h1]
  split
  · exact ⟨h + x, nI_add h x, by omega⟩
  · split
    · split
      · exact ⟨h, rfl, by omega⟩
      · next hh =>
        have : 1 ≤ h := by
          rcases Nat.eq_zero_or_pos h with e | e
          · subst e; exact absurd (Int32.le_refl 0) hh
          · exact e
        exact ⟨h - 1, pk_sub (b := 1) this, by omega⟩
    · exact ⟨h, rfl, by omega⟩
theorem R_goesTo (hL : Lay nd ad KR) (hw : Wf (fa 0)) (hm : 0 < manyS (fa 0)) {k : Nat} (hk : k < nt (fa 0 1)) {x : Nat} (hx : x ≤ 9) : ∃ fb, fX8_goesTo (ad 31) (nI k) (nI x) (MR nd ad fi fa) = some (nI (goesS (fa 0) k (nI x)), MR nd ad fi fb) ∧ Sc fa fb := by
  obtain ⟨n, h1, h2, h3⟩ := hw.n1
  obtain ⟨n0, g1, g2, g3⟩ := hw.n0
  have hk9 : k < 1000 := by omega
  obtain ⟨fb, e1, e2⟩ := R_lasts (fi := fi) hL hw hk (nI x)
  obtain ⟨sec, e3, e4⟩ := lastS_in hw hk hx
  obtain ⟨fc, e5, e6⟩ := R_landsAt (fi := fi) (fa := fb) hL (by rw [e2.z]; exact hw) (by rw [e2.z]; exact hm) (by omega : sec < 2 ^ 30)
  rw [e2.z] at e5
  have hsc := e2.tr e6
  have hz := hsc.z
  obtain ⟨hl1, hl2⟩ := landS_in hw hm sec
  have hev := R_evening (fi := fi) (fa := fc) hL (by rw [hz]; exact hw) (by rw [hz]; exact hl1) (by rw [hz]; exact hl2)
  have hnx := R_nextOf (fi := fi) (fa := fc) (c := landS (fa 0) sec) hL (by rw [hz]; exact hw) (by omega)
  rw [hz] at hev hnx
  obtain ⟨d, t1, t2, t3⟩ := nx_some hl1 hl1 hl2
  obtain ⟨-, -, ⟨wh, w1, w2⟩⟩ := hw.sp hk
  refine ⟨fc, ?_, hsc⟩
  unfold fX8_goesTo goesS goesC
  simp only [rcv hL, e1, Option.bind_some, e3, e5, R_of0 hL hk9, R_of2 hL hk9, hz, hev, hnx, R_isChild hL, t1, nt_nI (show sec < 2 ^ 31 by omega)]
  split
  · rfl
  · split
    · rfl
    · split
      · rw [w1, nt_nI (by omega)]
        by_cases hc : wh < nt (fa 0 0)
        · have d1 : decide ((0 : Int32) ≤ nI wh ∧ nI wh ≤ fa 0 0 - 1) = true := by
            rw [g1, show nI n0 - 1 = nI (n0 - 1) from pk_sub (b := 1) (by omega)]
            simp only [decide_eq_true_eq]
            exact ⟨nI_pos' (by omega), nI_le (by omega) (by omega)⟩
          rw [if_pos d1, R_own2 hL (by omega : wh < 1000), hz]
          simp only [Option.bind_some]
          by_cases hh : fa 0 (14 + 3 * wh) = 0
          · rw [if_pos hh, if_pos ⟨hc, inS_t hh⟩]
          · rw [if_neg hh, if_neg (fun z => inS_f hh z.2)]
        · have d1 : ¬ decide ((0 : Int32) ≤ nI wh ∧ nI wh ≤ fa 0 0 - 1) = true := by
            simp only [decide_eq_true_eq]
            rintro ⟨-, z⟩
            rw [g1] at z
            rcases Nat.eq_zero_or_pos n0 with e | e
            · omega
            · rw [show nI n0 - 1 = nI (n0 - 1) from pk_sub (b := 1) (by omega), nI_leI (by omega) (by omega)] at z
              omega
          rw [if_neg d1, if_neg (fun z => hc z.1)]
      · rfl
end RD
