theorem Wf.sw {s u : Nat → Int32} (hw : Wf s) (hlo : ∀ j, j < 4 → u j = s j) (hhi : ∀ j, 42 ≤ j → u j = s j) (h4 : ∃ n, u 4 = nI n ∧ n < 2 ^ 30) (h5 : u 5 = 0 ∨ u 5 = 1) (h6 : ∃ n, u 6 = nI n ∧ (n < nt (s 0) ∨ n = 0)) (h7 : u 7 = 0 ∨ u 7 = 1)
    (hc : ∀ c, c < nt (s 0) → (∃ h, u (12 + 3 * c) = nI h ∧ 1 ≤ h ∧ h ≤ 9) ∧ (∃ h, u (13 + 3 * c) = nI h ∧ h ≤ 99) ∧ (u (14 + 3 * c) = 0 ∨ u (14 + 3 * c) = 1)) : Wf u := by
  obtain ⟨a0, a1, a2, a3, a4, a5, a6, a7, a8, a9, a10, a11⟩ := hw
  refine ⟨by rw [hlo 0 (by omega)]; exact a0, by rw [hlo 1 (by omega)]; exact a1, by rw [hlo 2 (by omega)]; exact a2, by rw [hlo 3 (by omega)]; exact a3, h4, h5, by rw [hlo 0 (by omega)]; exact h6, h7, by rw [hlo 0 (by omega)]; exact hc, ?_, ?_, ?_⟩
  · rw [hlo 1 (by omega)]
    intro k hk
    rw [hhi _ (by omega), hhi _ (by omega), hhi _ (by omega)]
    exact a9 k hk
  · rw [hlo 2 (by omega)]
    intro k hk
    rw [hhi _ (by omega)]
    exact a10 k hk
  · rw [hlo 3 (by omega)]
    intro t ht
    exact TxOK_cg (fun j hj => hhi j (by omega)) (a11 t ht)
theorem Wf.at {s : Nat → Int32} (hw : Wf s) {c : Nat} (hc : c < nt (s 0)) : Wf (upd s 6 (nI c)) := hw.sw (fun j hj => upd_n (by omega)) (fun j hj => upd_n (by omega)) (by rw [upd_n (by decide)]; exact hw.2.2.2.2.1) (by rw [upd_n (by decide)]; exact hw.way) ⟨c, upd_s, Or.inl hc⟩ (by rw [upd_n (by decide)]; exact hw.rul) (fun i hi => by rw [upd_n (by omega), upd_n (by omega), upd_n (by omega)]; exact hw.ch hi)
theorem Wf.wy {s : Nat → Int32} (hw : Wf s) {v : Int32} (hv : v = 0 ∨ v = 1) : Wf (upd s 5 v) := hw.sw (fun j hj => upd_n (by omega)) (fun j hj => upd_n (by omega)) (by rw [upd_n (by decide)]; exact hw.2.2.2.2.1) (by rw [upd_s]; exact hv) (by rw [upd_n (by decide)]; exact hw.2.2.2.2.2.2.1) (by rw [upd_n (by decide)]; exact hw.rul) (fun i hi => by rw [upd_n (by omega), upd_n (by omega), upd_n (by omega)]; exact hw.ch hi)
theorem Wf.rl {s : Nat → Int32} (hw : Wf s) {v : Int32} (hv : v = 0 ∨ v = 1) : Wf (upd s 7 v) := hw.sw (fun j hj => upd_n (by omega)) (fun j hj => upd_n (by omega)) (by rw [upd_n (by decide)]; exact hw.2.2.2.2.1) (by rw [upd_n (by decide)]; exact hw.way) (by rw [upd_n (by decide)]; exact hw.2.2.2.2.2.2.1) (by rw [upd_s]; exact hv) (fun i hi => by rw [upd_n (by omega), upd_n (by omega), upd_n (by omega)]; exact hw.ch hi)
theorem Wf.tk {s : Nat → Int32} (hw : Wf s) {v : Int32} (hv : ∃ n, v = nI n ∧ n < 2 ^ 30) : Wf (upd s 4 v) := hw.sw (fun j hj => upd_n (by omega)) (fun j hj => upd_n (by omega)) (by rw [upd_s]; exact hv) (by rw [upd_n (by decide)]; exact hw.way) (by rw [upd_n (by decide)]; exact hw.2.2.2.2.2.2.1) (by rw [upd_n (by decide)]; exact hw.rul) (fun i hi => by rw [upd_n (by omega), upd_n (by omega), upd_n (by omega)]; exact hw.ch hi)
theorem Wf.fr {s : Nat → Int32} (hw : Wf s) {j : Nat} {v : Int32} (hj : 8 ≤ j ∧ j < 12) : Wf (upd s j v) := Wf_cg (fun i hi => upd_n (by omega)) (fun i hi => upd_n (by omega)) hw
theorem Wf.chu {s : Nat → Int32} (hw : Wf s) {i f : Nat} {v : Int32} (hf : f < 3) (hi : i < 10) (h0 : f = 0 → ∃ h, v = nI h ∧ 1 ≤ h ∧ h ≤ 9) (h1 : f = 1 → ∃ h, v = nI h ∧ h ≤ 99) (h2 : f = 2 → v = 0 ∨ v = 1) : Wf (upd s (12 + f + 3 * i) v) := by
  refine hw.sw (fun j hj => upd_n (by omega)) (fun j hj => upd_n (by omega)) (by rw [upd_n (by omega)]; exact hw.2.2.2.2.1) (by rw [upd_n (by omega)]; exact hw.way) (by rw [upd_n (by omega)]; exact hw.2.2.2.2.2.2.1) (by rw [upd_n (by omega)]; exact hw.rul) (fun c hc => ?_)
  obtain ⟨b0, b1, b2⟩ := hw.ch hc
  by_cases e : c = i
  · subst e
    rcases (show f = 0 ∨ f = 1 ∨ f = 2 by omega) with e | e | e <;> subst e
    · rw [show 12 + 0 + 3 * c = 12 + 3 * c by omega, upd_s, upd_n (by omega), upd_n (by omega)]; exact ⟨h0 rfl, b1, b2⟩
    · rw [show 12 + 1 + 3 * c = 13 + 3 * c by omega, upd_s, upd_n (by omega), upd_n (by omega)]; exact ⟨b0, h1 rfl, b2⟩
    · rw [show 12 + 2 + 3 * c = 14 + 3 * c by omega, upd_s, upd_n (by omega), upd_n (by omega)]; exact ⟨b0, b1, h2 rfl⟩
  · rw [upd_n (by omega), upd_n (by omega), upd_n (by omega)]; exact ⟨b0, b1, b2⟩
theorem sortS_cg {s u : Nat → Int32} (h4 : u 4 = s 4) (h2 : u 2 = s 2) (h : ∀ j, 72 ≤ j → u j = s j) : sortS u = sortS s := by
  unfold sortS
  rw [h4, h2, h _ (by omega)]
theorem manyS_cg {s u : Nat → Int32} (h0 : u 0 = s 0) (h : ∀ c, c < nt (s 0) → u (14 + 3 * c) = s (14 + 3 * c)) : manyS u = manyS s := by
  unfold manyS
  rw [h0]
  exact cntS_cg h
theorem upd_id {f : Nat → Int32} {k : Nat} : upd f k (f k) = f := by funext j; by_cases e : j = k <;> simp [upd, e]
theorem sort_012 {s : Nat → Int32} (hw : Wf s) : sortS s = 0 ∨ sortS s = 1 ∨ sortS s = 2 := by
  unfold sortS
  split
  · next h =>
    obtain ⟨q, q1, q2⟩ := hw.pp h
    rw [q1]
    rcases (show q = 0 ∨ q = 1 ∨ q = 2 by omega) with e | e | e <;> subst e
    · exact Or.inl rfl
    · exact Or.inr (Or.inl rfl)
    · exact Or.inr (Or.inr rfl)
  · exact Or.inl rfl
theorem goesC_in {s : Nat → Int32} {k c : Nat} (hc : c < nt (s 0)) (hi : inS s c = true) : goesC s k c < nt (s 0) ∧ inS s (goesC s k c) = true := by
  unfold goesC
  obtain ⟨d, t1, t2, t3⟩ := nx_some hc hc hi
  have he := evenS_in hc hi
  split
  · exact he
  · split
    · rw [t1]; exact ⟨t2, t3⟩
    · split
      · split
        · next h => exact h
        · exact he
      · exact ⟨hc, hi⟩
theorem goesS_in {s : Nat → Int32} (hw : Wf s) (hm : 0 < manyS s) (k : Nat) (x : Int32) : goesS s k x < nt (s 0) ∧ inS s (goesS s k x) = true := goesC_in (landS_in hw hm _).1 (landS_in hw hm _).2
/-- what a turn does but for the count -/
def giveB (s : Nat → Int32) (c : Nat) (sec : Int32) : Nat → Int32 :=
  let s2 := upd s 8 (s 8 + sec)
  let s3 := upd s2 (13 + 3 * c) (hld (s2 (13 + 3 * c) + 1) 0 99)
  let s4 := upd s3 6 (nI c)
  let s5 := upd s4 9 (s4 9 + (if sortS s = 1 then 1 else 0))
  let s6 := upd s5 10 (s5 10 + (if sortS s = 2 then 1 else 0))
  let s7 := upd s6 5 (if sortS s = 2 then 1 - s6 5 else s6 5)
  upd s7 (14 + 3 * c) (if s 7 = 1 ∧ 2 < manyS s then 1 else 0)
theorem give_B (s : Nat → Int32) (c : Nat) (sec : Int32) : give s c sec = upd (giveB s c sec) 4 (giveB s c sec 4 + 1) := rfl
/-- the row behind time, had, at, sweets, forfeits, way -/
def giveA (s : Nat → Int32) (c : Nat) (sec : Int32) : Nat → Int32 :=
  let s2 := upd s 8 (s 8 + sec)
  let s3 := upd s2 (13 + 3 * c) (hld (s2 (13 + 3 * c) + 1) 0 99)
  let s4 := upd s3 6 (nI c)
  if sortS s = 1 then upd s4 9 (s4 9 + 1) else if sortS s = 2 then (let s6 := upd s4 10 (s4 10 + 1); upd s6 5 (1 - s6 5)) else s4
theorem giveB_A (s : Nat → Int32) (c : Nat) (sec : Int32) : giveB s c sec = upd (giveA s c sec) (14 + 3 * c) (if s 7 = 1 ∧ 2 < manyS s then 1 else 0) := by
  have z : ∀ v : Int32, v + 0 = v := fun v => by rw [Int32.add_zero]
  unfold giveB giveA
  simp only
  by_cases h1 : sortS s = 1
  · have h2 : ¬ sortS s = 2 := by rw [h1]; decide
    rw [if_pos h1, if_pos h1, if_neg h2, if_neg h2, z, upd_id, upd_id]
  · by_cases h2 : sortS s = 2
    · rw [if_neg h1, if_neg h1, if_pos h2, if_pos h2, if_pos h2, z, upd_id]
    · rw [if_neg h1, if_neg h1, if_neg h2, if_neg h2, if_neg h2, z, upd_id, z, upd_id, upd_id]
theorem giveA_n {s : Nat → Int32} {c : Nat} {sec : Int32} {j : Nat} (h5 : j ≠ 5) (h6 : j ≠ 6) (h8 : j ≠ 8) (h9 : j ≠ 9) (h10 : j ≠ 10) (h13 : j ≠ 13 + 3 * c) : giveA s c sec j = s j := by
  unfold giveA
  simp only
  split
  · rw [upd_n h9, upd_n h6, upd_n h13, upd_n h8]
  · split
    · rw [upd_n h5, upd_n h10, upd_n h6, upd_n h13, upd_n h8]
    · rw [upd_n h6, upd_n h13, upd_n h8]
theorem Wf.gA {s : Nat → Int32} (hw : Wf s) {c : Nat} {sec : Int32} (hc : c < nt (s 0)) : Wf (giveA s c sec) := by
  obtain ⟨n, h1, h2, h3⟩ := hw.n0
  have w2 : Wf (upd s 8 (s 8 + sec)) := hw.fr (by omega)
  have w3 : Wf (upd (upd s 8 (s 8 + sec)) (13 + 3 * c) (hld ((upd s 8 (s 8 + sec)) (13 + 3 * c) + 1) 0 99)) := by
    have := Wf.chu (i := c) (f := 1) (v := hld ((upd s 8 (s 8 + sec)) (13 + 3 * c) + 1) 0 99) w2 (by omega) (by omega) (fun z => by cases z) (fun _ => by
      obtain ⟨h, q1, -, q2⟩ := hld_in (v := (upd s 8 (s 8 + sec)) (13 + 3 * c) + 1) (a := 0) (b := 99) (x := 0) (y := 99) rfl rfl (by omega) (by omega)
      exact ⟨h, q1, q2⟩) (fun z => by cases z)
    exact this
  have w4 := w3.at (c := c) (by rw [upd_n (by omega), upd_n (by omega)]; exact hc)
  unfold giveA
  simp only
  split
  · exact w4.fr (by omega)
  · split
    · refine (w4.fr (by omega)).wy ?_
      rw [upd_n (by decide), upd_n (by decide), upd_n (by omega), upd_n (by decide)]
      rcases hw.way with e | e <;> rw [e]
      · exact Or.inr rfl
      · exact Or.inl rfl
    · exact w4
theorem Wf.gB {s : Nat → Int32} (hw : Wf s) {c : Nat} {sec : Int32} (hc : c < nt (s 0)) : Wf (giveB s c sec) := by
  obtain ⟨n, h1, h2, h3⟩ := hw.n0
  rw [giveB_A]
  exact Wf.chu (i := c) (f := 2) (hw.gA hc) (by omega) (by omega) (fun z => by cases z) (fun z => by cases z) (fun _ => by split <;> simp)
theorem giveB_n {s : Nat → Int32} {c : Nat} {sec : Int32} {j : Nat} (h5 : j ≠ 5) (h6 : j ≠ 6) (h8 : j ≠ 8) (h9 : j ≠ 9) (h10 : j ≠ 10) (h13 : j ≠ 13 + 3 * c) (h14 : j ≠ 14 + 3 * c) : giveB s c sec j = s j := by
  rw [giveB_A, upd_n h14, giveA_n h5 h6 h8 h9 h10 h13]
theorem turnS_n {s : Nat → Int32} (hw : Wf s) {j : Nat} (hj : j < 4 ∨ j = 7 ∨ 42 ≤ j) : (turnS s).2 j = s j := by
  by_cases hg : goS s = true
  · have hg2 : 0 < nt (s 1) ∧ 0 < manyS s := by simpa [goS] using hg
    obtain ⟨n, h1, h2, h3⟩ := hw.n0
    rw [turnS_t hg]
    simp only
    rw [give_B, upd_n (by omega)]
    split
    · have hw1 : Wf (upd s 11 (drwS (s 11))) := hw.fr (by omega)
      have hm1 : 0 < manyS (upd s 11 (drwS (s 11))) := by rw [manyS_cg (upd_n (by decide)) (fun c _ => upd_n (by omega))]; exact hg2.2
      have := (goesS_in hw1 hm1 (stopS s) (nI ((drwO (drwS (s 11))).toNatClampNeg % 10))).1
      rw [upd_n (by decide)] at this
      rw [giveB_n (by omega) (by omega) (by omega) (by omega) (by omega) (by omega) (by omega), upd_n (by omega)]
    · have := (goesS_in hw hg2.2 (stopS s) 0).1
      rw [giveB_n (by omega) (by omega) (by omega) (by omega) (by omega) (by omega) (by omega)]
  · rw [turnS_f hg]
    exact upd_n (by omega)
theorem turnS_4 {s : Nat → Int32} (hw : Wf s) : (turnS s).2 4 = s 4 + 1 := by
  by_cases hg : goS s = true
  · rw [turnS_t hg]
    simp only
    rw [give_B, upd_s, giveB_n (by decide) (by decide) (by decide) (by decide) (by decide) (by omega) (by omega)]
    split
    · rw [upd_n (by decide)]
    · rfl
  · rw [turnS_f hg]
    show upd s 4 (s 4 + 1) 4 = _
    exact upd_s
theorem Wf.turn {s : Nat → Int32} (hw : Wf s) (h4 : nt (s 4) + 1 < 2 ^ 30) : Wf (turnS s).2 := by
  obtain ⟨k, k1, k2, k3⟩ := hw.n4
  have hk : ∃ n, s 4 + 1 = nI n ∧ n < 2 ^ 30 := ⟨k + 1, by rw [k1]; exact nI_1 k, by omega⟩
  by_cases hg : goS s = true
  · have hg2 : 0 < nt (s 1) ∧ 0 < manyS s := by simpa [goS] using hg
    rw [turnS_t hg]
    simp only
    rw [give_B]
    split
    · have hw1 : Wf (upd s 11 (drwS (s 11))) := hw.fr (by omega)
      have hm1 : 0 < manyS (upd s 11 (drwS (s 11))) := by rw [manyS_cg (upd_n (by decide)) (fun c _ => upd_n (by omega))]; exact hg2.2
      refine (hw1.gB (goesS_in hw1 hm1 _ _).1).tk ?_
      rw [giveB_n (by decide) (by decide) (by decide) (by decide) (by decide) (by omega) (by omega), upd_n (by decide)]
      exact hk
    · refine (hw.gB (goesS_in hw hg2.2 _ _).1).tk ?_
      rw [giveB_n (by decide) (by decide) (by decide) (by decide) (by decide) (by omega) (by omega)]
      exact hk
  · rw [turnS_f hg]
    exact hw.tk hk
section CG
variable {nT B : Nat} {nd : Nat → Option Nat} {c : Nat → pE} {ad tx : Nat → Nat} {s : Nat → Int32}
theorem C_give (hL : Lay nd ad (KC nT)) (hB : isB B) {sec : Int32} (h : RingOK nT c ad B (upd s 8 (s 8 + sec)) tx) (hw : Wf s) {i : Nat} (hi : i < nt (s 0)) (hin : inS s i = true) : ∃ e, fX2_give (ad B) (nI i) (MM nd c) = some (MM nd e) ∧ RingOK nT e ad B (giveB s i sec) tx ∧ ChB B c e := by
  obtain ⟨n, h1, h2, h3⟩ := hw.n0
  have hi10 : i < 10 := by omega
  have w2 : Wf (upd s 8 (s 8 + sec)) := hw.fr (by omega)
  have hi2 : i < nt ((upd s 8 (s 8 + sec)) 0) := by rw [upd_n (by decide)]; exact hi
  have hisC : fX2_isChild (ad B) (nI i) (MM nd c) = some true := by rw [C_isC hL hB h w2 (by omega)]; simp [hi2]
  have hmin : ∀ m : Mem, fJ9_min_7cf53 99 ((upd s 8 (s 8 + sec)) (13 + 3 * i) + 1) m = some (hld ((upd s 8 (s 8 + sec)) (13 + 3 * i) + 1) 0 99) := by
    intro m
    obtain ⟨-, ⟨q, q1, q2⟩, -⟩ := w2.ch hi2
    rw [q1, nI_1]
    unfold fJ9_min_7cf53 hld
    rw [if_pos (show (0 : Int32) ≤ nI (q + 1) from nI_pos' (by omega))]
    by_cases hq : q + 1 ≤ 99
    · rw [if_pos (show nI (q + 1) ≤ 99 from nI_le (b := 99) hq (by omega))]
      by_cases hq2 : q + 1 = 99
      · rw [hq2]; rfl
      · rw [if_pos (show nI (q + 1) < 99 from nI_lt (b := 99) (by omega) (by omega))]
    · rw [show q + 1 = 100 by omega]
      rfl
  unfold fX2_give
  simp only [cv_R hL hB h, hisC, Option.bind_some, if_true, cr_1 hL hB h, cl_ch hL hB h hi10, cc_1 hL hB h hi10 hi2, hmin]
  obtain ⟨e3, p3, r3, q3⟩ := cp_c (f := 1) (v := hld ((upd s 8 (s 8 + sec)) (13 + 3 * i) + 1) 0 99) hL hB h hi10 hi2 (by omega)
  rw [p3]
  simp only [Option.bind_some]
  obtain ⟨e4, p4, r4, q4⟩ := cp_6 (v := nI i) hL hB r3
  rw [p4]
  simp only [Option.bind_some, cv_R hL hB r4]
  have w3 : Wf (upd (upd s 8 (s 8 + sec)) (12 + 1 + 3 * i) (hld ((upd s 8 (s 8 + sec)) (13 + 3 * i) + 1) 0 99)) := Wf.chu w2 (by omega) hi10 (fun z => by cases z) (fun _ => by
      obtain ⟨h, q1, -, q2⟩ := hld_in (v := (upd s 8 (s 8 + sec)) (13 + 3 * i) + 1) (a := 0) (b := 99) (x := 0) (y := 99) rfl rfl (by omega) (by omega)
      exact ⟨h, q1, q2⟩) (fun z => by cases z)
  have w4 := w3.at (c := i) (by rw [upd_n (by omega)]; exact hi2)
  have so : fX2_sortNow (ad B) (MM nd e4) = some (sortS s) := by
    rw [C_sortNow hL hB r4 w4, sortS_cg (s := s) (by rw [upd_n (by decide), upd_n (by omega), upd_n (by decide)]) (by rw [upd_n (by decide), upd_n (by omega), upd_n (by decide)]) (fun j hj => by rw [upd_n (by omega), upd_n (by omega), upd_n (by omega)])]
  rw [so]
  simp only [Option.bind_some]
  have q34 := q3.tr q4
  -- behind sweets, forfeits, way
  have mid : ∃ e, (if sortS s = 1 then (gI (MM nd e4) (ad B) 2 15).bind fun x13 => (pI (MM nd e4) (ad B) 2 15 (x13 + (1 : Int32))).bind fun m14 => some m14
      else if sortS s = 2 then
          (gI (MM nd e4) (ad B) 2 16).bind fun x9 =>
          (pI (MM nd e4) (ad B) 2 16 (x9 + (1 : Int32))).bind fun m10 =>
          (gI m10 (ad B) 2 11).bind fun x11 =>
          (pI m10 (ad B) 2 11 ((1 : Int32) - x11)).bind fun m12 =>
          some m12
        else
          some (MM nd e4)) = some (MM nd e) ∧ RingOK nT e ad B (giveA s i sec) tx ∧ ChB B c e := by
    have e13 : (12 + 1 + 3 * i) = 13 + 3 * i := by omega
    rw [e13] at r4
    unfold giveA
    simp only
    by_cases s1 : sortS s = 1
    · rw [if_pos s1, if_pos s1, cg_9 hL hB r4]
      obtain ⟨e5, p5, r5, q5⟩ := cp_9 (v := (upd (upd (upd s 8 (s 8 + sec)) (13 + 3 * i) (hld ((upd s 8 (s 8 + sec)) (13 + 3 * i) + 1) 0 99)) 6 (nI i)) 9 + 1) hL hB r4
      simp only [Option.bind_some, p5]
      exact ⟨e5, rfl, r5, q34.tr q5⟩
    · rw [if_neg s1, if_neg s1]
      by_cases s2 : sortS s = 2
      · rw [if_pos s2, if_pos s2, cg_10 hL hB r4]
        obtain ⟨e5, p5, r5, q5⟩ := cp_10 (v := (upd (upd (upd s 8 (s 8 + sec)) (13 + 3 * i) (hld ((upd s 8 (s 8 + sec)) (13 + 3 * i) + 1) 0 99)) 6 (nI i)) 10 + 1) hL hB r4
        simp only [Option.bind_some, p5, cg_5 hL hB r5]
        obtain ⟨e6, p6, r6, q6⟩ := cp_5 (v := 1 - (upd (upd (upd (upd s 8 (s 8 + sec)) (13 + 3 * i) (hld ((upd s 8 (s 8 + sec)) (13 + 3 * i) + 1) 0 99)) 6 (nI i)) 10 ((upd (upd (upd s 8 (s 8 + sec)) (13 + 3 * i) (hld ((upd s 8 (s 8 + sec)) (13 + 3 * i) + 1) 0 99)) 6 (nI i)) 10 + 1)) 5) hL hB r5
        simp only [Option.bind_some, p6]
        exact ⟨e6, rfl, r6, (q34.tr q5).tr q6⟩
      · rw [if_neg s2, if_neg s2]
        exact ⟨e4, rfl, r4, q34⟩
  obtain ⟨e5, p5, r5, q5⟩ := mid
  rw [p5]
  have w5 : Wf (giveA s i sec) := hw.gA hi
  have hmn : manyS (giveA s i sec) = manyS s := manyS_cg (giveA_n (by decide) (by decide) (by decide) (by decide) (by decide) (by omega)) (fun d _ => giveA_n (by omega) (by omega) (by omega) (by omega) (by omega) (by omega))
  have h70 : giveA s i sec 7 = s 7 := giveA_n (by decide) (by decide) (by decide) (by decide) (by decide) (by omega)
  have hi5 : i < nt (giveA s i sec 0) := by rw [giveA_n (by decide) (by decide) (by decide) (by decide) (by decide) (by omega)]; exact hi
  have h14 : giveA s i sec (14 + 3 * i) = 0 := by rw [giveA_n (by omega) (by omega) (by omega) (by omega) (by omega) (by omega)]; simpa [inS] using hin
  simp only [Option.bind_some, cg_7 hL hB r5, cv_R hL hB r5, C_inCount hL hB r5 w5, h70, hmn]
  rw [giveB_A]
  have hid : upd (giveA s i sec) (14 + 3 * i) 0 = giveA s i sec := by
    have := upd_id (f := giveA s i sec) (k := 14 + 3 * i)
    rw [h14] at this
    exact this
  have := manyS_le hw
  by_cases h7 : s 7 = 1
  · rw [if_pos h7]
    by_cases hm2 : 2 < manyS s
    · rw [if_neg (show ¬ nI (manyS s) ≤ 2 from nI_ge (b := manyS s) (a := 2) hm2 (by omega)), if_pos ⟨h7, hm2⟩]
      obtain ⟨e6, p6, r6, q6⟩ := cp_c (f := 2) (v := 1) hL hB r5 hi10 hi5 (by omega)
      rw [p6]
      exact ⟨e6, rfl, r6, q5.tr q6⟩
    · rw [if_pos (show nI (manyS s) ≤ 2 from nI_le (b := 2) (a := manyS s) (by omega) (by omega)), if_neg (fun z => hm2 z.2), hid]
      exact ⟨e5, rfl, r5, q5⟩
  · rw [if_neg h7, if_neg (fun z => h7 z.1), hid]
    exact ⟨e5, rfl, r5, q5⟩
theorem C_draw (hL : Lay nd ad (KC nT)) (hB : isB B) (h : RingOK nT c ad B s tx) : ∃ e, fX2_draw (ad B) (MM nd c) = some (drwO (drwS (s 11)), MM nd e) ∧ RingOK nT e ad B (upd s 11 (drwS (s 11))) tx ∧ ChB B c e := by
  unfold fX2_draw
  obtain ⟨e, p1, r1, q1⟩ := cp_11 (v := drwS (s 11)) hL hB h
  simp only [cg_11 hL hB h, Option.bind_some]
  rw [show s 11 * 1103515245 + 12345 = drwS (s 11) from rfl, p1]
  simp only [Option.bind_some, cg_11 hL hB r1, upd_s]
  exact ⟨e, rfl, r1, q1⟩
theorem C_turn1 (hL : Lay nd ad (KC nT)) (hB : isB B) (h : RingOK nT c ad B s tx) (hw : Wf s) (hm : 0 < manyS s) {k x : Nat} {v : Int32} (hv : v = nI x) (hk : k < nt (s 1)) (hx : x ≤ 9) : ∃ e, ((cV (MM nd c) (ad B) 2 (fX2_lastsBy (ad B) (ad (B + 20 + k)) v (MM nd c))).bind fun (x10, m11) =>
        (cV m11 (ad B) 2 (fX2_measureRound (ad B) m11)).bind fun (x12, m13) =>
        (cV m13 (ad B) 2 (fX2_landsBehind (ad B) x10 x12 m13)).bind fun x14 =>
        (cV m13 (ad B) 2 (fX2_goesTo (ad B) (ad (B + 20 + k)) x14 m13)).bind fun x15 =>
        (gI m13 (ad B) 2 14).bind fun x16 =>
        (pI m13 (ad B) 2 14 (x16 + x10)).bind fun m17 =>
        (cV m17 (ad B) 2 (fX2_give (ad B) x15 m17)).bind fun m18 =>
        some (x15, m18)) = some (nI (goesS s k v), MM nd e) ∧ RingOK nT e ad B (giveB s (goesS s k v) (lastS s k v)) tx ∧ ChB B c e := by
  subst hv
  obtain ⟨e1, p1, q1⟩ := C_lastsBy hL hB h hw hk (nI x)
  have r1 := h.sc hB q1.1
  obtain ⟨e2, p2, q2, g, hg, hms⟩ := C_measureRound hL hB r1 hw
  have r2 := r1.sc hB q2
  obtain ⟨l, l1, l2⟩ := lastS_in hw hk hx
  have hl := landS_in hw hm l
  have p3 := C_landsBehind hL hB r2 hw hg hms (sec := l) (by omega)
  rw [if_pos hm] at p3
  have p4 := C_goesTo hL hB r2 hw hk hl.1 hl.2
  have hgo : goesS s k (nI x) = goesC s k (landS s l) := by unfold goesS; rw [l1, nt_nI (by omega)]
  simp only [cv_R hL hB h, p1, Option.bind_some, cv_R hL hB r1, p2, cv_R hL hB r2]
  rw [l1, p3]
  simp only [Option.bind_some, p4, cg_8 hL hB r2]
  obtain ⟨e5, p5, r5, q5⟩ := cp_8 (v := s 8 + nI l) hL hB r2
  rw [p5]
  simp only [Option.bind_some, cv_R hL hB r5]
  have hgi := goesS_in hw hm k (nI x)
  rw [hgo] at hgi ⊢
  obtain ⟨e6, p6, r6, q6⟩ := C_give hL hB r5 hw hgi.1 hgi.2
  rw [p6]
  exact ⟨e6, rfl, r6, (((ChB.sc q1.1).tr (ChB.sc q2)).tr q5).tr q6⟩
theorem C_takeTurn (hL : Lay nd ad (KC nT)) (hB : isB B) (h : RingOK nT c ad B s tx) (hw : Wf s) : ∃ e, fX2_takeTurn (ad B) (MM nd c) = some ((turnS s).1, MM nd e) ∧ RingOK nT e ad B (turnS s).2 tx ∧ ChB B c e := by
  obtain ⟨n, h1, h2, h3⟩ := hw.n1
  have fin : ∀ (e : Nat → pE) (u : Nat → Int32) (r : Int32), RingOK nT e ad B u tx → ChB B c e → ∃ f, ((gI (MM nd e) (ad B) 2 10).bind fun x21 => (pI (MM nd e) (ad B) 2 10 (x21 + (1 : Int32))).bind fun m22 => some (r, m22)) = some (r, MM nd f) ∧ RingOK nT f ad B (upd u 4 (u 4 + 1)) tx ∧ ChB B c f := by
    intro e u r hr hq
    obtain ⟨f, p1, r1, q1⟩ := cp_4 (v := u 4 + 1) hL hB hr
    simp only [cg_4 hL hB hr, Option.bind_some, p1]
    exact ⟨f, rfl, r1, hq.tr q1⟩
  unfold fX2_takeTurn
  simp only [cv_R hL hB h, C_stopNow hL hB h hw, Option.bind_some]
  by_cases h0 : 0 < nt (s 1)
  · rw [if_pos h0]
    have hk : stopS s < nt (s 1) := Nat.mod_lt _ h0
    have h10 : stopS s < 10 := by omega
    obtain ⟨⟨kd, k1, k2⟩, -⟩ := hw.sp hk
    simp only [C_inCount hL hB h hw, Option.bind_some, cv_S hL hB h h10, C_isOf hL (KC_sp hB h10) (sp_at h h10 hk) k1 k2, isOf_lot k1 k2]
    have := manyS_le hw
    by_cases hm : 0 < manyS s
    · have hg : goS s = true := by simp [goS, h0, hm]
      rw [if_neg (nI_nle hm (by omega)), turnS_t hg]
      simp only
      by_cases hl : isLotS s (stopS s) = true
      · simp only [if_pos hl]
        obtain ⟨e1, p1, r1, q1⟩ := C_draw hL hB h
        obtain ⟨j, j1, j2⟩ := drwO_in (drwS (s 11))
        have hr : rmI (nI j) 10 = some (nI (j % 10)) := rmI_nI (d := 10) (by omega) (by omega) (by omega)
        simp only [p1, Option.bind_some, j1, hr, nI_clamp (show j < 2 ^ 31 by omega)]
        have hw1 : Wf (upd s 11 (drwS (s 11))) := hw.fr (by omega)
        have hm1 : 0 < manyS (upd s 11 (drwS (s 11))) := by rw [manyS_cg (upd_n (by decide)) (fun c _ => upd_n (by omega))]; exact hm
        obtain ⟨e2, p2, r2, q2⟩ := C_turn1 hL hB r1 hw1 hm1 (k := stopS s) (x := j % 10) (v := nI (j % 10)) rfl (by rw [upd_n (by decide)]; exact hk) (by have := Nat.mod_lt j (show 0 < 10 by decide); omega)
        simp only at p2
        rw [p2]
        simp only [Option.bind_some]
        rw [give_B]
        exact fin e2 _ _ r2 (q1.tr q2)
      · simp only [if_neg hl, Option.bind_some]
        obtain ⟨e2, p2, r2, q2⟩ := C_turn1 hL hB h hw hm (k := stopS s) (x := 0) (v := 0) rfl hk (by omega)
        simp only at p2
        rw [p2]
        simp only [Option.bind_some]
        rw [give_B]
        exact fin e2 _ _ r2 q2
    · have hg : ¬ goS s = true := by simp [goS, hm]
      rw [if_pos (by rw [show manyS s = 0 by omega]; decide), turnS_f hg]
      simp only [Option.bind_some]
      exact fin c s _ h ChB.rf
  · have hg : ¬ goS s = true := by simp [goS, h0]
    rw [if_neg h0, turnS_f hg]
    simp only [Option.bind_some]
    exact fin c s _ h ChB.rf
end CG
