/-! many turns; spread; become -/
def itT : Nat → (Nat → Int32) → Nat → Int32
  | 0, s => s
  | n + 1, s => (turnS (itT n s)).2
def lsT : Nat → (Nat → Int32) → Int32
  | 0, _ => -1
  | n + 1, s => (turnS (itT n s)).1
theorem itT_s (n : Nat) (s : Nat → Int32) : itT (n + 1) s = (turnS (itT n s)).2 := rfl
theorem lsT_s (n : Nat) (s : Nat → Int32) : lsT (n + 1) s = (turnS (itT n s)).1 := rfl
theorem itT_ok {s : Nat → Int32} (hw : Wf s) : ∀ {n : Nat}, nt (s 4) + n < 2 ^ 30 → Wf (itT n s) ∧ itT n s 4 = nI (nt (s 4) + n) ∧ ∀ j, j < 4 ∨ j = 7 ∨ 42 ≤ j → itT n s j = s j := by
  intro n
  induction n with
  | zero =>
    intro _
    obtain ⟨k, k1, k2, k3⟩ := hw.n4
    exact ⟨hw, by rw [k3]; exact k1, fun _ _ => rfl⟩
  | succ n ih =>
    intro h
    obtain ⟨w, h4, hj⟩ := ih (by omega)
    rw [itT_s]
    have e4 : nt (itT n s 4) = nt (s 4) + n := by rw [h4]; exact nt_nI (by omega)
    refine ⟨w.turn (by omega), ?_, fun j h => (turnS_n w h).trans (hj j h)⟩
    rw [turnS_4 w, h4, nI_1]
    rfl
def mnF (s : Nat → Int32) : Nat → Int32
  | 0 => 99
  | k + 1 => if mnF s k ≤ s (13 + 3 * k) then mnF s k else s (13 + 3 * k)
def mxF (s : Nat → Int32) : Nat → Int32
  | 0 => 0
  | k + 1 => if s (13 + 3 * k) ≤ mxF s k then mxF s k else s (13 + 3 * k)
def sprS (s : Nat → Int32) : Int32 := if s 0 = 0 then 0 else mxF s (nt (s 0)) - mnF s (nt (s 0))
def wtF (s : Nat → Int32) : Nat → Nat
  | 0 => 0
  | k + 1 => wtF s k + if s (13 + 3 * k) = 0 then 1 else 0
def wtS (s : Nat → Int32) : Nat := wtF s (nt (s 0))
theorem mnF_s (s : Nat → Int32) (k : Nat) : mnF s (k + 1) = if mnF s k ≤ s (13 + 3 * k) then mnF s k else s (13 + 3 * k) := rfl
theorem mxF_s (s : Nat → Int32) (k : Nat) : mxF s (k + 1) = if s (13 + 3 * k) ≤ mxF s k then mxF s k else s (13 + 3 * k) := rfl
theorem wtF_s (s : Nat → Int32) (k : Nat) : wtF s (k + 1) = wtF s k + if s (13 + 3 * k) = 0 then 1 else 0 := rfl
theorem min_le (x y : Int32) (m : Mem) : fJ9_min_7cf53 x y m = some (if x ≤ y then x else y) := by
  unfold fJ9_min_7cf53
  by_cases h : y < x
  · rw [if_pos h, if_neg (Int32.not_le.mpr h)]
  · rw [if_neg h, if_pos (Int32.not_lt.mp h)]
theorem max_le (x y : Int32) (m : Mem) : fJ9_max_7cf53 x y m = some (if y ≤ x then x else y) := by
  unfold fJ9_max_7cf53
  by_cases h : x < y
  · rw [if_pos h, if_neg (Int32.not_le.mpr h)]
  · rw [if_neg h, if_pos (Int32.not_lt.mp h)]
/-- the stops made evenings -/
def kdS (s : Nat → Int32) : Nat → Nat → Int32
  | 0 => s
  | k + 1 => upd (kdS s k) (42 + 3 * k) 2
def scS (s : Nat → Int32) (v : Int32) : Nat → Nat → Int32
  | 0 => s
  | k + 1 => upd (scS s v k) (43 + 3 * k) v
theorem kdS_n {s : Nat → Int32} {j : Nat} : ∀ {k : Nat}, (∀ i, i < k → j ≠ 42 + 3 * i) → kdS s k j = s j := by
  intro k
  induction k with
  | zero => intro _; rfl
  | succ k ih => intro h; exact (upd_n (h k (by omega))).trans (ih (fun i hi => h i (by omega)))
theorem scS_n {s : Nat → Int32} {v : Int32} {j : Nat} : ∀ {k : Nat}, (∀ i, i < k → j ≠ 43 + 3 * i) → scS s v k j = s j := by
  intro k
  induction k with
  | zero => intro _; rfl
  | succ k ih => intro h; exact (upd_n (h k (by omega))).trans (ih (fun i hi => h i (by omega)))
theorem Wf.spu {s : Nat → Int32} (hw : Wf s) {i f : Nat} {v : Int32} (hf : f < 3) (hi : i < 10) (h0 : f = 0 → ∃ h, v = nI h ∧ h ≤ 5) (h1 : f = 1 → ∃ h, v = nI h ∧ h ≤ 99) (h2 : f = 2 → ∃ h, v = nI h ∧ h ≤ 9) : Wf (upd s (42 + f + 3 * i) v) := by
  obtain ⟨a0, a1, a2, a3, a4, a5, a6, a7, a8, a9, a10, a11⟩ := hw
  refine ⟨by rw [upd_n (by omega)]; exact a0, by rw [upd_n (by omega)]; exact a1, by rw [upd_n (by omega)]; exact a2, by rw [upd_n (by omega)]; exact a3, by rw [upd_n (by omega)]; exact a4, by rw [upd_n (by omega)]; exact a5, by rw [upd_n (by omega), upd_n (by omega)]; exact a6, by rw [upd_n (by omega)]; exact a7, ?_, ?_, ?_, ?_⟩
  · rw [upd_n (by omega)]
    intro c hc
    have : c < 10 := by obtain ⟨n, e1, e2⟩ := a0; rw [e1, nt_nI (by omega)] at hc; omega
    rw [upd_n (by omega), upd_n (by omega), upd_n (by omega)]
    exact a8 c hc
  · rw [upd_n (by omega)]
    intro k hk
    obtain ⟨b0, b1, b2⟩ := a9 k hk
    by_cases e : k = i
    · subst e
      rcases (show f = 0 ∨ f = 1 ∨ f = 2 by omega) with e | e | e <;> subst e
      · rw [show 42 + 0 + 3 * k = 42 + 3 * k by omega, upd_s, upd_n (by omega), upd_n (by omega)]; exact ⟨h0 rfl, b1, b2⟩
      · rw [show 42 + 1 + 3 * k = 43 + 3 * k by omega, upd_s, upd_n (by omega), upd_n (by omega)]; exact ⟨b0, h1 rfl, b2⟩
      · rw [show 42 + 2 + 3 * k = 44 + 3 * k by omega, upd_s, upd_n (by omega), upd_n (by omega)]; exact ⟨b0, b1, h2 rfl⟩
    · rw [upd_n (by omega), upd_n (by omega), upd_n (by omega)]; exact ⟨b0, b1, b2⟩
  · rw [upd_n (by omega)]
    intro p hp
    rw [upd_n (by omega)]
    exact a10 p hp
  · rw [upd_n (by omega)]
    intro t ht
    exact TxOK_cg (fun j hj => upd_n (by omega)) (a11 t ht)
theorem Wf.kd {s : Nat → Int32} (hw : Wf s) : ∀ {k : Nat}, k ≤ 10 → Wf (kdS s k) := by
  intro k
  induction k with
  | zero => intro _; exact hw
  | succ k ih => intro h; exact Wf.spu (f := 0) (ih (by omega)) (by omega) (by omega) (fun _ => ⟨2, rfl, by omega⟩) (fun z => by cases z) (fun z => by cases z)
theorem Wf.scd {s : Nat → Int32} (hw : Wf s) {x : Nat} (hx : x ≤ 99) : ∀ {k : Nat}, k ≤ 10 → Wf (scS s (nI x) k) := by
  intro k
  induction k with
  | zero => intro _; exact hw
  | succ k ih => intro h; exact Wf.spu (f := 1) (ih (by omega)) (by omega) (by omega) (fun z => by cases z) (fun _ => ⟨x, rfl, hx⟩) (fun z => by cases z)
section CK
variable {nT B : Nat} {nd : Nat → Option Nat} {c : Nat → pE} {ad tx : Nat → Nat} {s : Nat → Int32}
theorem C_takeTurns (hL : Lay nd ad (KC nT)) (hB : isB B) (h : RingOK nT c ad B s tx) (hw : Wf s) {n : Nat} (hn : n < 5000) (h4 : nt (s 4) + n < 2 ^ 30) : ∃ e, fX2_takeTurns (ad B) (nI n) (MM nd c) = some (lsT n s, MM nd e) ∧ RingOK nT e ad B (itT n s) tx ∧ ChB B c e := by
  obtain ⟨r, h1, e, rfl, h2, h3⟩ := loop_rel (b := fX2_takeTurns_b0 (ad B) (nI n)) (s := ((-1 : Int32), (0 : Int32), MM nd c))
    (fun i st => ∃ e, st = (lsT i s, nI i, MM nd e) ∧ RingOK nT e ad B (itT i s) tx ∧ ChB B c e)
    (fun r => ∃ e, r = (lsT n s, MM nd e) ∧ RingOK nT e ad B (itT n s) tx ∧ ChB B c e) n hn ⟨c, rfl, h, ChB.rf⟩ (by
      rintro i st hi ⟨e, rfl, hr, hq⟩
      obtain ⟨w, -, -⟩ := itT_ok hw (n := i) (by omega)
      obtain ⟨e2, p2, r2, q2⟩ := C_takeTurn hL hB hr w
      simp only [fX2_takeTurns_b0, if_neg (nI_ge hi (show n < 2 ^ 31 by omega)), cv_R hL hB hr, p2, Option.bind_some, ixp1]
      exact ⟨_, rfl, e2, rfl, r2, hq.tr q2⟩)
    (by
      rintro st ⟨e, rfl, hr, hq⟩
      simp only [fX2_takeTurns_b0, if_pos (nI_le (Nat.le_refl n) (show n < 2 ^ 31 by omega))]
      exact ⟨_, rfl, e, rfl, hr, hq⟩)
  unfold fX2_takeTurns
  rw [h1]
  exact ⟨e, rfl, h2, h3⟩
theorem C_spread (hL : Lay nd ad (KC nT)) (hB : isB B) (h : RingOK nT c ad B s tx) (hw : Wf s) : fX2_spread (ad B) (MM nd c) = some (sprS s) := by
  obtain ⟨n, h1, h2, h3⟩ := hw.n0
  have e : loopF (fX2_spread_b0 (ad B) (MM nd c)) bigN ((99 : Int32), (0 : Int32), (0 : Int32)) = some (mnF s n, mxF s n) := by
    refine loop_for (fun i => (mnF s i, mxF s i, nI i)) n _ (by omega) ?_ ?_
    · intro i hi
      simp only [fX2_spread_b0, cg_n hL hB h, cr_1 hL hB h, Option.bind_some, h1, cl_ch hL hB h (show i < 10 by omega), cc_1 hL hB h (show i < 10 by omega) (by omega), ixp1, min_le, max_le]
      rw [if_neg (nI_ge hi (by omega)), mnF_s, mxF_s]
    · simp only [fX2_spread_b0, cg_n hL hB h, Option.bind_some, h1]
      rw [if_pos (nI_le (Nat.le_refl _) (by omega))]
  unfold fX2_spread sprS
  rw [e, h3]
  simp only [cg_n hL hB h, Option.bind_some]
  split <;> rfl
theorem C_hadNone (hL : Lay nd ad (KC nT)) (hB : isB B) (h : RingOK nT c ad B s tx) (hw : Wf s) : fX2_hadNone (ad B) (MM nd c) = some (nI (wtS s)) := by
  obtain ⟨n, h1, h2, h3⟩ := hw.n0
  have e : loopF (fX2_hadNone_b0 (ad B) (MM nd c)) bigN ((0 : Int32), (0 : Int32)) = some (nI (wtF s n)) := by
    refine loop_for (fun i => (nI (wtF s i), nI i)) n _ (by omega) ?_ ?_
    · intro i hi
      simp only [fX2_hadNone_b0, cg_n hL hB h, cr_1 hL hB h, Option.bind_some, h1, cl_ch hL hB h (show i < 10 by omega), cc_1 hL hB h (show i < 10 by omega) (by omega), ixp1, ite_some]
      rw [if_neg (nI_ge hi (by omega)), wtF_s]
      split <;> rfl
    · simp only [fX2_hadNone_b0, cg_n hL hB h, Option.bind_some, h1]
      rw [if_pos (nI_le (Nat.le_refl _) (by omega))]
  unfold fX2_hadNone wtS
  rw [e, h3]
  rfl
theorem C_makeEvenings (hL : Lay nd ad (KC nT)) (hB : isB B) (h : RingOK nT c ad B s tx) (hw : Wf s) : ∃ e, fX2_makeEvenings (ad B) (MM nd c) = some (MM nd e) ∧ RingOK nT e ad B (kdS s (nt (s 1))) tx ∧ ChB B c e := by
  obtain ⟨n, h1, h2, h3⟩ := hw.n1
  obtain ⟨r, p1, e, rfl, p2, p3⟩ := loop_rel (b := fX2_makeEvenings_b0 (ad B)) (s := ((0 : Int32), MM nd c))
    (fun i st => ∃ e, st = (nI i, MM nd e) ∧ RingOK nT e ad B (kdS s i) tx ∧ ChB B c e)
    (fun r => ∃ e, r = MM nd e ∧ RingOK nT e ad B (kdS s n) tx ∧ ChB B c e) n (by omega) ⟨c, rfl, h, ChB.rf⟩ (by
      rintro i st hi ⟨e, rfl, hr, hq⟩
      have k1 : kdS s i 1 = nI n := (kdS_n (fun j hj => by omega)).trans h1
      obtain ⟨e2, q1, q2, q3⟩ := cp_p (f := 0) (v := 2) hL hB hr (show i < 10 by omega) (by rw [k1, nt_nI (by omega)]; exact hi) (by omega)
      simp only [fX2_makeEvenings_b0, cg_sn hL hB hr, cr_3 hL hB hr, Option.bind_some, k1, if_neg (nI_ge hi (show n < 2 ^ 31 by omega)), cl_sp hL hB hr (show i < 10 by omega), q1, ixp1]
      exact ⟨_, rfl, e2, rfl, q2, hq.tr q3⟩)
    (by
      rintro st ⟨e, rfl, hr, hq⟩
      have k1 : kdS s n 1 = nI n := (kdS_n (fun j hj => by omega)).trans h1
      simp only [fX2_makeEvenings_b0, cg_sn hL hB hr, Option.bind_some, k1, if_pos (nI_le (Nat.le_refl n) (show n < 2 ^ 31 by omega))]
      exact ⟨_, rfl, e, rfl, hr, hq⟩)
  unfold fX2_makeEvenings
  rw [p1, h3]
  exact ⟨e, rfl, p2, p3⟩
theorem C_makeSeconds (hL : Lay nd ad (KC nT)) (hB : isB B) (h : RingOK nT c ad B s tx) (hw : Wf s) (v : Int32) : ∃ e, fX2_makeSeconds (ad B) v (MM nd c) = some (MM nd e) ∧ RingOK nT e ad B (scS s v (nt (s 1))) tx ∧ ChB B c e := by
  obtain ⟨n, h1, h2, h3⟩ := hw.n1
  obtain ⟨r, p1, e, rfl, p2, p3⟩ := loop_rel (b := fX2_makeSeconds_b0 (ad B) v) (s := ((0 : Int32), MM nd c))
    (fun i st => ∃ e, st = (nI i, MM nd e) ∧ RingOK nT e ad B (scS s v i) tx ∧ ChB B c e)
    (fun r => ∃ e, r = MM nd e ∧ RingOK nT e ad B (scS s v n) tx ∧ ChB B c e) n (by omega) ⟨c, rfl, h, ChB.rf⟩ (by
      rintro i st hi ⟨e, rfl, hr, hq⟩
      have k1 : scS s v i 1 = nI n := (scS_n (fun j hj => by omega)).trans h1
      obtain ⟨e2, q1, q2, q3⟩ := cp_p (f := 1) (v := v) hL hB hr (show i < 10 by omega) (by rw [k1, nt_nI (by omega)]; exact hi) (by omega)
      simp only [fX2_makeSeconds_b0, cg_sn hL hB hr, cr_3 hL hB hr, Option.bind_some, k1, if_neg (nI_ge hi (show n < 2 ^ 31 by omega)), cl_sp hL hB hr (show i < 10 by omega), q1, ixp1]
      exact ⟨_, rfl, e2, rfl, q2, hq.tr q3⟩)
    (by
      rintro st ⟨e, rfl, hr, hq⟩
      have k1 : scS s v n 1 = nI n := (scS_n (fun j hj => by omega)).trans h1
      simp only [fX2_makeSeconds_b0, cg_sn hL hB hr, Option.bind_some, k1, if_pos (nI_le (Nat.le_refl n) (show n < 2 ^ 31 by omega))]
      exact ⟨_, rfl, e, rfl, hr, hq⟩)
  unfold fX2_makeSeconds
  rw [p1, h3]
  exact ⟨e, rfl, p2, p3⟩
end CK
