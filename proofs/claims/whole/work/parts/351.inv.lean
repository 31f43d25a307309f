/-! HOW THE TWO STAND TOGETHER -/
def wthS (k v : Int32) : Int32 := if k = 1 then v + 9 else if k = 2 then 99 - v else if k = 3 then 2 * (v + 9) else if k = 4 then 99 - v - 5 else if k = 5 then 4 else v
def objF (ad : Nat → Nat) (a b : Int32) : List Value := [.ref (ad 100), .ref (ad 200), .ref (ad 300), .int a, .ref (ad 400), .ref (ad 410), .ref (ad 440), .ref (ad 490), .int b]
def RDok (c : Nat → pE) (ad : Nat → Nat) (fi : Nat → Int32) (fa : Nat → Nat → Int32) : Prop :=
  (∃ t f u ft ky lv sc, c 400 = .inr (1, [.ref (ad 401), .int (fi 14), .int t, .int f, .int u, .int ft, .int ky, .int lv, .ref (ad 402), .int sc])) ∧
  (∃ g, c 401 = .inl (0, 96, .inl g) ∧ ∀ j, j < nt (fi 14) → g j = fa 13 j ∧ ∃ b, fa 13 j = nI b ∧ b < 256) ∧ (∃ g, c 402 = .inl (0, 96, .inl g)) ∧ ∃ l, fi 14 = nI l ∧ l ≤ 96
def SHok1 (c : Nat → pE) (ad : Nat → Nat) (fa : Nat → Nat → Int32) (k : Nat) : Prop :=
  c (420 + k) = .inr (3, [.int (fa 4 k), .int (fa 5 k), .ref (ad (430 + k))]) ∧ (∃ g, c (430 + k) = .inl (0, 24, .inl g) ∧ ∀ i, i < 24 → g i = fa 6 (24 * k + i)) ∧ (fa 4 k = -1 ∨ fa 4 k = 0 ∨ fa 4 k = 1) ∧ ∃ l, fa 5 k = nI l ∧ l ≤ 24
def SHok (c : Nat → pE) (ad : Nat → Nat) (fa : Nat → Nat → Int32) : Prop :=
  (∃ g, c 410 = .inl (4, 4, rfs g) ∧ ∀ k, k < 4 → g k = some (ad (420 + k))) ∧ ∀ k, k < 4 → SHok1 c ad fa k
def SLok1 (c : Nat → pE) (ad : Nat → Nat) (fa : Nat → Nat → Int32) (k : Nat) : Prop :=
  ∃ kd sc wi so ln nu g, c (450 + k) = .inr (4, [.int (fa 7 k), .ref (ad (460 + k)), .ref (ad (470 + k)), .int nu]) ∧ c (460 + k) = .inr (5, [.int kd, .int sc, .int wi]) ∧ c (470 + k) = .inr (3, [.int so, .int ln, .ref (ad (480 + k))]) ∧ c (480 + k) = .inl (0, 24, .inl g) ∧ (∃ t, fa 7 k = nI t ∧ t ≤ 3) ∧
  (fa 7 k = 1 → (∃ h, kd = nI h ∧ h ≤ 5) ∧ fa 8 k = kd ∧ fa 9 k = wthS kd sc) ∧ (fa 7 k = 2 → fa 10 k = ln ∧ (∃ l, ln = nI l ∧ l ≤ 24) ∧ ∀ i, i < 24 → g i = fa 11 (24 * k + i)) ∧ (fa 7 k = 3 → fa 8 k = nu)
def SLok (c : Nat → pE) (ad : Nat → Nat) (fa : Nat → Nat → Int32) : Prop :=
  (∃ g, c 440 = .inl (5, 5, rfs g) ∧ ∀ k, k < 5 → g k = some (ad (450 + k))) ∧ ∀ k, k < 5 → SLok1 c ad fa k
def WTok (c : Nat → pE) (fi : Nat → Int32) (fa : Nat → Nat → Int32) : Prop :=
  (∃ g, c 490 = .inl (0, 60, .inl g) ∧ ∀ j, j < nt (fi 29) → g j = fa 28 j) ∧ ∃ w, fi 29 = nI w ∧ w ≤ 60
def Rest (c : Nat → pE) (ad : Nat → Nat) (fi : Nat → Int32) (fa : Nat → Nat → Int32) : Prop :=
  c 0 = .inr (7, objF ad (fi 3) (fi 29)) ∧ RDok c ad fi fa ∧ SHok c ad fa ∧ SLok c ad fa ∧ WTok c fi fa
def NowOK (nT : Nat) (c : Nat → pE) (ad : Nat → Nat) (fa : Nat → Nat → Int32) : Prop := ∃ tx, RingOK nT c ad 100 (fa 0) tx ∧ Wf (fa 0) ∧ nt (fa 0 4) ≤ 9999
def ThtOK (nT : Nat) (c : Nat → pE) (ad : Nat → Nat) : Prop := ∃ s tx, RingOK nT c ad 200 s tx
def ImgOK (nT : Nat) (c : Nat → pE) (ad : Nat → Nat) (fi : Nat → Int32) (fa : Nat → Nat → Int32) : Prop := ∃ s tx, RingOK nT c ad 300 s tx ∧ (fi 3 = 0 ∨ (fi 3 = 1 ∧ s = fa 1 ∧ Wf s ∧ nt (s 4) ≤ 9999))
def Inv (nT : Nat) (c : Nat → pE) (ad : Nat → Nat) (fi : Nat → Int32) (fa : Nat → Nat → Int32) : Prop := Rest c ad fi fa ∧ NowOK nT c ad fa ∧ ThtOK nT c ad ∧ ImgOK nT c ad fi fa
/-- what the two share stands: all but the row 0 and scratch -/
def SX (fa fb : Nat → Nat → Int32) : Prop := ∀ k, k = 1 ∨ (4 ≤ k ∧ k ≤ 11) ∨ k = 13 ∨ k = 28 → fb k = fa k
theorem SX.rf {fa : Nat → Nat → Int32} : SX fa fa := fun _ _ => rfl
theorem SX.tr {fa fb fc : Nat → Nat → Int32} (h : SX fa fb) (h2 : SX fb fc) : SX fa fc := fun k hk => (h2 k hk).trans (h k hk)
theorem SX.sc {fa fb : Nat → Nat → Int32} (h : Sc fa fb) : SX fa fb := fun k hk => h k (by omega) (by omega)
theorem SX.up {fa : Nat → Nat → Int32} {k : Nat} {g : Nat → Int32} (hk : k = 0 ∨ k = 2 ∨ k = 12 ∨ k = 27 ∨ k = 30) : SX fa (upF fa k g) := fun j hj => upF_n (by omega)
theorem RDok.cg {c e : Nat → pE} {ad : Nat → Nat} {fi : Nat → Int32} {fa fb : Nat → Nat → Int32} (hc : ∀ k, 400 ≤ k ∧ k < 1000 → e k = c k) (h13 : fb 13 = fa 13) (h : RDok c ad fi fa) : RDok e ad fi fb := by
  unfold RDok
  rw [hc 400 (by omega), hc 401 (by omega), hc 402 (by omega), h13]
  exact h
theorem SHok.cg {c e : Nat → pE} {ad : Nat → Nat} {fa fb : Nat → Nat → Int32} (hc : ∀ k, 400 ≤ k ∧ k < 1000 → e k = c k) (h4 : fb 4 = fa 4) (h5 : fb 5 = fa 5) (h6 : fb 6 = fa 6) (h : SHok c ad fa) : SHok e ad fb := by
  refine ⟨by rw [hc 410 (by omega)]; exact h.1, fun k hk => ?_⟩
  unfold SHok1
  rw [hc _ (by omega), hc _ (by omega), h4, h5, h6]
  exact h.2 k hk
theorem SLok.cg {c e : Nat → pE} {ad : Nat → Nat} {fa fb : Nat → Nat → Int32} (hc : ∀ k, 400 ≤ k ∧ k < 1000 → e k = c k) (h7 : fb 7 = fa 7) (h8 : fb 8 = fa 8) (h9 : fb 9 = fa 9) (h10 : fb 10 = fa 10) (h11 : fb 11 = fa 11) (h : SLok c ad fa) : SLok e ad fb := by
  refine ⟨by rw [hc 440 (by omega)]; exact h.1, fun k hk => ?_⟩
  unfold SLok1
  rw [hc (450 + k) (by omega), hc (460 + k) (by omega), hc (470 + k) (by omega), hc (480 + k) (by omega), h7, h8, h9, h10, h11]
  exact h.2 k hk
theorem WTok.cg {c e : Nat → pE} {fi : Nat → Int32} {fa fb : Nat → Nat → Int32} (hc : ∀ k, 400 ≤ k ∧ k < 1000 → e k = c k) (h28 : fb 28 = fa 28) (h : WTok c fi fa) : WTok e fi fb := by
  unfold WTok
  rw [hc 490 (by omega), h28]
  exact h
theorem Rest.cg {c e : Nat → pE} {ad : Nat → Nat} {fi : Nat → Int32} {fa fb : Nat → Nat → Int32} (hc : ∀ k, k = 0 ∨ (400 ≤ k ∧ k < 1000) → e k = c k) (hx : SX fa fb) (h : Rest c ad fi fa) : Rest e ad fi fb := by
  have hc' : ∀ k, 400 ≤ k ∧ k < 1000 → e k = c k := fun k hk => hc k (Or.inr hk)
  exact ⟨(hc 0 (Or.inl rfl)).trans h.1, h.2.1.cg hc' (hx 13 (by omega)), h.2.2.1.cg hc' (hx 4 (by omega)) (hx 5 (by omega)) (hx 6 (by omega)), h.2.2.2.1.cg hc' (hx 7 (by omega)) (hx 8 (by omega)) (hx 9 (by omega)) (hx 10 (by omega)) (hx 11 (by omega)), h.2.2.2.2.cg hc' (hx 28 (by omega))⟩
theorem ChB.rest {B : Nat} {c e : Nat → pE} (hB : isB B) (h : ChB B c e) : ∀ k, k = 0 ∨ (400 ≤ k ∧ k < 1000) → e k = c k := fun k hk => h.n (by unfold isScr; omega) (by unfold ownB; unfold isB at hB; omega)
section IV
variable {nT : Nat} {c e : Nat → pE} {ad : Nat → Nat} {fi : Nat → Int32} {fa fb : Nat → Nat → Int32}
/-- now has become another -/
theorem Inv.now (h : Inv nT c ad fi fa) (hq : ChB 100 c e) {tx : Nat → Nat} (hr : RingOK nT e ad 100 (fb 0) tx) (hw : Wf (fb 0)) (h4 : nt (fb 0 4) ≤ 9999) (hx : SX fa fb) : Inv nT e ad fi fb := by
  obtain ⟨h1, -, ⟨s2, t2, h3⟩, s3, t3, h5, h6⟩ := h
  refine ⟨h1.cg (hq.rest (Or.inl rfl)) hx, ⟨tx, hr, hw, h4⟩, ⟨s2, t2, RingOK.other (Or.inl rfl) (Or.inr (Or.inl rfl)) (by decide) hq h3⟩, s3, t3, RingOK.other (Or.inl rfl) (Or.inr (Or.inr rfl)) (by decide) hq h5, ?_⟩
  rw [hx 1 (Or.inl rfl)]
  exact h6
/-- only what is thought has changed -/
theorem Inv.tht (h : Inv nT c ad fi fa) (hq : ChB 200 c e) {u : Nat → Int32} {tx : Nat → Nat} (hr : RingOK nT e ad 200 u tx) (h0 : fb 0 = fa 0) (hx : SX fa fb) : Inv nT e ad fi fb := by
  obtain ⟨h1, ⟨t1, h2, h2', h2''⟩, -, s3, t3, h5, h6⟩ := h
  refine ⟨h1.cg (hq.rest (Or.inr (Or.inl rfl))) hx, ⟨t1, by rw [h0]; exact RingOK.other (Or.inr (Or.inl rfl)) (Or.inl rfl) (by decide) hq h2, by rw [h0]; exact h2', by rw [h0]; exact h2''⟩, ⟨u, tx, hr⟩, s3, t3, RingOK.other (Or.inr (Or.inl rfl)) (Or.inr (Or.inr rfl)) (by decide) hq h5, ?_⟩
  rw [hx 1 (Or.inl rfl)]
  exact h6
/-- only scratch has changed -/
theorem Inv.scr (h : Inv nT c ad fi fa) (hq : ScC c e) (h0 : fb 0 = fa 0) (hx : SX fa fb) : Inv nT e ad fi fb := by
  obtain ⟨t1, h2, h2', h2''⟩ := h.2.1
  exact h.now (ChB.sc hq) (by rw [h0]; exact h2.sc (Or.inl rfl) hq) (by rw [h0]; exact h2') (by rw [h0]; exact h2'') hx
end IV
theorem bt {a b : Nat} {x : Int32} (h : nI a ≤ x ∧ x ≤ nI b) (hb : b < 2 ^ 31) (ha : a < 2 ^ 31) : ∃ i, x = nI i ∧ a ≤ i ∧ i ≤ b := by
  obtain ⟨j, j1, j2⟩ := nI_of (Int32.not_lt.mpr (Int32.le_trans (nI_pos' ha) h.1))
  subst j2
  rw [nI_leI ha j1, nI_leI j1 hb] at h
  exact ⟨j, rfl, h.1, h.2⟩
theorem bt_pred {n : Nat} {x : Int32} (h : 0 ≤ x ∧ x ≤ nI n - 1) (hn : n < 2 ^ 31) : ∃ i, x = nI i ∧ i < n := by
  rcases Nat.eq_zero_or_pos n with e | e
  · subst e
    exact absurd (Int32.le_trans h.1 h.2) (by decide)
  · rw [show nI n - 1 = nI (n - 1) from pk_sub (b := 1) (by omega)] at h
    obtain ⟨i, h1, -, h3⟩ := bt (a := 0) h (by omega) (by omega)
    exact ⟨i, h1, by omega⟩
theorem pred_bt {n i : Nat} (hi : i < n) (hn : n < 2 ^ 31) : 0 ≤ nI i ∧ nI i ≤ nI n - 1 := by
  rw [show nI n - 1 = nI (n - 1) from pk_sub (b := 1) (by omega)]
  exact ⟨nI_pos' (by omega), nI_le (by omega) (by omega)⟩
/-- is this number a child: the class's question and the reference's -/
def chQ (s : Nat → Int32) (x : Int32) : Bool := decide (0 ≤ x ∧ x < s 0)
theorem chQ_le {s : Nat → Int32} (hw : Wf s) (x : Int32) : decide (0 ≤ x ∧ x ≤ s 0 - 1) = chQ s x := by
  obtain ⟨n, h1, h2, h3⟩ := hw.n0
  unfold chQ
  rw [h1]
  by_cases h : 0 ≤ x
  · obtain ⟨j, j1, j2⟩ := nI_of (Int32.not_lt.mpr h)
    subst j2
    congr 1
    apply propext
    rcases Nat.eq_zero_or_pos n with e | e
    · subst e
      exact ⟨fun z => absurd (Int32.le_trans z.1 z.2) (by decide), fun z => absurd z.2 (nI_pos j1)⟩
    · rw [show nI n - 1 = nI (n - 1) from pk_sub (b := 1) (by omega), nI_leI j1 (by omega), nI_ltI j1 (by omega)]
      exact ⟨fun z => ⟨z.1, by omega⟩, fun z => ⟨z.1, by omega⟩⟩
  · rw [decide_eq_false (fun z => h z.1), decide_eq_false (fun z => h z.1)]
theorem chQ_t {s : Nat → Int32} (hw : Wf s) {x : Int32} (h : chQ s x = true) : ∃ i, x = nI i ∧ i < nt (s 0) ∧ i < 10 := by
  obtain ⟨n, h1, h2, h3⟩ := hw.n0
  rw [← chQ_le hw, decide_eq_true_eq, h1] at h
  obtain ⟨i, e1, e2⟩ := bt_pred h (by omega)
  exact ⟨i, e1, by omega, by omega⟩
def spQ (s : Nat → Int32) (x : Int32) : Bool := decide (0 ≤ x ∧ x ≤ s 1 - 1)
theorem spQ_t {s : Nat → Int32} (hw : Wf s) {x : Int32} (h : spQ s x = true) : ∃ i, x = nI i ∧ i < nt (s 1) ∧ i < 10 := by
  obtain ⟨n, h1, h2, h3⟩ := hw.n1
  unfold spQ at h
  rw [decide_eq_true_eq, h1] at h
  obtain ⟨i, e1, e2⟩ := bt_pred h (by omega)
  exact ⟨i, e1, by omega, by omega⟩
section IW
variable {nT : Nat} {nd nd2 : Nat → Option Nat} {c : Nat → pE} {ad ad2 : Nat → Nat} {fi : Nat → Int32} {fa : Nat → Nat → Int32}
theorem KC_0 {nT : Nat} : KC nT 0 := Or.inl rfl
theorem o_n (hL : Lay nd ad (KC nT)) (h : Rest c ad fi fa) : gR (MM nd c) (ad 0) 7 0 = some (ad 100) := gR_MM hL KC_0 h.1 rfl
theorem o_t (hL : Lay nd ad (KC nT)) (h : Rest c ad fi fa) : gR (MM nd c) (ad 0) 7 1 = some (ad 200) := gR_MM hL KC_0 h.1 rfl
theorem o_i (hL : Lay nd ad (KC nT)) (h : Rest c ad fi fa) : gR (MM nd c) (ad 0) 7 2 = some (ad 300) := gR_MM hL KC_0 h.1 rfl
theorem o_k (hL : Lay nd ad (KC nT)) (h : Rest c ad fi fa) : gI (MM nd c) (ad 0) 7 3 = some (fi 3) := gI_MM hL KC_0 h.1 rfl
theorem o_r (hL : Lay nd ad (KC nT)) (h : Rest c ad fi fa) : gR (MM nd c) (ad 0) 7 4 = some (ad 400) := gR_MM hL KC_0 h.1 rfl
theorem o_sh (hL : Lay nd ad (KC nT)) (h : Rest c ad fi fa) : gR (MM nd c) (ad 0) 7 5 = some (ad 410) := gR_MM hL KC_0 h.1 rfl
theorem o_sl (hL : Lay nd ad (KC nT)) (h : Rest c ad fi fa) : gR (MM nd c) (ad 0) 7 6 = some (ad 440) := gR_MM hL KC_0 h.1 rfl
theorem o_w (hL : Lay nd ad (KC nT)) (h : Rest c ad fi fa) : gR (MM nd c) (ad 0) 7 7 = some (ad 490) := gR_MM hL KC_0 h.1 rfl
theorem o_ws (hL : Lay nd ad (KC nT)) (h : Rest c ad fi fa) : gI (MM nd c) (ad 0) 7 8 = some (fi 29) := gI_MM hL KC_0 h.1 rfl
theorem o_cv (hL : Lay nd ad (KC nT)) (h : Rest c ad fi fa) {α : Type} {x : Option α} : cV (MM nd c) (ad 0) 7 x = x := cV_MM hL KC_0 h.1
theorem R_isC (hL : Lay nd ad KR) (hw : Wf (fa 0)) (x : Int32) : fX8_isChild (ad 31) x (MR nd ad fi fa) = some (chQ (fa 0) x) := by rw [R_isChild hL, chQ_le hw]
theorem R_isS (hL : Lay nd ad KR) (x : Int32) : fX8_isStop (ad 31) x (MR nd ad fi fa) = some (spQ (fa 0) x) := R_isStop hL x
theorem C_isStop {B : Nat} {tx : Nat → Nat} {s : Nat → Int32} (hL : Lay nd ad (KC nT)) (hB : isB B) (h : RingOK nT c ad B s tx) (x : Int32) : fX2_isStop (ad B) x (MM nd c) = some (spQ s x) := by
  unfold fX2_isStop
  simp only [cg_sn hL hB h, Option.bind_some, C_within]
  rfl
theorem R_becomes (hL : Lay nd ad KR) {j : Nat} {x v : Int32} (hx : x = nI j) (hj : j < 3092) : fX8_becomes (ad 31) x v (MR nd ad fi fa) = some (fa 0 j, MR nd ad fi (upF fa 0 (upd (fa 0) j v))) := by
  subst hx
  unfold fX8_becomes
  simp only [rg0 hL, rl0 hL hj, rs0 hL hj, Option.bind_some]
/-- the class and the reference answer alike, and stand together again -/
def Sim (nT : Nat) (nd nd2 : Nat → Option Nat) (ad ad2 : Nat → Nat) (c : Nat → pE) (fi : Nat → Int32) (fa : Nat → Nat → Int32) (X Y : Mem → Option (Int32 × Mem)) : Prop :=
  ∃ r e fj fb, X (MM nd c) = some (r, MM nd e) ∧ Y (MR nd2 ad2 fi fa) = some (r, MR nd2 ad2 fj fb) ∧ Inv nT e ad fj fb
theorem Sim.same {X Y : Mem → Option (Int32 × Mem)} {r : Int32} (h : Inv nT c ad fi fa) (hx : X (MM nd c) = some (r, MM nd c)) (hy : Y (MR nd2 ad2 fi fa) = some (r, MR nd2 ad2 fi fa)) : Sim nT nd nd2 ad ad2 c fi fa X Y := ⟨r, c, fi, fa, hx, hy, h⟩
theorem Sim.now {X Y : Mem → Option (Int32 × Mem)} {r : Int32} {e : Nat → pE} {fb : Nat → Nat → Int32} {u : Nat → Int32} {tx : Nat → Nat} (h : Inv nT c ad fi fa) (hx : X (MM nd c) = some (r, MM nd e)) (hy : Y (MR nd2 ad2 fi fa) = some (r, MR nd2 ad2 fi fb)) (hq : ChB 100 c e) (hr : RingOK nT e ad 100 u tx) (hu : fb 0 = u) (hw : Wf u) (h4 : nt (u 4) ≤ 9999) (hX : SX fa fb) : Sim nT nd nd2 ad ad2 c fi fa X Y := ⟨r, e, fi, fb, hx, hy, h.now hq (hu ▸ hr) (hu ▸ hw) (hu ▸ h4) hX⟩
theorem Sim.tht {X Y : Mem → Option (Int32 × Mem)} {r : Int32} {e : Nat → pE} {fb : Nat → Nat → Int32} {u : Nat → Int32} {tx : Nat → Nat} (h : Inv nT c ad fi fa) (hx : X (MM nd c) = some (r, MM nd e)) (hy : Y (MR nd2 ad2 fi fa) = some (r, MR nd2 ad2 fi fb)) (hq : ChB 200 c e) (hr : RingOK nT e ad 200 u tx) (h0 : fb 0 = fa 0) (hX : SX fa fb) : Sim nT nd nd2 ad ad2 c fi fa X Y := ⟨r, e, fi, fb, hx, hy, h.tht hq hr h0 hX⟩
theorem Sim.scr {X Y : Mem → Option (Int32 × Mem)} {r : Int32} {e : Nat → pE} {fb : Nat → Nat → Int32} (h : Inv nT c ad fi fa) (hx : X (MM nd c) = some (r, MM nd e)) (hy : Y (MR nd2 ad2 fi fa) = some (r, MR nd2 ad2 fi fb)) (hq : ScC c e) (h0 : fb 0 = fa 0) (hX : SX fa fb) : Sim nT nd nd2 ad ad2 c fi fa X Y := ⟨r, e, fi, fb, hx, hy, h.scr hq h0 hX⟩
theorem Inv.n (h : Inv nT c ad fi fa) : ∃ tx, RingOK nT c ad 100 (fa 0) tx ∧ Wf (fa 0) ∧ nt (fa 0 4) ≤ 9999 := h.2.1
end IW
abbrev B1 : isB 100 := Or.inl rfl
abbrev B2' : isB 200 := Or.inr (Or.inl rfl)
abbrev B3 : isB 300 := Or.inr (Or.inr rfl)
