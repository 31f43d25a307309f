/-! THE SPEC, over the reference's row s of numbers -/
def onS (s : Nat → Int32) (c i : Nat) : Nat := if s 5 = 1 then (c + i) % nt (s 0) else (c + nt (s 0) - i % nt (s 0)) % nt (s 0)
def inS (s : Nat → Int32) (c : Nat) : Bool := decide (s (14 + 3 * c) = 0)
def cntS (s : Nat → Int32) : Nat → Nat
  | 0 => 0
  | n + 1 => cntS s n + (if inS s n then 1 else 0)
def manyS (s : Nat → Int32) : Nat := cntS s (nt (s 0))
def nxF (s : Nat → Int32) (c : Nat) : Nat → Nat → Option Nat
  | 0, _ => none
  | k + 1, i => if inS s (onS s c i) then some (onS s c i) else nxF s c k (i + 1)
def nextS (s : Nat → Int32) (c : Nat) : Option Nat := nxF s c (nt (s 0)) 1
def oI (o : Option Nat) : Int32 := match o with
  | none => -1
  | some n => nI n
def sortS (s : Nat → Int32) : Int32 := if nt (s 4) < nt (s 2) then s (72 + nt (s 4)) else 0
def cnsF (s : Nat → Int32) (key : Int32) : Nat → Option Nat
  | 0 => none
  | t + 1 => if s (92 + 200 * t) = key then some t else cnsF s key t
def lawS (s : Nat → Int32) (key : Int32) : Option Nat := cnsF s key (nt (s 3))
def jnS (v x y : Int32) : Int32 :=
  if v = 38 then (if x = 0 then 0 else if y = 0 then 0 else 1) else if v = 42 then x * y else if v = 43 then x + y else if v = 45 then x - y else
  if v = 47 then (if y = 0 then 0 else x / y) else if v = 60 then (if x < y then 1 else 0) else if v = 61 then (if x = y then 1 else 0) else
  if v = 62 then (if y < x then 1 else 0) else (if x = 0 then (if y = 0 then 0 else 1) else 1)
def nmS (key x y z v : Int32) : Int32 :=
  if key = 0 then (if v = 104 then x else if v = 97 then y else z) else if key = 1 then (if v = 115 then x else if v = 112 then y else z) else (if v = 97 then x else y)
abbrev whS (s : Nat → Int32) (t k : Nat) : Int32 := s (96 + 200 * t + 2 * k)
abbrev vlS (s : Nat → Int32) (t k : Nat) : Int32 := s (97 + 200 * t + 2 * k)
abbrev cnS (s : Nat → Int32) (t : Nat) : Nat := nt (s (94 + 200 * t))
/-- how many stand on the pile ahead of step k -/
def dpS (s : Nat → Int32) (t : Nat) : Nat → Nat
  | 0 => 0
  | k + 1 => if whS s t k = 2 then (if vlS s t k = 33 then dpS s t k else dpS s t k - 1) else dpS s t k + 1
/-- the pile behind k steps -/
def evN (s : Nat → Int32) (t : Nat) (nm : Int32 → Int32) : Nat → Nat → Int32
  | 0 => fun _ => 0
  | k + 1 =>
    if whS s t k = 2 then
      (if vlS s t k = 33 then upd (evN s t nm k) (dpS s t k - 1) (if evN s t nm k (dpS s t k - 1) = 0 then 1 else 0)
       else upd (evN s t nm k) (dpS s t k - 2) (jnS (vlS s t k) (evN s t nm k (dpS s t k - 2)) (evN s t nm k (dpS s t k - 1))))
    else upd (evN s t nm k) (dpS s t k) (if whS s t k = 0 then vlS s t k else nm (vlS s t k))
def evS (s : Nat → Int32) (t : Nat) (x y z : Int32) : Int32 := evN s t (nmS (s (92 + 200 * t)) x y z) (cnS s t) 0
def nmOK (key v : Int32) : Prop := (key = 0 → v = 104 ∨ v = 97 ∨ v = 102) ∧ (key = 1 → v = 115 ∨ v = 112 ∨ v = 116) ∧ (key = 2 → v = 97 ∨ v = 112)
def stOK (s : Nat → Int32) (t k : Nat) : Prop :=
  (whS s t k = 0 ∧ ∃ n, vlS s t k = nI n ∧ n < 10000) ∨ (whS s t k = 1 ∧ nmOK (s (92 + 200 * t)) (vlS s t k)) ∨
  (whS s t k = 2 ∧ ((vlS s t k = 33 ∧ 1 ≤ dpS s t k) ∨ (¬ vlS s t k = 33 ∧ 2 ≤ dpS s t k ∧ vlS s t k ∈ ([38, 42, 43, 45, 47, 60, 61, 62, 124] : List Int32))))
def TxOK (s : Nat → Int32) (t : Nat) : Prop :=
  (s (92 + 200 * t) = 0 ∨ s (92 + 200 * t) = 1 ∨ s (92 + 200 * t) = 2) ∧ (∃ n, s (94 + 200 * t) = nI n ∧ n ≤ 95) ∧ (∀ k, k < cnS s t → stOK s t k) ∧ dpS s t (cnS s t) = 1
def hld (v a b : Int32) : Int32 := if a ≤ v then (if v ≤ b then v else b) else a
def hS (s : Nat → Int32) (c : Nat) : Int32 := match lawS s 0 with
  | none => if sortS s = 2 then 1 else s (12 + 3 * c)
  | some t => hld (evS s t (s (12 + 3 * c)) (s (13 + 3 * c)) (sortS s)) 1 99
def rndF (s : Nat → Int32) : Nat → Nat
  | 0 => 0
  | n + 1 => rndF s n + (if inS s n then nt (hS s n) else 0)
def rndS (s : Nat → Int32) : Nat := rndF s (nt (s 0))
def isLotS (s : Nat → Int32) (k : Nat) : Bool := decide (s (42 + 3 * k) = 1 ∨ s (42 + 3 * k) = 3)
def plainS (s : Nat → Int32) (k : Nat) : Int32 := match lawS s 1 with
  | none => s (43 + 3 * k)
  | some t => hld (evS s t (s (43 + 3 * k)) (s 4) (s 8)) 0 999
def lastS (s : Nat → Int32) (k : Nat) (x : Int32) : Int32 := if isLotS s k then plainS s k + x else if s (42 + 3 * k) = 5 then (if plainS s k ≤ 0 then plainS s k else plainS s k - 1) else plainS s k
def landG (s : Nat → Int32) : Nat → Nat → Nat → Nat
  | 0, c, _ => c
  | f + 1, c, l => if l < nt (hS s c) then c else landG s f ((nextS s c).getD 0) (l - nt (hS s c))
def startS (s : Nat → Int32) : Nat := if inS s (nt (s 6)) then nt (s 6) else (nextS s (nt (s 6))).getD 0
def landS (s : Nat → Int32) (sec : Nat) : Nat := landG s (nt (s 0)) (startS s) (sec % rndS s)
def evnF (s : Nat → Int32) (f : Nat) : Nat → Nat → Nat → Nat
  | 0, _, b => b
  | k + 1, i, b => evnF s f k (i + 1) (if inS s (onS s f i) ∧ s (13 + 3 * onS s f i) < s (13 + 3 * b) then onS s f i else b)
def evenS (s : Nat → Int32) (f : Nat) : Nat := evnF s f (nt (s 0) - 1) 1 f
def goesC (s : Nat → Int32) (k c : Nat) : Nat :=
  if s (42 + 3 * k) = 2 then evenS s c else if s (42 + 3 * k) = 3 then (nextS s c).getD 0 else
  if s (42 + 3 * k) = 4 then (if nt (s (44 + 3 * k)) < nt (s 0) ∧ inS s (nt (s (44 + 3 * k))) then nt (s (44 + 3 * k)) else evenS s c) else c
def goesS (s : Nat → Int32) (k : Nat) (x : Int32) : Nat := goesC s k (landS s (nt (lastS s k x)))
def drwS (z : Int32) : Int32 := z * 1103515245 + 12345
def drwO (z : Int32) : Int32 := (z.toUInt32 >>> ((8 : Int32).toUInt32 &&& Int32.toUInt32 31)).toInt32
def goS (s : Nat → Int32) : Bool := decide (0 < nt (s 1) ∧ 0 < manyS s)
def stopS (s : Nat → Int32) : Nat := nt (s 4) % nt (s 1)
def give (s : Nat → Int32) (c : Nat) (sec : Int32) : Nat → Int32 :=
  let s2 := upd s 8 (s 8 + sec)
  let s3 := upd s2 (13 + 3 * c) (hld (s2 (13 + 3 * c) + 1) 0 99)
  let s4 := upd s3 6 (nI c)
  let s5 := upd s4 9 (s4 9 + (if sortS s = 1 then 1 else 0))
  let s6 := upd s5 10 (s5 10 + (if sortS s = 2 then 1 else 0))
  let s7 := upd s6 5 (if sortS s = 2 then 1 - s6 5 else s6 5)
  let s8 := upd s7 (14 + 3 * c) (if s 7 = 1 ∧ 2 < manyS s then 1 else 0)
  upd s8 4 (s8 4 + 1)
def turnS (s : Nat → Int32) : Int32 × (Nat → Int32) :=
  if goS s then
    (let s1 := if isLotS s (stopS s) then upd s 11 (drwS (s 11)) else s
     let x : Int32 := if isLotS s (stopS s) then nI ((drwO (drwS (s 11))).toNatClampNeg % 10) else 0
     let c := goesS s1 (stopS s) x
     (nI c, give s1 c (lastS s1 (stopS s) x)))
  else (-1, upd s 4 (s 4 + 1))
/-! well-formed rows -/
def Wf (s : Nat → Int32) : Prop :=
  (∃ n, s 0 = nI n ∧ n ≤ 10) ∧ (∃ n, s 1 = nI n ∧ n ≤ 10) ∧ (∃ n, s 2 = nI n ∧ n ≤ 20) ∧ (∃ n, s 3 = nI n ∧ n ≤ 14) ∧ (∃ n, s 4 = nI n ∧ n < 2 ^ 30) ∧ (s 5 = 0 ∨ s 5 = 1) ∧ (∃ n, s 6 = nI n ∧ (n < nt (s 0) ∨ n = 0)) ∧ (s 7 = 0 ∨ s 7 = 1) ∧
  (∀ c, c < nt (s 0) → (∃ h, s (12 + 3 * c) = nI h ∧ 1 ≤ h ∧ h ≤ 9) ∧ (∃ h, s (13 + 3 * c) = nI h ∧ h ≤ 99) ∧ (s (14 + 3 * c) = 0 ∨ s (14 + 3 * c) = 1)) ∧
  (∀ k, k < nt (s 1) → (∃ h, s (42 + 3 * k) = nI h ∧ h ≤ 5) ∧ (∃ h, s (43 + 3 * k) = nI h ∧ h ≤ 99) ∧ (∃ h, s (44 + 3 * k) = nI h ∧ h ≤ 9)) ∧
  (∀ p, p < nt (s 2) → ∃ h, s (72 + p) = nI h ∧ h ≤ 2) ∧ (∀ t, t < nt (s 3) → TxOK s t)
section WF
variable {s : Nat → Int32}
theorem Wf.n0 (h : Wf s) : ∃ n, s 0 = nI n ∧ n ≤ 10 ∧ nt (s 0) = n := by obtain ⟨n, h1, h2⟩ := h.1; exact ⟨n, h1, h2, by rw [h1]; exact nt_nI (by omega)⟩
theorem Wf.n1 (h : Wf s) : ∃ n, s 1 = nI n ∧ n ≤ 10 ∧ nt (s 1) = n := by obtain ⟨n, h1, h2⟩ := h.2.1; exact ⟨n, h1, h2, by rw [h1]; exact nt_nI (by omega)⟩
theorem Wf.n2 (h : Wf s) : ∃ n, s 2 = nI n ∧ n ≤ 20 ∧ nt (s 2) = n := by obtain ⟨n, h1, h2⟩ := h.2.2.1; exact ⟨n, h1, h2, by rw [h1]; exact nt_nI (by omega)⟩
theorem Wf.n3 (h : Wf s) : ∃ n, s 3 = nI n ∧ n ≤ 14 ∧ nt (s 3) = n := by obtain ⟨n, h1, h2⟩ := h.2.2.2.1; exact ⟨n, h1, h2, by rw [h1]; exact nt_nI (by omega)⟩
theorem Wf.n4 (h : Wf s) : ∃ n, s 4 = nI n ∧ n < 2 ^ 30 ∧ nt (s 4) = n := by obtain ⟨n, h1, h2⟩ := h.2.2.2.2.1; exact ⟨n, h1, h2, by rw [h1]; exact nt_nI (by omega)⟩
theorem Wf.n6 (h : Wf s) : ∃ n, s 6 = nI n ∧ (n < nt (s 0) ∨ n = 0) ∧ nt (s 6) = n := by
  obtain ⟨m, h1, h2, h3⟩ := h.n0
  obtain ⟨n, h4, h5⟩ := h.2.2.2.2.2.2.1
  exact ⟨n, h4, h5, by rw [h4]; exact nt_nI (by omega)⟩
theorem Wf.way (h : Wf s) : s 5 = 0 ∨ s 5 = 1 := h.2.2.2.2.2.1
theorem Wf.rul (h : Wf s) : s 7 = 0 ∨ s 7 = 1 := h.2.2.2.2.2.2.2.1
theorem Wf.ch (h : Wf s) {c : Nat} (hc : c < nt (s 0)) : (∃ h, s (12 + 3 * c) = nI h ∧ 1 ≤ h ∧ h ≤ 9) ∧ (∃ h, s (13 + 3 * c) = nI h ∧ h ≤ 99) ∧ (s (14 + 3 * c) = 0 ∨ s (14 + 3 * c) = 1) := h.2.2.2.2.2.2.2.2.1 c hc
theorem Wf.sp (h : Wf s) {k : Nat} (hk : k < nt (s 1)) : (∃ h, s (42 + 3 * k) = nI h ∧ h ≤ 5) ∧ (∃ h, s (43 + 3 * k) = nI h ∧ h ≤ 99) ∧ (∃ h, s (44 + 3 * k) = nI h ∧ h ≤ 9) := h.2.2.2.2.2.2.2.2.2.1 k hk
theorem Wf.pp (h : Wf s) {p : Nat} (hp : p < nt (s 2)) : ∃ h, s (72 + p) = nI h ∧ h ≤ 2 := h.2.2.2.2.2.2.2.2.2.2.1 p hp
theorem Wf.tx (h : Wf s) {t : Nat} (ht : t < nt (s 3)) : TxOK s t := h.2.2.2.2.2.2.2.2.2.2.2 t ht
end WF
theorem rmI_nI {a d : Nat} (ha : a < 2 ^ 31) (h0 : 0 < d) (hd : d < 2 ^ 31) : rmI (nI a) (nI d) = some (nI (a % d)) := by
  unfold rmI
  rw [if_neg (nI_ne0 h0 hd), pk_rem ha h0 hd]
section SQ
variable {s : Nat → Int32}
theorem cntS_s (n : Nat) : cntS s (n + 1) = cntS s n + (if inS s n then 1 else 0) := rfl
theorem nxF_s (c k i : Nat) : nxF s c (k + 1) i = if inS s (onS s c i) then some (onS s c i) else nxF s c k (i + 1) := rfl
theorem nxF_0 (c i : Nat) : nxF s c 0 i = none := rfl
theorem cnsF_s (key : Int32) (t : Nat) : cnsF s key (t + 1) = if s (92 + 200 * t) = key then some t else cnsF s key t := rfl
theorem rndF_s (n : Nat) : rndF s (n + 1) = rndF s n + (if inS s n then nt (hS s n) else 0) := rfl
theorem dpS_s (t k : Nat) : dpS s t (k + 1) = if whS s t k = 2 then (if vlS s t k = 33 then dpS s t k else dpS s t k - 1) else dpS s t k + 1 := rfl
theorem landG_s (f c l : Nat) : landG s (f + 1) c l = if l < nt (hS s c) then c else landG s f ((nextS s c).getD 0) (l - nt (hS s c)) := rfl
theorem evnF_s (f k i b : Nat) : evnF s f (k + 1) i b = evnF s f k (i + 1) (if inS s (onS s f i) ∧ s (13 + 3 * onS s f i) < s (13 + 3 * b) then onS s f i else b) := rfl
theorem inS_t {c : Nat} (h : s (14 + 3 * c) = 0) : inS s c = true := by simp [inS, h]
theorem inS_f {c : Nat} (h : ¬ s (14 + 3 * c) = 0) : ¬ inS s c = true := by simp [inS, h]
end SQ
