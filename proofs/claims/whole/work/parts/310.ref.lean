theorem k64_0 : (0 : Int64) = (0 : Int32).toInt64 := by decide
theorem k64_1 : (1 : Int64) = (1 : Int32).toInt64 := by decide
theorem k64_2 : (2 : Int64) = (2 : Int32).toInt64 := by decide
theorem k64_3 : (3 : Int64) = (3 : Int32).toInt64 := by decide
theorem k64_4 : (4 : Int64) = (4 : Int32).toInt64 := by decide
theorem k64_5 : (5 : Int64) = (5 : Int32).toInt64 := by decide
theorem k64_9 : (9 : Int64) = (9 : Int32).toInt64 := by decide
theorem k64_10 : (10 : Int64) = (10 : Int32).toInt64 := by decide
theorem k64_30 : (30 : Int64) = (30 : Int32).toInt64 := by decide
theorem k64_48 : (48 : Int64) = (48 : Int32).toInt64 := by decide
theorem k64_57 : (57 : Int64) = (57 : Int32).toInt64 := by decide
theorem k64_60 : (60 : Int64) = (60 : Int32).toInt64 := by decide
theorem k64_97 : (97 : Int64) = (97 : Int32).toInt64 := by decide
theorem k64_99 : (99 : Int64) = (99 : Int32).toInt64 := by decide
theorem k64_100 : (100 : Int64) = (100 : Int32).toInt64 := by decide
theorem k64_122 : (122 : Int64) = (122 : Int32).toInt64 := by decide
theorem k64_9999 : (9999 : Int64) = (9999 : Int32).toInt64 := by decide
theorem k64_99999 : (99999 : Int64) = (99999 : Int32).toInt64 := by decide
theorem k64_m1 : (-1 : Int64) = (-1 : Int32).toInt64 := by decide
theorem k64_m99999 : (-99999 : Int64) = (-99999 : Int32).toInt64 := by decide
def objR (ad : Nat → Nat) (fi : Nat → Int32) : List Value := [.ref (ad 0), .ref (ad 1), .ref (ad 2), .int (fi 3), .ref (ad 4), .ref (ad 5), .ref (ad 6), .ref (ad 7), .ref (ad 8), .ref (ad 9), .ref (ad 10), .ref (ad 11), .ref (ad 12), .ref (ad 13), .int (fi 14), .int (fi 15), .int (fi 16), .int (fi 17), .int (fi 18), .int (fi 19), .int (fi 20), .int (fi 21), .int (fi 22), .int (fi 23), .int (fi 24), .ref (ad 25), .ref (ad 26), .ref (ad 27), .ref (ad 28), .int (fi 29), .ref (ad 30)]
def lenR (k : Nat) : Nat := match k with
  | 0 => 3092
  | 1 => 3092
  | 2 => 3092
  | 4 => 4
  | 5 => 4
  | 6 => 96
  | 7 => 5
  | 8 => 5
  | 9 => 5
  | 10 => 5
  | 11 => 120
  | 12 => 92
  | 13 => 96
  | 25 => 128
  | 26 => 100
  | 27 => 24
  | 28 => 60
  | _ => 60
def arrR : List Nat := [0, 1, 2, 4, 5, 6, 7, 8, 9, 10, 11, 12, 13, 25, 26, 27, 28, 30]
def KR (k : Nat) : Prop := k = 31 ∨ k ∈ arrR
def cR (ad : Nat → Nat) (fi : Nat → Int32) (fa : Nat → Nat → Int32) : Nat → pE := fun k => if k = 31 then .inr (8, objR ad fi) else .inl (0, lenR k, .inl (fa k))
def MR (nd : Nat → Option Nat) (ad : Nat → Nat) (fi : Nat → Int32) (fa : Nat → Nat → Int32) : Mem := MM nd (cR ad fi fa)
def upF (fa : Nat → Nat → Int32) (k : Nat) (g : Nat → Int32) : Nat → Nat → Int32 := fun j => if j = k then g else fa j
theorem upF_s {fa : Nat → Nat → Int32} {k : Nat} {g : Nat → Int32} : upF fa k g k = g := by simp [upF]
theorem upF_n {fa : Nat → Nat → Int32} {k j : Nat} {g : Nat → Int32} (h : ¬ j = k) : upF fa k g j = fa j := by simp [upF, h]
theorem upF_2 {fa : Nat → Nat → Int32} {k : Nat} {g g2 : Nat → Int32} : upF (upF fa k g) k g2 = upF fa k g2 := by funext j; by_cases h : j = k <;> simp [upF, h]
theorem upF_id {fa : Nat → Nat → Int32} {k : Nat} : upF fa k (fa k) = fa := by funext j; by_cases h : j = k <;> simp [upF, h]
theorem lenR_lt (k : Nat) : lenR k < 2 ^ 31 := by unfold lenR; split <;> decide
section RM
variable {nd : Nat → Option Nat} {ad : Nat → Nat} {fi : Nat → Int32} {fa : Nat → Nat → Int32}
theorem cR_o : cR ad fi fa 31 = .inr (8, objR ad fi) := by simp [cR]
theorem cR_a {k : Nat} (hk : k ∈ arrR) : cR ad fi fa k = .inl (0, lenR k, .inl (fa k)) := by
  have h : ¬ k = 31 := fun z => by subst z; revert hk; decide
  simp [cR, h]
theorem KR_o : KR 31 := Or.inl rfl
theorem KR_a {k : Nat} (hk : k ∈ arrR) : KR k := Or.inr hk
theorem rg0 (h : Lay nd ad KR) : gR (MR nd ad fi fa) (ad 31) 8 0 = some (ad 0) := gR_MM h KR_o cR_o rfl
theorem rg1 (h : Lay nd ad KR) : gR (MR nd ad fi fa) (ad 31) 8 1 = some (ad 1) := gR_MM h KR_o cR_o rfl
theorem rg2 (h : Lay nd ad KR) : gR (MR nd ad fi fa) (ad 31) 8 2 = some (ad 2) := gR_MM h KR_o cR_o rfl
theorem rg4 (h : Lay nd ad KR) : gR (MR nd ad fi fa) (ad 31) 8 4 = some (ad 4) := gR_MM h KR_o cR_o rfl
theorem rg5 (h : Lay nd ad KR) : gR (MR nd ad fi fa) (ad 31) 8 5 = some (ad 5) := gR_MM h KR_o cR_o rfl
theorem rg6 (h : Lay nd ad KR) : gR (MR nd ad fi fa) (ad 31) 8 6 = some (ad 6) := gR_MM h KR_o cR_o rfl
theorem rg7 (h : Lay nd ad KR) : gR (MR nd ad fi fa) (ad 31) 8 7 = some (ad 7) := gR_MM h KR_o cR_o rfl
theorem rg8 (h : Lay nd ad KR) : gR (MR nd ad fi fa) (ad 31) 8 8 = some (ad 8) := gR_MM h KR_o cR_o rfl
theorem rg9 (h : Lay nd ad KR) : gR (MR nd ad fi fa) (ad 31) 8 9 = some (ad 9) := gR_MM h KR_o cR_o rfl
theorem rg10 (h : Lay nd ad KR) : gR (MR nd ad fi fa) (ad 31) 8 10 = some (ad 10) := gR_MM h KR_o cR_o rfl
theorem rg11 (h : Lay nd ad KR) : gR (MR nd ad fi fa) (ad 31) 8 11 = some (ad 11) := gR_MM h KR_o cR_o rfl
theorem rg12 (h : Lay nd ad KR) : gR (MR nd ad fi fa) (ad 31) 8 12 = some (ad 12) := gR_MM h KR_o cR_o rfl
theorem rg13 (h : Lay nd ad KR) : gR (MR nd ad fi fa) (ad 31) 8 13 = some (ad 13) := gR_MM h KR_o cR_o rfl
theorem rg25 (h : Lay nd ad KR) : gR (MR nd ad fi fa) (ad 31) 8 25 = some (ad 25) := gR_MM h KR_o cR_o rfl
theorem rg26 (h : Lay nd ad KR) : gR (MR nd ad fi fa) (ad 31) 8 26 = some (ad 26) := gR_MM h KR_o cR_o rfl
theorem rg27 (h : Lay nd ad KR) : gR (MR nd ad fi fa) (ad 31) 8 27 = some (ad 27) := gR_MM h KR_o cR_o rfl
theorem rg28 (h : Lay nd ad KR) : gR (MR nd ad fi fa) (ad 31) 8 28 = some (ad 28) := gR_MM h KR_o cR_o rfl
theorem rg30 (h : Lay nd ad KR) : gR (MR nd ad fi fa) (ad 31) 8 30 = some (ad 30) := gR_MM h KR_o cR_o rfl
theorem rg3 (h : Lay nd ad KR) : gI (MR nd ad fi fa) (ad 31) 8 3 = some (fi 3) := gI_MM h KR_o cR_o rfl
theorem rg14 (h : Lay nd ad KR) : gI (MR nd ad fi fa) (ad 31) 8 14 = some (fi 14) := gI_MM h KR_o cR_o rfl
theorem rg15 (h : Lay nd ad KR) : gI (MR nd ad fi fa) (ad 31) 8 15 = some (fi 15) := gI_MM h KR_o cR_o rfl
theorem rg16 (h : Lay nd ad KR) : gI (MR nd ad fi fa) (ad 31) 8 16 = some (fi 16) := gI_MM h KR_o cR_o rfl
theorem rg17 (h : Lay nd ad KR) : gI (MR nd ad fi fa) (ad 31) 8 17 = some (fi 17) := gI_MM h KR_o cR_o rfl
theorem rg18 (h : Lay nd ad KR) : gI (MR nd ad fi fa) (ad 31) 8 18 = some (fi 18) := gI_MM h KR_o cR_o rfl
theorem rg19 (h : Lay nd ad KR) : gI (MR nd ad fi fa) (ad 31) 8 19 = some (fi 19) := gI_MM h KR_o cR_o rfl
theorem rg20 (h : Lay nd ad KR) : gI (MR nd ad fi fa) (ad 31) 8 20 = some (fi 20) := gI_MM h KR_o cR_o rfl
theorem rg21 (h : Lay nd ad KR) : gI (MR nd ad fi fa) (ad 31) 8 21 = some (fi 21) := gI_MM h KR_o cR_o rfl
theorem rg22 (h : Lay nd ad KR) : gI (MR nd ad fi fa) (ad 31) 8 22 = some (fi 22) := gI_MM h KR_o cR_o rfl
theorem rg23 (h : Lay nd ad KR) : gI (MR nd ad fi fa) (ad 31) 8 23 = some (fi 23) := gI_MM h KR_o cR_o rfl
theorem rg24 (h : Lay nd ad KR) : gI (MR nd ad fi fa) (ad 31) 8 24 = some (fi 24) := gI_MM h KR_o cR_o rfl
theorem rg29 (h : Lay nd ad KR) : gI (MR nd ad fi fa) (ad 31) 8 29 = some (fi 29) := gI_MM h KR_o cR_o rfl
theorem rcv (h : Lay nd ad KR) {α : Type} {x : Option α} : cV (MR nd ad fi fa) (ad 31) 8 x = x := cV_MM h KR_o cR_o
theorem rld (h : Lay nd ad KR) {k j : Nat} (hk : k ∈ arrR) (hj : j < lenR k) : ldI (MR nd ad fi fa) (ad k) (nI j) = some (fa k j) := ldI_MM h (KR_a hk) (cR_a hk) hj (lenR_lt k)
theorem cR_upa {k : Nat} (hk : k ∈ arrR) (g : Nat → Int32) : upC (cR ad fi fa) k (.inl (0, lenR k, .inl g)) = cR ad fi (upF fa k g) := by
  have h : ¬ k = 31 := fun z => by subst z; revert hk; decide
  funext j
  by_cases hj : j = k
  · subst hj; simp [upC, cR, h, upF]
  · by_cases h31 : j = 31 <;> simp [upC, cR, hj, h31, upF]
    intro z; exact absurd z.symm h
theorem rst (h : Lay nd ad KR) {k j : Nat} {v : Int32} (hk : k ∈ arrR) (hj : j < lenR k) : stI (MR nd ad fi fa) (ad k) (nI j) v = some (MR nd ad fi (upF fa k (upd (fa k) j v))) := by
  unfold MR
  rw [stI_MM h (KR_a hk) (cR_a hk) hj (lenR_lt k), cR_upa hk]
theorem rl0 (h : Lay nd ad KR) {j : Nat} (hj : j < 3092) : ldI (MR nd ad fi fa) (ad 0) (nI j) = some (fa 0 j) := rld h (by decide) hj
theorem rs0 (h : Lay nd ad KR) {j : Nat} {v : Int32} (hj : j < 3092) : stI (MR nd ad fi fa) (ad 0) (nI j) v = some (MR nd ad fi (upF fa 0 (upd (fa 0) j v))) := rst h (by decide) hj
theorem rl1 (h : Lay nd ad KR) {j : Nat} (hj : j < 3092) : ldI (MR nd ad fi fa) (ad 1) (nI j) = some (fa 1 j) := rld h (by decide) hj
theorem rs1 (h : Lay nd ad KR) {j : Nat} {v : Int32} (hj : j < 3092) : stI (MR nd ad fi fa) (ad 1) (nI j) v = some (MR nd ad fi (upF fa 1 (upd (fa 1) j v))) := rst h (by decide) hj
theorem rl2 (h : Lay nd ad KR) {j : Nat} (hj : j < 3092) : ldI (MR nd ad fi fa) (ad 2) (nI j) = some (fa 2 j) := rld h (by decide) hj
theorem rs2 (h : Lay nd ad KR) {j : Nat} {v : Int32} (hj : j < 3092) : stI (MR nd ad fi fa) (ad 2) (nI j) v = some (MR nd ad fi (upF fa 2 (upd (fa 2) j v))) := rst h (by decide) hj
theorem rl4 (h : Lay nd ad KR) {j : Nat} (hj : j < 4) : ldI (MR nd ad fi fa) (ad 4) (nI j) = some (fa 4 j) := rld h (by decide) hj
theorem rs4 (h : Lay nd ad KR) {j : Nat} {v : Int32} (hj : j < 4) : stI (MR nd ad fi fa) (ad 4) (nI j) v = some (MR nd ad fi (upF fa 4 (upd (fa 4) j v))) := rst h (by decide) hj
theorem rl5 (h : Lay nd ad KR) {j : Nat} (hj : j < 4) : ldI (MR nd ad fi fa) (ad 5) (nI j) = some (fa 5 j) := rld h (by decide) hj
theorem rs5 (h : Lay nd ad KR) {j : Nat} {v : Int32} (hj : j < 4) : stI (MR nd ad fi fa) (ad 5) (nI j) v = some (MR nd ad fi (upF fa 5 (upd (fa 5) j v))) := rst h (by decide) hj
theorem rl6 (h : Lay nd ad KR) {j : Nat} (hj : j < 96) : ldI (MR nd ad fi fa) (ad 6) (nI j) = some (fa 6 j) := rld h (by decide) hj
theorem rs6 (h : Lay nd ad KR) {j : Nat} {v : Int32} (hj : j < 96) : stI (MR nd ad fi fa) (ad 6) (nI j) v = some (MR nd ad fi (upF fa 6 (upd (fa 6) j v))) := rst h (by decide) hj
theorem rl7 (h : Lay nd ad KR) {j : Nat} (hj : j < 5) : ldI (MR nd ad fi fa) (ad 7) (nI j) = some (fa 7 j) := rld h (by decide) hj
theorem rs7 (h : Lay nd ad KR) {j : Nat} {v : Int32} (hj : j < 5) : stI (MR nd ad fi fa) (ad 7) (nI j) v = some (MR nd ad fi (upF fa 7 (upd (fa 7) j v))) := rst h (by decide) hj
theorem rl8 (h : Lay nd ad KR) {j : Nat} (hj : j < 5) : ldI (MR nd ad fi fa) (ad 8) (nI j) = some (fa 8 j) := rld h (by decide) hj
theorem rs8 (h : Lay nd ad KR) {j : Nat} {v : Int32} (hj : j < 5) : stI (MR nd ad fi fa) (ad 8) (nI j) v = some (MR nd ad fi (upF fa 8 (upd (fa 8) j v))) := rst h (by decide) hj
theorem rl9 (h : Lay nd ad KR) {j : Nat} (hj : j < 5) : ldI (MR nd ad fi fa) (ad 9) (nI j) = some (fa 9 j) := rld h (by decide) hj
theorem rs9 (h : Lay nd ad KR) {j : Nat} {v : Int32} (hj : j < 5) : stI (MR nd ad fi fa) (ad 9) (nI j) v = some (MR nd ad fi (upF fa 9 (upd (fa 9) j v))) := rst h (by decide) hj
theorem rl10 (h : Lay nd ad KR) {j : Nat} (hj : j < 5) : ldI (MR nd ad fi fa) (ad 10) (nI j) = some (fa 10 j) := rld h (by decide) hj
theorem rs10 (h : Lay nd ad KR) {j : Nat} {v : Int32} (hj : j < 5) : stI (MR nd ad fi fa) (ad 10) (nI j) v = some (MR nd ad fi (upF fa 10 (upd (fa 10) j v))) := rst h (by decide) hj
theorem rl11 (h : Lay nd ad KR) {j : Nat} (hj : j < 120) : ldI (MR nd ad fi fa) (ad 11) (nI j) = some (fa 11 j) := rld h (by decide) hj
theorem rs11 (h : Lay nd ad KR) {j : Nat} {v : Int32} (hj : j < 120) : stI (MR nd ad fi fa) (ad 11) (nI j) v = some (MR nd ad fi (upF fa 11 (upd (fa 11) j v))) := rst h (by decide) hj
theorem rl12 (h : Lay nd ad KR) {j : Nat} (hj : j < 92) : ldI (MR nd ad fi fa) (ad 12) (nI j) = some (fa 12 j) := rld h (by decide) hj
theorem rs12 (h : Lay nd ad KR) {j : Nat} {v : Int32} (hj : j < 92) : stI (MR nd ad fi fa) (ad 12) (nI j) v = some (MR nd ad fi (upF fa 12 (upd (fa 12) j v))) := rst h (by decide) hj
theorem rl13 (h : Lay nd ad KR) {j : Nat} (hj : j < 96) : ldI (MR nd ad fi fa) (ad 13) (nI j) = some (fa 13 j) := rld h (by decide) hj
theorem rs13 (h : Lay nd ad KR) {j : Nat} {v : Int32} (hj : j < 96) : stI (MR nd ad fi fa) (ad 13) (nI j) v = some (MR nd ad fi (upF fa 13 (upd (fa 13) j v))) := rst h (by decide) hj
theorem rl25 (h : Lay nd ad KR) {j : Nat} (hj : j < 128) : ldI (MR nd ad fi fa) (ad 25) (nI j) = some (fa 25 j) := rld h (by decide) hj
theorem rs25 (h : Lay nd ad KR) {j : Nat} {v : Int32} (hj : j < 128) : stI (MR nd ad fi fa) (ad 25) (nI j) v = some (MR nd ad fi (upF fa 25 (upd (fa 25) j v))) := rst h (by decide) hj
theorem rl26 (h : Lay nd ad KR) {j : Nat} (hj : j < 100) : ldI (MR nd ad fi fa) (ad 26) (nI j) = some (fa 26 j) := rld h (by decide) hj
theorem rs26 (h : Lay nd ad KR) {j : Nat} {v : Int32} (hj : j < 100) : stI (MR nd ad fi fa) (ad 26) (nI j) v = some (MR nd ad fi (upF fa 26 (upd (fa 26) j v))) := rst h (by decide) hj
theorem rl27 (h : Lay nd ad KR) {j : Nat} (hj : j < 24) : ldI (MR nd ad fi fa) (ad 27) (nI j) = some (fa 27 j) := rld h (by decide) hj
theorem rs27 (h : Lay nd ad KR) {j : Nat} {v : Int32} (hj : j < 24) : stI (MR nd ad fi fa) (ad 27) (nI j) v = some (MR nd ad fi (upF fa 27 (upd (fa 27) j v))) := rst h (by decide) hj
theorem rl28 (h : Lay nd ad KR) {j : Nat} (hj : j < 60) : ldI (MR nd ad fi fa) (ad 28) (nI j) = some (fa 28 j) := rld h (by decide) hj
theorem rs28 (h : Lay nd ad KR) {j : Nat} {v : Int32} (hj : j < 60) : stI (MR nd ad fi fa) (ad 28) (nI j) v = some (MR nd ad fi (upF fa 28 (upd (fa 28) j v))) := rst h (by decide) hj
theorem rl30 (h : Lay nd ad KR) {j : Nat} (hj : j < 60) : ldI (MR nd ad fi fa) (ad 30) (nI j) = some (fa 30 j) := rld h (by decide) hj
theorem rs30 (h : Lay nd ad KR) {j : Nat} {v : Int32} (hj : j < 60) : stI (MR nd ad fi fa) (ad 30) (nI j) v = some (MR nd ad fi (upF fa 30 (upd (fa 30) j v))) := rst h (by decide) hj
theorem rpu3 (h : Lay nd ad KR) {v : Int32} : pI (MR nd ad fi fa) (ad 31) 8 3 v = some (MR nd ad (upd fi 3 v) fa) := by
  unfold MR
  rw [pI_MM h KR_o cR_o (by simp [objR])]
  congr 2
  funext j
  by_cases hj : j = 31
  · subst hj; simp [upC, cR, objR, upd]
  · simp [upC, cR, hj]
theorem rpu14 (h : Lay nd ad KR) {v : Int32} : pI (MR nd ad fi fa) (ad 31) 8 14 v = some (MR nd ad (upd fi 14 v) fa) := by
  unfold MR
  rw [pI_MM h KR_o cR_o (by simp [objR])]
  congr 2
  funext j
  by_cases hj : j = 31
  · subst hj; simp [upC, cR, objR, upd]
  · simp [upC, cR, hj]
theorem rpu15 (h : Lay nd ad KR) {v : Int32} : pI (MR nd ad fi fa) (ad 31) 8 15 v = some (MR nd ad (upd fi 15 v) fa) := by
  unfold MR
  rw [pI_MM h KR_o cR_o (by simp [objR])]
  congr 2
  funext j
  by_cases hj : j = 31
  · subst hj; simp [upC, cR, objR, upd]
  · simp [upC, cR, hj]
theorem rpu16 (h : Lay nd ad KR) {v : Int32} : pI (MR nd ad fi fa) (ad 31) 8 16 v = some (MR nd ad (upd fi 16 v) fa) := by
  unfold MR
  rw [pI_MM h KR_o cR_o (by simp [objR])]
  congr 2
  funext j
  by_cases hj : j = 31
  · subst hj; simp [upC, cR, objR, upd]
  · simp [upC, cR, hj]
theorem rpu17 (h : Lay nd ad KR) {v : Int32} : pI (MR nd ad fi fa) (ad 31) 8 17 v = some (MR nd ad (upd fi 17 v) fa) := by
  unfold MR
  rw [pI_MM h KR_o cR_o (by simp [objR])]
  congr 2
  funext j
  by_cases hj : j = 31
  · subst hj; simp [upC, cR, objR, upd]
  · simp [upC, cR, hj]
theorem rpu18 (h : Lay nd ad KR) {v : Int32} : pI (MR nd ad fi fa) (ad 31) 8 18 v = some (MR nd ad (upd fi 18 v) fa) := by
  unfold MR
  rw [pI_MM h KR_o cR_o (by simp [objR])]
  congr 2
  funext j
  by_cases hj : j = 31
  · subst hj; simp [upC, cR, objR, upd]
  · simp [upC, cR, hj]
theorem rpu19 (h : Lay nd ad KR) {v : Int32} : pI (MR nd ad fi fa) (ad 31) 8 19 v = some (MR nd ad (upd fi 19 v) fa) := by
  unfold MR
  rw [pI_MM h KR_o cR_o (by simp [objR])]
  congr 2
  funext j
  by_cases hj : j = 31
  · subst hj; simp [upC, cR, objR, upd]
  · simp [upC, cR, hj]
theorem rpu20 (h : Lay nd ad KR) {v : Int32} : pI (MR nd ad fi fa) (ad 31) 8 20 v = some (MR nd ad (upd fi 20 v) fa) := by
  unfold MR
  rw [pI_MM h KR_o cR_o (by simp [objR])]
  congr 2
  funext j
  by_cases hj : j = 31
  · subst hj; simp [upC, cR, objR, upd]
  · simp [upC, cR, hj]
theorem rpu21 (h : Lay nd ad KR) {v : Int32} : pI (MR nd ad fi fa) (ad 31) 8 21 v = some (MR nd ad (upd fi 21 v) fa) := by
  unfold MR
  rw [pI_MM h KR_o cR_o (by simp [objR])]
  congr 2
  funext j
  by_cases hj : j = 31
  · subst hj; simp [upC, cR, objR, upd]
  · simp [upC, cR, hj]
theorem rpu22 (h : Lay nd ad KR) {v : Int32} : pI (MR nd ad fi fa) (ad 31) 8 22 v = some (MR nd ad (upd fi 22 v) fa) := by
  unfold MR
  rw [pI_MM h KR_o cR_o (by simp [objR])]
  congr 2
  funext j
  by_cases hj : j = 31
  · subst hj; simp [upC, cR, objR, upd]
  · simp [upC, cR, hj]
theorem rpu23 (h : Lay nd ad KR) {v : Int32} : pI (MR nd ad fi fa) (ad 31) 8 23 v = some (MR nd ad (upd fi 23 v) fa) := by
  unfold MR
  rw [pI_MM h KR_o cR_o (by simp [objR])]
  congr 2
  funext j
  by_cases hj : j = 31
  · subst hj; simp [upC, cR, objR, upd]
  · simp [upC, cR, hj]
theorem rpu24 (h : Lay nd ad KR) {v : Int32} : pI (MR nd ad fi fa) (ad 31) 8 24 v = some (MR nd ad (upd fi 24 v) fa) := by
  unfold MR
  rw [pI_MM h KR_o cR_o (by simp [objR])]
  congr 2
  funext j
  by_cases hj : j = 31
  · subst hj; simp [upC, cR, objR, upd]
  · simp [upC, cR, hj]
theorem rpu29 (h : Lay nd ad KR) {v : Int32} : pI (MR nd ad fi fa) (ad 31) 8 29 v = some (MR nd ad (upd fi 29 v) fa) := by
  unfold MR
  rw [pI_MM h KR_o cR_o (by simp [objR])]
  congr 2
  funext j
  by_cases hj : j = 31
  · subst hj; simp [upC, cR, objR, upd]
  · simp [upC, cR, hj]
end RM
