def nmB (κ v : Nat) : Bool := if κ = 0 then (v == 104 || v == 97 || v == 102) else if κ = 1 then (v == 115 || v == 112 || v == 116) else (v == 97 || v == 112)
theorem sIx_all : ∀ κ : Fin 3, ∀ q : Fin 26, sIxF (3 + κ.val) (((nI (97 + q.val)).toUInt32 % 65536).toInt32) = some (if nmB κ.val (97 + q.val) then nmIx (nI κ.val) (nI (97 + q.val)) else -1) := by decide +kernel
section PY
variable {nT : Nat} {nd nd2 : Nat → Option Nat} {c : Nat → pE} {ad ad2 : Nat → Nat} {b p : Nat → Int32} {l κ β o q σ δ fr un : Nat} {t lv ft ky sc : Int32} {fi0 fi : Nat → Int32} {fa0 fa : Nat → Nat → Int32}
theorem C_numberHere (hL : Lay nd ad (KC nT)) (hb : ByOK c b l) (h1 : fr ≤ un) (h2 : un ≤ l) : fX1_numberHere (ad 400) (MM nd (rdC ad c (nI l) t (nI fr) (nI un) ft ky lv sc p)) = some (dgF b fr (un - fr)) := by
  have h96 := hb.1
  have := loop_for (b := fX1_numberHere_b0 (ad 400) (MM nd (rdC ad c (nI l) t (nI fr) (nI un) ft ky lv sc p))) (fun k => (dgF b fr k, nI (fr + k))) (un - fr) (dgF b fr (un - fr)) (by omega) (fun k hk => by
    simp only [fX1_numberHere_b0, rdg4 hL, if_neg (nI_ge (show fr + k < un by omega) (show un < 2 ^ 31 by omega)), rdg1 hL, if_neg (nI_ge (show fr + k < l by omega) (show l < 2 ^ 31 by omega)), rdr0 hL, rdb hL hb (show fr + k < l by omega), Option.bind_some, nI_1]
    rfl) (by
    simp only [fX1_numberHere_b0, rdg4 hL, if_pos (nI_le (show un ≤ fr + (un - fr) by omega) (show fr + (un - fr) < 2 ^ 31 by omega)), Option.bind_some])
  unfold fX1_numberHere
  simp only [rdg3 hL, Option.bind_some]
  rw [show ((0 : Int32), nI fr) = (dgF b fr 0, nI (fr + 0)) from rfl, this]
  rfl
/-- which name, or -1 -/
def nmH (b : Nat → Int32) (κ fr un : Nat) : Int32 := if un - fr = 1 then (if nmB κ (nt (b fr)) then nmIx (nI κ) (b fr) else -1) else -1
theorem C_nameHere (hL : Lay nd ad (KC nT)) (hb : ByOK c b l) (hκ : κ < 3) (h1 : fr < un) (h2 : un ≤ l) (hlt : inR b l 97 122 fr = true) : fX1_nameHere (ad 400) (MM nd (rdC ad c (nI l) t (nI fr) (nI un) ft (nI κ) lv sc p)) = some (nmH b κ fr un) := by
  have h96 := hb.1
  have hd := of_decide_eq_true hlt
  obtain ⟨v, v1, v2, v3⟩ := bt (a := 97) (b := 122) hd.2 (by omega) (by omega)
  have hk3 : (if nI κ = 0 then some 3 else if nI κ = 1 then some 4 else some 5) = some (3 + κ) := by
    rcases (show κ = 0 ∨ κ = 1 ∨ κ = 2 by omega) with e | e | e <;> subst e <;> rfl
  unfold fX1_nameHere nmH
  simp only [rdg6 hL, Option.bind_some]
  rw [hk3]
  simp only [rdg4 hL, rdg3 hL, Option.bind_some, show nI un - nI fr = nI (un - fr) from pk_sub (by omega)]
  by_cases hz : un - fr = 1
  · rw [if_pos (by rw [hz]; rfl), if_pos hz]
    simp only [rdg1 hL, if_neg (nI_ge (show fr < l by omega) (show l < 2 ^ 31 by omega)), rdr0 hL, rdb hL hb (show fr < l by omega), Option.bind_some]
    have := sIx_all ⟨κ, hκ⟩ ⟨v - 97, by omega⟩
    simp only [show 97 + (v - 97) = v by omega] at this
    rw [v1, this, nt_nI (by omega)]
    rfl
  · rw [if_neg (show ¬ nI (un - fr) = 1 from fun z => hz ((nI_eq (b := 1) (by omega) (by omega)).mp z)), if_neg hz]
theorem nmB_ok {κ v : Nat} (hκ : κ < 3) (hv : v < 256) (h : nmB κ v = true) : nmOK (nI κ) (nI v) ∧ encS (nI κ) 1 (nI v) = 10000 + nmIx (nI κ) (nI v) ∧ 0 ≤ nmIx (nI κ) (nI v) := by
  rcases (show κ = 0 ∨ κ = 1 ∨ κ = 2 by omega) with e | e | e <;> subst e
  · have : v = 104 ∨ v = 97 ∨ v = 102 := by simpa [nmB, or_assoc] using h
    rcases this with z | z | z <;> subst z <;> refine ⟨⟨fun _ => ?_, fun y => absurd y (by decide), fun y => absurd y (by decide)⟩, rfl, by decide⟩ <;> decide
  · have : v = 115 ∨ v = 112 ∨ v = 116 := by simpa [nmB, or_assoc] using h
    rcases this with z | z | z <;> subst z <;> refine ⟨⟨fun y => absurd y (by decide), fun _ => ?_, fun y => absurd y (by decide)⟩, rfl, by decide⟩ <;> decide
  · have : v = 97 ∨ v = 112 := by simpa [nmB] using h
    rcases this with z | z <;> subst z <;> refine ⟨⟨fun y => absurd y (by decide), fun y => absurd y (by decide), fun _ => ?_⟩, rfl, by decide⟩ <;> decide
theorem R_isName {κ v : Nat} (hκ : κ < 3) (hv : v < 256) (m : Mem) : fX8_isName (nI κ) (nI v) m = some (nmB κ v) := by
  have hc : ∀ a : Nat, a < 256 → (nI v = nI a) = (v = a) := fun a ha => propext (nI_eq (by omega) (by omega))
  have e104 : (nI v = (104 : Int32)) = (v = 104) := hc 104 (by omega)
  have e97 : (nI v = (97 : Int32)) = (v = 97) := hc 97 (by omega)
  have e102 : (nI v = (102 : Int32)) = (v = 102) := hc 102 (by omega)
  have e115 : (nI v = (115 : Int32)) = (v = 115) := hc 115 (by omega)
  have e112 : (nI v = (112 : Int32)) = (v = 112) := hc 112 (by omega)
  have e116 : (nI v = (116 : Int32)) = (v = 116) := hc 116 (by omega)
  unfold fX8_isName nmB
  simp only [e104, e97, e102, e115, e112, e116]
  rcases (show κ = 0 ∨ κ = 1 ∨ κ = 2 by omega) with e | e | e <;> subst e
  · rw [if_pos (show nI 0 = 0 from rfl), if_pos rfl]
    by_cases h1 : v = 104
    · simp [h1]
    · by_cases h2 : v = 97
      · simp [h2]
      · by_cases h3 : v = 102 <;> simp [h1, h2, h3]
  · rw [if_neg (show ¬ nI 1 = 0 by decide), if_pos (show nI 1 = 1 from rfl), if_neg (show ¬ 1 = 0 by decide), if_pos (show 1 = 1 from rfl)]
    by_cases h1 : v = 115
    · simp [h1]
    · by_cases h2 : v = 112
      · simp [h2]
      · by_cases h3 : v = 116 <;> simp [h1, h2, h3]
  · rw [if_neg (show ¬ nI 2 = 0 by decide), if_neg (show ¬ nI 2 = 1 by decide), if_neg (show ¬ 2 = 0 by decide), if_neg (show ¬ 2 = 1 by decide)]
    by_cases h1 : v = 97
    · simp [h1]
    · by_cases h2 : v = 112 <;> simp [h1, h2]
end PY
