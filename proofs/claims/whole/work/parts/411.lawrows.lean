/-! ROWS OF THE LAW: the script; the class and the reference side by side -/
abbrev sB (D : Dat) : Nat := D.2.2.2.2.2.1
abbrev sN (D : Dat) : Nat := D.2.2.2.2.2.2.1
abbrev sX (D : Dat) : Nat → Int32 := D.2.2.2.2.2.2.2
def sld (D : Dat) (i : Int32) : Option Int32 := if ¬ i < 0 ∧ i.toNatClampNeg < sN D then some (sX D i.toNatClampNeg) else none
theorem sld_0 {D : Dat} {i : Nat} (h : i < sN D) (hN : sN D ≤ 384) : sld D (nI i) = some (sX D i) := by
  unfold sld
  rw [nI_clamp (by omega), if_pos ⟨nI_pos (by omega), h⟩]
theorem sld_at {D : Dat} {i k : Nat} (h : i + k < sN D) (hN : sN D ≤ 384) : sld D (nI i + nI k) = some (sX D (i + k)) := by
  rw [nI_add]
  exact sld_0 h hN
theorem apart.symm {m m2 : Mem} (h : apart m m2) : apart m2 m := fun q => (h q).symm
theorem mun_comm {m m2 : Mem} (h : apart m m2) : mun m m2 = mun m2 m := by
  funext q
  rcases h q with e | e
  · rw [mun_r e]
    cases hm : m2 q with
    | none => rw [mun_r hm, e]
    | some x => rw [mun_l hm]
  · cases hm : m q with
    | none => rw [mun_r hm, mun_r e, hm]; exact e
    | some x => rw [mun_l hm, mun_r e, hm]
section VL
variable {D : Dat} {d : Nat} {I : Inf} {pc pc2 : Nat} {L : List (Nat × Value)} {st st0 : List Value} {m m1 m2 m' : Mem} {kc ks kc0 ks0 : Nat} {Q : Option Value → Mem → Prop}
theorem V_sld {i v : Int32} (h : sld D i = some v) (hd : decode I.2.1 pc = .ok (.iaload, 1)) (k : V D d I pc2 L (.int v :: st) m kc ks Q) (hp : pc2 = pc + 1 := by rfl) : V D d I pc L (.int i :: .ref (sB D) :: st) m kc ks Q := by
  unfold sld at h
  split at h
  · next hc =>
    cases h
    subst hp
    intro p l e R s mm args below meth c H locs cells slots ls A mc ms QQ hC hW hl g1 g2 hRm hq
    obtain ⟨ws, hR, hP, hD, hS⟩ := id hW
    exact va_ti hC.1 hC.2.1 hC.2.2.2.2.2.2.2.2.2.1.2.2.2.2.2.2.2 hS (fun z => z.elim hc.1 (fun z => absurd hc.2 (Nat.not_lt.mpr z))) rfl hd (k p l e R s mm args below meth c H locs cells slots ls A mc ms QQ hC hW hl g1 g2 hRm hq)
  · cases h
theorem V_slen (hd : decode I.2.1 pc = .ok (.arraylength, 1)) (k : V D d I pc2 L (.int (nI (sN D)) :: st) m kc ks Q) (hp : pc2 = pc + 1 := by rfl) : V D d I pc L (.ref (sB D) :: st) m kc ks Q := by
  subst hp
  intro p l e R s mm args below meth c H locs cells slots ls A mc ms QQ hC hW hl g1 g2 hRm hq
  obtain ⟨ws, hR, hP, hD, hS⟩ := id hW
  exact va_tlen hC.1 hC.2.1 hC.2.2.2.2.2.2.2.2.2.1.2.2.2.2.2.2.2 hS rfl hd (k p l e R s mm args below meth c H locs cells slots ls A mc ms QQ hC hW hl g1 g2 hRm hq)
theorem V_c7 {J : Inf} {index d2 n a1 : Nat} {v : Int32} {fs : List Value} (As : List Value) (hT : T D d2 J (.ref a1 :: As) m 0 0 (Qi v m')) (ha : apart m m2) (hb : m a1 = some (.inr (7, fs))) (hd : decode I.2.1 pc = .ok (.invokevirtual index, 3)) (hL : MLv I.1.cls index 7 J n) (hdd : d2 < d) (hn : As.length = n) (hs : ((st.map fun v => v.category).sum) ≤ 8) (k : apart m' m2 → V D d I pc2 L (.int v :: st) (mun m' m2) kc ks Q) (hst : As.reverse ++ .ref a1 :: st = st0 := by rfl) (hp : pc2 = pc + 3 := by rfl) : V D d I pc L st0 (mun m m2) kc ks Q := by
  subst hst
  obtain ⟨C, c1, c2, c3, c4, c5, c6, c7, c8⟩ := hL
  exact V_callV (kc := kc) (ks := ks) (T_frame ha hT) hd (mun_l hb) c1 c2 c3 c4 c5 c6 c7 hn (by simp; omega) hs (fun r m9 hq => by
    obtain ⟨m1, ⟨rfl, rfl⟩, rfl, hap⟩ := hq
    exact k hap) hp
theorem V_c7t {J : Inf} {index d2 n a1 : Nat} {v : Int32} {fs : List Value} {P : Mem → Prop} (As : List Value) (hT : T D d2 J (.ref a1 :: As) m 3 188 (fun r m1 => r = some (.int v) ∧ P m1)) (ha : apart m m2) (hb : m a1 = some (.inr (7, fs))) (hd : decode I.2.1 pc = .ok (.invokevirtual index, 3)) (hL : MLv I.1.cls index 7 J n) (hdd : d2 < d) (hn : As.length = n) (hs : ((st.map fun v => v.category).sum) ≤ 8) (k : ∀ m', apart m' m2 → P m' → V D d I pc2 L (.int v :: st) (mun m' m2) kc ks Q) (hst : As.reverse ++ .ref a1 :: st = st0 := by rfl) (hp : pc2 = pc + 3 := by rfl) : V D d I pc L st0 (mun m m2) (kc + 3) (ks + 188) Q := by
  subst hst
  obtain ⟨C, c1, c2, c3, c4, c5, c6, c7, c8⟩ := hL
  exact V_callV (kc := kc) (ks := ks) (T_frame ha hT) hd (mun_l hb) c1 c2 c3 c4 c5 c6 c7 hn (by simp; omega) hs (fun r m9 hq => by
    obtain ⟨m1, ⟨rfl, h⟩, rfl, hap⟩ := hq
    exact k m1 hap h) hp
theorem V_c8 {J : Inf} {index d2 n a2 : Nat} {v : Int32} {fs : List Value} (As : List Value) (hT : T D d2 J (.ref a2 :: As) m2 0 0 (Qi v m')) (ha : apart m m2) (hb : m2 a2 = some (.inr (8, fs))) (hd : decode I.2.1 pc = .ok (.invokevirtual index, 3)) (hL : MLv I.1.cls index 8 J n) (hdd : d2 < d) (hn : As.length = n) (hs : ((st.map fun v => v.category).sum) ≤ 8) (k : apart m m' → V D d I pc2 L (.int v :: st) (mun m m') kc ks Q) (hst : As.reverse ++ .ref a2 :: st = st0 := by rfl) (hp : pc2 = pc + 3 := by rfl) : V D d I pc L st0 (mun m m2) kc ks Q := by
  subst hst
  obtain ⟨C, c1, c2, c3, c4, c5, c6, c7, c8⟩ := hL
  rw [mun_comm ha]
  exact V_callV (kc := kc) (ks := ks) (T_frame ha.symm hT) hd (mun_l hb) c1 c2 c3 c4 c5 c6 c7 hn (by simp; omega) hs (fun r m9 hq => by
    obtain ⟨m1, ⟨rfl, rfl⟩, rfl, hap⟩ := hq
    rw [mun_comm hap]
    exact k hap.symm) hp
end VL
abbrev lwL (D : Dat) (a1 a2 i : Nat) : List (Nat × Value) := [(0, .ref (sB D)), (1, .ref a1), (2, .ref a2), (3, .int (nI i))]
def LwS (nT : Nat) (nd nd2 : Nat → Option Nat) (ad ad2 : Nat → Nat) (c : Nat → pE) (fi : Nat → Int32) (fa : Nat → Nat → Int32) (a1 a2 : Nat) : Prop := Lay nd ad (KC nT) ∧ Lay nd2 ad2 KR ∧ Inv nT c ad fi fa ∧ apart (MM nd c) (MR nd2 ad2 fi fa) ∧ ad 0 = a1 ∧ ad2 31 = a2
def LwK (D : Dat) (nm : String) (i a1 a2 : Nat) (nd2 : Nat → Option Nat) (ad2 : Nat → Nat) (kc ks : Nat) (Q : Option Value → Mem → Prop) : Prop := ∀ (nT : Nat) (nd : Nat → Option Nat) (ad : Nat → Nat) (c : Nat → pE) (fi : Nat → Int32) (fa : Nat → Nat → Int32), LwS nT nd nd2 ad ad2 c fi fa a1 a2 → V D 140 (IL nm) 1563 (lwL D a1 a2 i) [] (mun (MM nd c) (MR nd2 ad2 fi fa)) kc ks Q
theorem cls_at {nT : Nat} {nd : Nat → Option Nat} {ad : Nat → Nat} {c : Nat → pE} {fi : Nat → Int32} {fa : Nat → Nat → Int32} (hL : Lay nd ad (KC nT)) (h : Inv nT c ad fi fa) : MM nd c (ad 0) = some (.inr (7, objF ad (fi 3) (fi 29))) := MM_a hL KC_0 rfl h.1.1
theorem ref_at {nd : Nat → Option Nat} {ad : Nat → Nat} {fi : Nat → Int32} {fa : Nat → Nat → Int32} (hR : Lay nd ad KR) : MR nd ad fi fa (ad 31) = some (.inr (8, objR ad fi)) := MM_a hR KR_o rfl cR_o
