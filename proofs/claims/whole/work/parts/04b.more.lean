section VX
variable {D : Dat} {d : Nat} {I : Inf} {pc pc2 : Nat} {L : List (Nat × Value)} {st st0 : List Value} {m m1 : Mem} {kc ks : Nat} {Q : Option Value → Mem → Prop}
theorem V_ixor {x y : Int32} (hd : decode I.2.1 pc = .ok (.ixor, 1)) (k : V D d I pc2 L (.int (x ^^^ y) :: st) m kc ks Q) (hp : pc2 = pc + 1 := by rfl) : V D d I pc L (.int y :: .int x :: st) m kc ks Q := by
  subst hp
  intro p l e s mm args below meth c H locs cells slots ls A mc ms Qc hC hW hl g1 g2 hq
  exact lv_ixor hC.1 hC.2.1 hd (k p l e s mm args below meth c H locs cells slots ls A mc ms Qc hC hW hl g1 g2 hq)
theorem V_tableG {dflt lo hi : Int} {offs : Array Int} {len tgt : Nat} {x : Int32} (S : List Nat) (hd : decode I.2.1 pc = .ok (.tableswitch dflt lo hi offs, len)) (hS : ∀ j, j < (hi - lo + 1).toNat → j ∉ S → offs[j]? = some dflt) (hx : ¬ x.toInt < lo → ¬ hi < x.toInt → (x.toInt - lo).toNat ∉ S) (k : V D d I tgt L st m kc ks Q) (ht : (pc : Int) + dflt = (tgt : Int) := by rfl) : V D d I pc L (.int x :: st) m kc ks Q := by
  by_cases h1 : x.toInt < lo
  · exact V_tableD hd (Or.inl h1) k ht
  by_cases h2 : hi < x.toInt
  · exact V_tableD hd (Or.inr h2) k ht
  intro p l e s mm args below meth c H locs cells slots ls A mc ms Qc hC hW hl g1 g2 hq
  exact lv_tableIn hC.1 hC.2.1 hd h1 h2 (hS _ (by omega) (hx h1 h2)) ht (k p l e s mm args below meth c H locs cells slots ls A mc ms Qc hC hW hl g1 g2 hq)
def stR (m : Mem) (a t ci : Nat) (i : Int32) (v : Nat) : Option Mem := match m a, m v with
  | some (.inl (t1, n, .inr (.inr (.inr (.inr f))))), some (.inr (c, _)) => if t1 = t ∧ c = ci ∧ ¬ i < 0 ∧ i.toNatClampNeg < n then some (mup m a (.inl (t, n, .inr (.inr (.inr (.inr (va_up f i.toNatClampNeg (some v)))))))) else none
  | _, _ => none
theorem stR_of {a t ci v : Nat} {i : Int32} (h : stR m a t ci i v = some m1) : ∃ n f vs, m a = some (.inl (t, n, .inr (.inr (.inr (.inr f))))) ∧ m v = some (.inr (ci, vs)) ∧ vp_in i n ∧ m1 = mup m a (.inl (t, n, .inr (.inr (.inr (.inr (va_up f i.toNatClampNeg (some v))))))) := by
  unfold stR at h
  split at h
  · next t1 n f c vs h1 h2 =>
    split at h
    · next hc =>
      obtain ⟨rfl, rfl, c1, c2⟩ := hc
      cases h
      exact ⟨n, f, vs, h1, h2, fun z => z.elim c1 (fun z => by omega), rfl⟩
    · cases h
  · cases h
theorem V_stR {a t ci v : Nat} {i : Int32} {C : vw_C} (h : stR m a t ci i v = some m1) (hd : decode I.2.1 pc = .ok (.aastore, 1)) (hc : cls[ci]? = some C) (ht : tyL[t]? = some (.object C.1)) (k : V D d I pc2 L st m1 kc ks Q) (hp : pc2 = pc + 1 := by rfl) : V D d I pc L (.ref v :: .int i :: .ref a :: st) m kc ks Q := by
  obtain ⟨n, f, vs, h1, h2, h3, rfl⟩ := stR_of h
  exact V_aast hd h1 h2 hc ht h3 k hp
end VX
theorem inj1 {A1 : Type} {a1 b1 : A1} (h : some a1 = some b1) : a1 = b1 := by cases h; exact rfl
theorem inj2 {A1 A2 : Type} {a1 b1 : A1} {a2 b2 : A2} (h : some (a1, a2) = some (b1, b2)) : a1 = b1 ∧ a2 = b2 := by cases h; exact ⟨rfl, rfl⟩
theorem inj3 {A1 A2 A3 : Type} {a1 b1 : A1} {a2 b2 : A2} {a3 b3 : A3} (h : some (a1, a2, a3) = some (b1, b2, b3)) : a1 = b1 ∧ a2 = b2 ∧ a3 = b3 := by cases h; exact ⟨rfl, rfl, rfl⟩
theorem inj4 {A1 A2 A3 A4 : Type} {a1 b1 : A1} {a2 b2 : A2} {a3 b3 : A3} {a4 b4 : A4} (h : some (a1, a2, a3, a4) = some (b1, b2, b3, b4)) : a1 = b1 ∧ a2 = b2 ∧ a3 = b3 ∧ a4 = b4 := by cases h; exact ⟨rfl, rfl, rfl, rfl⟩
theorem inj5 {A1 A2 A3 A4 A5 : Type} {a1 b1 : A1} {a2 b2 : A2} {a3 b3 : A3} {a4 b4 : A4} {a5 b5 : A5} (h : some (a1, a2, a3, a4, a5) = some (b1, b2, b3, b4, b5)) : a1 = b1 ∧ a2 = b2 ∧ a3 = b3 ∧ a4 = b4 ∧ a5 = b5 := by cases h; exact ⟨rfl, rfl, rfl, rfl, rfl⟩
theorem inj6 {A1 A2 A3 A4 A5 A6 : Type} {a1 b1 : A1} {a2 b2 : A2} {a3 b3 : A3} {a4 b4 : A4} {a5 b5 : A5} {a6 b6 : A6} (h : some (a1, a2, a3, a4, a5, a6) = some (b1, b2, b3, b4, b5, b6)) : a1 = b1 ∧ a2 = b2 ∧ a3 = b3 ∧ a4 = b4 ∧ a5 = b5 ∧ a6 = b6 := by cases h; exact ⟨rfl, rfl, rfl, rfl, rfl, rfl⟩
theorem inj7 {A1 A2 A3 A4 A5 A6 A7 : Type} {a1 b1 : A1} {a2 b2 : A2} {a3 b3 : A3} {a4 b4 : A4} {a5 b5 : A5} {a6 b6 : A6} {a7 b7 : A7} (h : some (a1, a2, a3, a4, a5, a6, a7) = some (b1, b2, b3, b4, b5, b6, b7)) : a1 = b1 ∧ a2 = b2 ∧ a3 = b3 ∧ a4 = b4 ∧ a5 = b5 ∧ a6 = b6 ∧ a7 = b7 := by cases h; exact ⟨rfl, rfl, rfl, rfl, rfl, rfl, rfl⟩
theorem pinj1 {A1 : Type} {a1 b1 : A1} (h : a1 = b1) : a1 = b1 := by cases h; exact rfl
theorem pinj2 {A1 A2 : Type} {a1 b1 : A1} {a2 b2 : A2} (h : (a1, a2) = (b1, b2)) : a1 = b1 ∧ a2 = b2 := by cases h; exact ⟨rfl, rfl⟩
theorem pinj3 {A1 A2 A3 : Type} {a1 b1 : A1} {a2 b2 : A2} {a3 b3 : A3} (h : (a1, a2, a3) = (b1, b2, b3)) : a1 = b1 ∧ a2 = b2 ∧ a3 = b3 := by cases h; exact ⟨rfl, rfl, rfl⟩
theorem pinj4 {A1 A2 A3 A4 : Type} {a1 b1 : A1} {a2 b2 : A2} {a3 b3 : A3} {a4 b4 : A4} (h : (a1, a2, a3, a4) = (b1, b2, b3, b4)) : a1 = b1 ∧ a2 = b2 ∧ a3 = b3 ∧ a4 = b4 := by cases h; exact ⟨rfl, rfl, rfl, rfl⟩
theorem pinj5 {A1 A2 A3 A4 A5 : Type} {a1 b1 : A1} {a2 b2 : A2} {a3 b3 : A3} {a4 b4 : A4} {a5 b5 : A5} (h : (a1, a2, a3, a4, a5) = (b1, b2, b3, b4, b5)) : a1 = b1 ∧ a2 = b2 ∧ a3 = b3 ∧ a4 = b4 ∧ a5 = b5 := by cases h; exact ⟨rfl, rfl, rfl, rfl, rfl⟩
theorem pinj6 {A1 A2 A3 A4 A5 A6 : Type} {a1 b1 : A1} {a2 b2 : A2} {a3 b3 : A3} {a4 b4 : A4} {a5 b5 : A5} {a6 b6 : A6} (h : (a1, a2, a3, a4, a5, a6) = (b1, b2, b3, b4, b5, b6)) : a1 = b1 ∧ a2 = b2 ∧ a3 = b3 ∧ a4 = b4 ∧ a5 = b5 ∧ a6 = b6 := by cases h; exact ⟨rfl, rfl, rfl, rfl, rfl, rfl⟩
theorem pinj7 {A1 A2 A3 A4 A5 A6 A7 : Type} {a1 b1 : A1} {a2 b2 : A2} {a3 b3 : A3} {a4 b4 : A4} {a5 b5 : A5} {a6 b6 : A6} {a7 b7 : A7} (h : (a1, a2, a3, a4, a5, a6, a7) = (b1, b2, b3, b4, b5, b6, b7)) : a1 = b1 ∧ a2 = b2 ∧ a3 = b3 ∧ a4 = b4 ∧ a5 = b5 ∧ a6 = b6 ∧ a7 = b7 := by cases h; exact ⟨rfl, rfl, rfl, rfl, rfl, rfl, rfl⟩
theorem T_of_VF {D : Dat} {d : Nat} {I : Inf} {av : List Value} {m : Mem} {mc ms : Nat} {Q : Option Value → Mem → Prop} (hy : plainFor I.1 = true) (ha : (lg_sl av).length ≤ I.2.2.1) (k : V D d I 0 (lv_args 0 av) [] m mc ms Q) : T D d I av m mc ms Q := by
  intro l sz
  refine va_MetF (cc := I.2.1) (maxL := I.2.2.1) (ret := I.2.2.2) hy rfl ?_
  intro p e s mm args below meth c s₁ B hml hv
  obtain ⟨rfl, hsz, ⟨ws, hR, hP, hD0⟩, hK, hE⟩ := hv
  have hts := atoms_spec (ws := wI I :: GW) B.pre
  have hD : va_D (Am m sz) ws := hD0.weaken (fun k q hk _ => Or.inl (by obtain ⟨e, he⟩ := hR.dom hk; rw [he]; exact fun z => by cases z))
  have hl := lv_entry av (n := I.2.2.1) ha
  rw [lg_entry_eq]
  refine k p l e s mm _ below meth c s.heap [] 0 0 _ (Am m sz) mc ms (Qw D m sz Q) ⟨B.exec, B.bytes, hml, B.returns, B.notSynchronized, (name_of_methodNamed B.named B.method).1, findClass_of_methodNamed B.named, fun w hw => hts w (List.mem_cons_of_mem _ hw), hK, hE, fun q hq => Or.inr (by omega)⟩ ⟨ws, hR, hP, hD, va_S.rf⟩ hl (by omega) (by omega) ?_
  intro r m1 H1 locs1 hQ hW t ht hWm
  obtain ⟨ws1, hR1, hP1, hD1, hS1⟩ := hW
  exact ⟨⟨r, m1, ws1, rfl, hQ, hR1, by rw [ht]; exact hP1, hD1⟩, hS1.F ht⟩
