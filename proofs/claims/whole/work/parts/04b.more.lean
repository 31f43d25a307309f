section VX
variable {D : Dat} {d : Nat} {I : Inf} {pc pc2 : Nat} {L : List (Nat × Value)} {st st0 : List Value} {m m1 : Mem} {kc ks : Nat} {Q : Option Value → Mem → Prop}
theorem V_ixor {x y : Int32} (hd : decode I.2.1 pc = .ok (.ixor, 1)) (k : V D d I pc2 L (.int (x ^^^ y) :: st) m kc ks Q) (hp : pc2 = pc + 1 := by rfl) : V D d I pc L (.int y :: .int x :: st) m kc ks Q := by
  subst hp
  intro p l e R s mm args below meth c H locs cells slots ls A mc ms QQ hC hW hl g1 g2 hRm hq
  exact lv_ixor hC.1 hC.2.1 hd (k p l e R s mm args below meth c H locs cells slots ls A mc ms QQ hC hW hl g1 g2 hRm hq)
theorem V_tableG {dflt lo hi : Int} {offs : Array Int} {len tgt : Nat} {x : Int32} (S : List Nat) (hd : decode I.2.1 pc = .ok (.tableswitch dflt lo hi offs, len)) (hS : ∀ j, j < (hi - lo + 1).toNat → j ∉ S → offs[j]? = some dflt) (hx : ¬ x.toInt < lo → ¬ hi < x.toInt → (x.toInt - lo).toNat ∉ S) (k : V D d I tgt L st m kc ks Q) (ht : (pc : Int) + dflt = (tgt : Int) := by rfl) : V D d I pc L (.int x :: st) m kc ks Q := by
  by_cases h1 : x.toInt < lo
  · exact V_tableD hd (Or.inl h1) k ht
  by_cases h2 : hi < x.toInt
  · exact V_tableD hd (Or.inr h2) k ht
  intro p l e R s mm args below meth c H locs cells slots ls A mc ms QQ hC hW hl g1 g2 hRm hq
  exact lv_tableIn hC.1 hC.2.1 hd h1 h2 (hS _ (by omega) (hx h1 h2)) ht (k p l e R s mm args below meth c H locs cells slots ls A mc ms QQ hC hW hl g1 g2 hRm hq)
def stR (m : Mem) (a t ci : Nat) (i : Int32) (v : Nat) : Option Mem := match m a, m v with
  | some (.inl (t1, n, .inr (.inr (.inr (.inr f))))), some (.inr (c, _)) => if t1 = t ∧ c = ci ∧ ¬ i < 0 ∧ i.toNatClampNeg < n then some (mup m a (.inl (t, n, .inr (.inr (.inr (.inr (va_up f i.toNatClampNeg (some v)))))))) else none
  | _, _ => none
theorem stR_of {a t ci v : Nat} {i : Int32} (h : stR m a t ci i v = some m1) : ∃ n f vs, m a = some (.inl (t, n, .inr (.inr (.inr (.inr f))))) ∧ m v = some (.inr (ci, vs)) ∧ vp_in i n ∧ m1 = mup m a (.inl (t, n, .inr (.inr (.inr (.inr (va_up f i.toNatClampNeg (some v))))))) := by
  unfold stR at h
  split at h
  · next t1 n f c vs h1 h2 =>
    split at h
    · next hc =>
      obtain ⟨rfl, rfl, c1, c2⟩ := hc
      cases h
      exact ⟨n, f, vs, h1, h2, fun z => z.elim c1 (fun z => by omega), rfl⟩
    · cases h
  · cases h
theorem V_stR {a t ci v : Nat} {i : Int32} {C : vw_C} (h : stR m a t ci i v = some m1) (hd : decode I.2.1 pc = .ok (.aastore, 1)) (hc : cls[ci]? = some C) (ht : tyL[t]? = some (.object C.1)) (k : V D d I pc2 L st m1 kc ks Q) (hp : pc2 = pc + 1 := by rfl) : V D d I pc L (.ref v :: .int i :: .ref a :: st) m kc ks Q := by
  obtain ⟨n, f, vs, h1, h2, h3, rfl⟩ := stR_of h
  exact V_aast hd h1 h2 hc ht h3 k hp
end VX
theorem inj1 {A1 : Type} {a1 b1 : A1} (h : some a1 = some b1) : a1 = b1 := by cases h; exact rfl
theorem inj2 {A1 A2 : Type} {a1 b1 : A1} {a2 b2 : A2} (h : some (a1, a2) = some (b1, b2)) : a1 = b1 ∧ a2 = b2 := by cases h; exact ⟨rfl, rfl⟩
theorem inj3 {A1 A2 A3 : Type} {a1 b1 : A1} {a2 b2 : A2} {a3 b3 : A3} (h : some (a1, a2, a3) = some (b1, b2, b3)) : a1 = b1 ∧ a2 = b2 ∧ a3 = b3 := by cases h; exact ⟨rfl, rfl, rfl⟩
theorem inj4 {A1 A2 A3 A4 : Type} {a1 b1 : A1} {a2 b2 : A2} {a3 b3 : A3} {a4 b4 : A4} (h : some (a1, a2, a3, a4) = some (b1, b2, b3, b4)) : a1 = b1 ∧ a2 = b2 ∧ a3 = b3 ∧ a4 = b4 := by cases h; exact ⟨rfl, rfl, rfl, rfl⟩
theorem inj5 {A1 A2 A3 A4 A5 : Type} {a1 b1 : A1} {a2 b2 : A2} {a3 b3 : A3} {a4 b4 : A4} {a5 b5 : A5} (h : some (a1, a2, a3, a4, a5) = some (b1, b2, b3, b4, b5)) : a1 = b1 ∧ a2 = b2 ∧ a3 = b3 ∧ a4 = b4 ∧ a5 = b5 := by cases h; exact ⟨rfl, rfl, rfl, rfl, rfl⟩
theorem inj6 {A1 A2 A3 A4 A5 A6 : Type} {a1 b1 : A1} {a2 b2 : A2} {a3 b3 : A3} {a4 b4 : A4} {a5 b5 : A5} {a6 b6 : A6} (h : some (a1, a2, a3, a4, a5, a6) = some (b1, b2, b3, b4, b5, b6)) : a1 = b1 ∧ a2 = b2 ∧ a3 = b3 ∧ a4 = b4 ∧ a5 = b5 ∧ a6 = b6 := by cases h; exact ⟨rfl, rfl, rfl, rfl, rfl, rfl⟩
theorem inj7 {A1 A2 A3 A4 A5 A6 A7 : Type} {a1 b1 : A1} {a2 b2 : A2} {a3 b3 : A3} {a4 b4 : A4} {a5 b5 : A5} {a6 b6 : A6} {a7 b7 : A7} (h : some (a1, a2, a3, a4, a5, a6, a7) = some (b1, b2, b3, b4, b5, b6, b7)) : a1 = b1 ∧ a2 = b2 ∧ a3 = b3 ∧ a4 = b4 ∧ a5 = b5 ∧ a6 = b6 ∧ a7 = b7 := by cases h; exact ⟨rfl, rfl, rfl, rfl, rfl, rfl, rfl⟩
theorem pinj1 {A1 : Type} {a1 b1 : A1} (h : a1 = b1) : a1 = b1 := by cases h; exact rfl
theorem pinj2 {A1 A2 : Type} {a1 b1 : A1} {a2 b2 : A2} (h : (a1, a2) = (b1, b2)) : a1 = b1 ∧ a2 = b2 := by cases h; exact ⟨rfl, rfl⟩
theorem pinj3 {A1 A2 A3 : Type} {a1 b1 : A1} {a2 b2 : A2} {a3 b3 : A3} (h : (a1, a2, a3) = (b1, b2, b3)) : a1 = b1 ∧ a2 = b2 ∧ a3 = b3 := by cases h; exact ⟨rfl, rfl, rfl⟩
theorem pinj4 {A1 A2 A3 A4 : Type} {a1 b1 : A1} {a2 b2 : A2} {a3 b3 : A3} {a4 b4 : A4} (h : (a1, a2, a3, a4) = (b1, b2, b3, b4)) : a1 = b1 ∧ a2 = b2 ∧ a3 = b3 ∧ a4 = b4 := by cases h; exact ⟨rfl, rfl, rfl, rfl⟩
theorem pinj5 {A1 A2 A3 A4 A5 : Type} {a1 b1 : A1} {a2 b2 : A2} {a3 b3 : A3} {a4 b4 : A4} {a5 b5 : A5} (h : (a1, a2, a3, a4, a5) = (b1, b2, b3, b4, b5)) : a1 = b1 ∧ a2 = b2 ∧ a3 = b3 ∧ a4 = b4 ∧ a5 = b5 := by cases h; exact ⟨rfl, rfl, rfl, rfl, rfl⟩
theorem pinj6 {A1 A2 A3 A4 A5 A6 : Type} {a1 b1 : A1} {a2 b2 : A2} {a3 b3 : A3} {a4 b4 : A4} {a5 b5 : A5} {a6 b6 : A6} (h : (a1, a2, a3, a4, a5, a6) = (b1, b2, b3, b4, b5, b6)) : a1 = b1 ∧ a2 = b2 ∧ a3 = b3 ∧ a4 = b4 ∧ a5 = b5 ∧ a6 = b6 := by cases h; exact ⟨rfl, rfl, rfl, rfl, rfl, rfl⟩
theorem pinj7 {A1 A2 A3 A4 A5 A6 A7 : Type} {a1 b1 : A1} {a2 b2 : A2} {a3 b3 : A3} {a4 b4 : A4} {a5 b5 : A5} {a6 b6 : A6} {a7 b7 : A7} (h : (a1, a2, a3, a4, a5, a6, a7) = (b1, b2, b3, b4, b5, b6, b7)) : a1 = b1 ∧ a2 = b2 ∧ a3 = b3 ∧ a4 = b4 ∧ a5 = b5 ∧ a6 = b6 ∧ a7 = b7 := by cases h; exact ⟨rfl, rfl, rfl, rfl, rfl, rfl, rfl⟩
theorem T_of_VF {D : Dat} {d : Nat} {I : Inf} {av : List Value} {m : Mem} {mc ms : Nat} {Q : Option Value → Mem → Prop} (hy : plainFor I.1 = true) (ha : (lg_sl av).length ≤ I.2.2.1) (k : V D d I 0 (lv_args 0 av) [] m mc ms Q) : T D d I av m mc ms Q := by
  intro l sz
  refine va_MetF (cc := I.2.1) (maxL := I.2.2.1) (ret := I.2.2.2) hy rfl ?_
  intro p e s mm args below meth c s₁ B hml hv
  obtain ⟨rfl, hsz, ⟨ws, hR, hP, hD0⟩, hK, hE⟩ := hv
  have hts := atoms_spec (ws := wI I :: GW) B.pre
  have hD : va_D (Am m sz) ws := hD0.weaken (fun k q hk _ => Or.inl (by obtain ⟨e, he⟩ := hR.dom hk; rw [he]; exact fun z => by cases z))
  have hl := lv_entry av (n := I.2.2.1) ha
  rw [lg_entry_eq]
  have hlocks := B.notSynchronized
  refine k p l e _ s mm _ below meth c s.heap [] 0 0 _ (Am m sz) mc ms _ ⟨B.exec, B.bytes, hml, B.returns, B.notSynchronized, (name_of_methodNamed B.named B.method).1, findClass_of_methodNamed B.named, fun w hw => hts w (List.mem_cons_of_mem _ hw), hK, hE, fun q hq => Or.inr (by omega)⟩ ⟨ws, hR, hP, hD, va_S.rf⟩ hl (by omega) (by omega) ⟨Nat.le_refl d, Nat.le_refl (40 * d), Nat.le_refl mc, Nat.le_refl ms⟩ ?_
  intro r m1 H1 locs1 cells1 slots1 ls1 pc1 st1 hQ hW hr hc1 hs1
  obtain ⟨ws1, hR1, hP1, hD1, hS1⟩ := hW
  refine W.widen (k := mc) (n := ms) hc1 hs1 ?_
  rcases hr with ⟨v, ty, h1, rfl, rfl, h2, h3⟩ | ⟨h1, rfl, rfl, h2⟩ | ⟨x, rt, h1, rfl, rfl, h2, h3⟩
  · exact W.zret B.exec B.bytes (B.returns.trans h2) h3 (fun t ht hWm => ⟨⟨_, m1, ws1, rfl, hQ, hR1, by rw [ht]; exact hP1, hD1⟩, hS1.F ht⟩) hS1.2.2 h1
  · exact W.vret B.exec B.bytes (B.returns.trans h2) (fun t ht hWm => ⟨⟨_, m1, ws1, rfl, hQ, hR1, by rw [ht]; exact hP1, hD1⟩, hS1.F ht⟩) hS1.2.2 h1
  · exact W.aret B.exec B.bytes (B.returns.trans h2) h3 (by cases x; exact Or.inl rfl; exact Or.inr ⟨_, rfl⟩) (fun t ht hWm => ⟨⟨_, m1, ws1, rfl, hQ, hR1, by rw [ht]; exact hP1, hD1⟩, hS1.F ht⟩) hS1.2.2 h1

/-! the frame rule: what lies apart stays -/
def mun (m m2 : Mem) : Mem := fun q => match m q with
  | some e => some e
  | none => m2 q
def apart (m m2 : Mem) : Prop := ∀ q, m q = none ∨ m2 q = none
theorem mun_l {m m2 : Mem} {q : Nat} {e : pE} (h : m q = some e) : mun m m2 q = some e := by simp [mun, h]
theorem mun_r {m m2 : Mem} {q : Nat} (h : m q = none) : mun m m2 q = m2 q := by simp [mun, h]
theorem T_frame {D : Dat} {d : Nat} {I : Inf} {av : List Value} {m m2 : Mem} {mc ms : Nat} {Q : Option Value → Mem → Prop} (ha : apart m m2) (h : T D d I av m mc ms Q) : T D d I av (mun m m2) mc ms (fun r m9 => ∃ m1, Q r m1 ∧ m9 = mun m1 m2 ∧ apart m1 m2) := by
  intro l sz p e ha0 hc hk s mm args below hf happ hP hK0
  obtain ⟨rfl, hsz, ⟨ws, hR, hPw, hD⟩, hK, hE⟩ := hP
  have hsub : ∀ q, Am m sz q → Am (mun m m2) sz q := by
    rintro q (h1 | h1)
    · cases hm : m q with
      | none => exact absurd hm h1
      | some x => exact Or.inl (by rw [mun_l hm]; exact fun z => by cases z)
    · exact Or.inr h1
  have hR1 : Rl D m (ws.filter (fun q => (m q.1).isSome)) := by
    intro a x
    rw [List.mem_filter, hR a x]
    constructor
    · rintro ⟨⟨e0, h1, h2⟩, h3⟩
      cases hm : m a with
      | none => rw [hm] at h3; cases h3
      | some y =>
        rw [mun_l hm] at h1
        exact ⟨y, rfl, by rw [Option.some.inj h1]; exact h2⟩
    · rintro ⟨e0, h1, h2⟩
      exact ⟨⟨e0, mun_l h1, h2⟩, by rw [h1]; rfl⟩
  have hR2 : Rl D m2 (ws.filter (fun q => (m q.1).isNone)) := by
    intro a x
    rw [List.mem_filter, hR a x]
    constructor
    · rintro ⟨⟨e0, h1, h2⟩, h3⟩
      cases hm : m a with
      | none => rw [mun_r hm] at h1; exact ⟨e0, h1, h2⟩
      | some y => rw [hm] at h3; cases h3
    · rintro ⟨e0, h1, h2⟩
      have hm : m a = none := (ha a).elim (fun z => z) (fun z => by rw [z] at h1; cases h1)
      exact ⟨⟨e0, by rw [mun_r hm]; exact h1, h2⟩, by rw [hm]; rfl⟩
  have hin : ∀ {f : Nat × va_E → Bool} {k : Nat} {q : Nat × va_E}, (ws.filter f)[k]? = some q → ∃ k2 : Nat, ws[k2]? = some q := fun hk => List.getElem?_of_mem (List.mem_filter.mp (List.mem_of_getElem? hk)).1
  have hnd : ws.Pairwise (fun a b => a.1 ≠ b.1) := by
    rw [List.pairwise_iff_getElem]
    intro i j hi hj hij heq
    have := hD.1 i j _ _ (List.getElem?_eq_getElem hi) (List.getElem?_eq_getElem hj) heq
    omega
  have hDf : ∀ (f : Nat × va_E → Bool) (B : Nat → Prop), (∀ q ∈ ws.filter f, B q.1) → va_D B (ws.filter f) := by
    intro f B hB
    have hp := hnd.filter f
    rw [List.pairwise_iff_getElem] at hp
    refine ⟨fun i j x y hi hj hxy => ?_, fun k q hk => hB q (List.mem_of_getElem? hk)⟩
    obtain ⟨li, rfl⟩ := List.getElem?_eq_some_iff.mp hi
    obtain ⟨lj, rfl⟩ := List.getElem?_eq_some_iff.mp hj
    rcases Nat.lt_trichotomy i j with h1 | h1 | h1
    · exact absurd hxy (hp i j li lj h1)
    · exact h1
    · exact absurd hxy.symm (hp j i lj li h1)
  obtain ⟨k, o, h1, h2, h3, ⟨⟨r, m1, ws1, e1, e2, e3, e4, e5⟩, hF⟩, LL, hL1, hL2⟩ := h l sz p e ha0 hc hk s mm _ below hf happ ⟨rfl, hsz, ⟨_, hR1, fun k q hk => by obtain ⟨k2, h9⟩ := hin hk; exact hPw k2 q h9, hDf _ _ (fun _ _ => trivial)⟩, hK, by
    obtain ⟨a1, a2, a3, a4, a5, a6, a7, a8⟩ := hE
    exact ⟨a1, a2.narrow hsub, a3.narrow hsub, a4.narrow hsub, a5, a6.narrow hsub, a7.narrow hsub, a8.narrow hsub⟩⟩ hK0
  have hout : ∀ q, q ∈ ws.filter (fun q => (m q.1).isNone) → q.1 < sz ∧ ¬ Am m sz q.1 := by
    intro q hq
    obtain ⟨k2, h9⟩ := List.getElem?_of_mem (List.mem_filter.mp hq).1
    have hlt : q.1 < sz := by have := (hPw k2 q h9).lt; omega
    refine ⟨hlt, fun z => ?_⟩
    have hn := (List.mem_filter.mp hq).2
    rcases z with z | z
    · cases hm : m q.1 with
      | none => exact z hm
      | some y => rw [hm] at hn; cases hn
    · omega
  have hap : apart m1 m2 := by
    intro q
    cases hm2 : m2 q with
    | none => exact Or.inr rfl
    | some y =>
      refine Or.inl ?_
      cases hm1 : m1 q with
      | none => rfl
      | some x =>
        obtain ⟨k1, hk1⟩ := e3.at hm1
        have := e5.2 k1 _ hk1
        obtain ⟨k2, hk2⟩ := hR2.at hm2
        exact absurd this (hout _ (List.mem_of_getElem? hk2)).2
  refine ⟨k, o, h1, h2, h3, ⟨⟨r, mun m1 m2, ws1 ++ ws.filter (fun q => (m q.1).isNone), e1, ⟨m1, e2, rfl, hap⟩, ?_, e4.app ?_, ?_⟩, hF.1, fun q q1 q2 => hF.2 q q1 (fun z => q2 (hsub q z))⟩, LL, hL1, fun q hq => hsub _ (hL2 q hq)⟩
  · intro a x
    rw [List.mem_append, e3 a x, hR2 a x]
    constructor
    · rintro (⟨y, y1, y2⟩ | ⟨y, y1, y2⟩)
      · exact ⟨y, mun_l y1, y2⟩
      · have hm : m1 a = none := (hap a).elim (fun z => z) (fun z => by rw [z] at y1; cases y1)
        exact ⟨y, by rw [mun_r hm]; exact y1, y2⟩
    · rintro ⟨y, y1, y2⟩
      cases hm : m1 a with
      | none => rw [mun_r hm] at y1; exact Or.inr ⟨y, y1, y2⟩
      | some z => rw [mun_l hm] at y1; cases y1; exact Or.inl ⟨_, rfl, y2⟩
  · intro k2 q hk2
    obtain ⟨k3, h9⟩ := hin hk2
    obtain ⟨g1, g2⟩ := hout q (List.mem_of_getElem? hk2)
    exact (hPw k3 q h9).kept (hF.2 q.1 (by omega) g2)
  · refine va_D.app (e5.weaken (fun _ q _ z => hsub q.1 z)) (hDf _ _ (fun q hq => Or.inl ?_)) (fun i j x y hx hy hxy => ?_)
    · obtain ⟨y, y1, -⟩ := (hR q.1 q.2).mp (List.mem_filter.mp hq).1
      rw [y1]
      exact fun z => by cases z
    · exact (hout y (List.mem_of_getElem? hy)).2 (by rw [← hxy]; exact e5.2 i x hx)
