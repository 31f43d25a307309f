/-! THE CLAIM OUT OF ONE WALK OF THE LAW'S BODY. Your part is whole_start (and what it stands on); all else here is the same for every law, but numbers. -/
def R_law : String := "ParcelRingLaw"
def lw_P (b : Addr) (xs : List Int32) (args : Array Value) (s : State) : Prop := args = #[.ref b] ∧ s.IntsAt b xs ∧ xs.length ≤ 384 ∧ (Jvm.Cond.and given_1 narrow_1).before args s = true
def lw_Q (_ : Array Value) (s : State) (o : Outcome) (t : State) : Prop := o = .returned (some (.int 1)) ∧ Framed s o t [] 600000 7302250
def lw_Z (below : List Frame) (a : Array Value) (s : State) : State → Prop := fun t => ∃ o, t.status = .running ∧ Ended t below o ∧ lw_Q a s o t
/-- the law's own end, with 1 on the stack, nothing written that was there before, its room as the claim has it -/
theorem lw_ret {p : Program} {l : Launch} {e : Env} {s : State} {m : MethodId} {below : List Frame} {meth : Method} {c : Code} {b : Nat} (hx : p.tables.exec = Jvm.exec) (hb : c.code = code) (hr : meth.sig.returnType = ret) (hlocks : meth.locks = false) {pc : Nat} {H : Heap} {ls : Array Slot} (hdg : decode code pc = .ok (.ireturn, 1)) : W p l e room_1 s m #[Value.ref b] below meth c H [] 600000 7302250 (lw_Z below #[Value.ref b] s) (F0 m pc ls [.int 1]) := by
  intro T hT X
  obtain ⟨fs, hret, hrun, hended, hW, hframe⟩ := X.leave (v := some (.int 1)) (hlocks := hlocks) (fun h => by rw [hr] at h; cases h)
  have hmeth' : T.vm.method? m = some meth := X.method'
  refine ⟨T.setFrames fs, ?_, .returned (some (.int 1)), hrun, hended, rfl, ⟨_, rfl⟩, hW, hframe⟩
  jvm_step X.here [X.here.top, hx, hb, hdg, hmeth', hr, ret, narrow_b1]
  (try refine ⟨rfl, ?_⟩); (try refine ⟨rfl, ?_⟩)
  first | (intro acts; rw [hret _ acts rfl rfl rfl]) | rw [hret _ _ rfl rfl rfl]
  exact Steps.refl _
/-- what holds at the law's entry: the machine, the code, the tables' words (any of lw_tbl by 'hts w (by decide +kernel)'), the script of L ints xs at the cell b, what the Statement gives of the start (any of its parts by flat_of_before) -/
def lw_At (p : Program) (s : State) (m : MethodId) (meth : Method) (c : Code) (b L : Nat) (xs : Nat → Int32) : Prop :=
  p.tables.exec = Jvm.exec ∧ c.code = code ∧ meth.sig.returnType = ret ∧ c.maxLocals = 4 ∧ s.vm.findClass R_law = some m.cls ∧ (∀ w ∈ lw_tbl, w.before #[Value.ref b] s = true) ∧ va_X b L xs s s.heap ∧ b < s.heap.size ∧ meth.locks = false ∧ (Jvm.Cond.and given_1 narrow_1).before #[Value.ref b] s = true
-- ===== YOUR PART BEGINS =====
set_option maxRecDepth 100000 in
set_option maxHeartbeats 4000000 in
theorem whole_start {p : Program} {e : Env} {s : State} {m : MethodId} {below : List Frame} {meth : Method} {c : Code} (l : Launch) (hflags : l.flags = flags0) {b L : Nat} {xs : Nat → Int32} (hL : L ≤ 384) (C0 : lw_At p s m meth c b L xs) : W p l e room_1 s m #[Value.ref b] below meth c s.heap [] 0 0 (lw_Z below #[Value.ref b] s) (entryFrame m ([Value.ref b] : List Value).toArray 4) := by
  obtain ⟨hx, hb, hr, hml, hown, hts, hX, hbl, hlocks, hgv⟩ := id C0
  have hA0 : ∀ a : Nat, a < s.heap.size → ¬ (fun q : Nat => s.heap.size ≤ q) a := fun a h => Nat.not_le.mpr h
  have tb : ∀ {w : Cond} (i : Nat), tables_1[i]? = some w → w.before #[Value.ref b] s = true := fun i h => hts _ (List.mem_append_right _ (List.mem_of_getElem? h))
  have hG : ∀ w ∈ GW, w.before #[Value.ref b] s = true := fun w hw => hts w (List.mem_filter.mp hw).1
  have hs := flat_of_before _ hgv
  -- the classes
  have hin : ∀ (k : Nat) (q : vw_C), cls[k]? = some q → (Cond.instantiable q.1 q.2.2).before #[Value.ref b] s = true := by
    intro k q h
    match k, h with
    | 0, h => cases h; exact tb 38 (by decide +kernel)
    | 1, h => cases h; exact tb 154 (by decide +kernel)
    | 2, h => cases h; exact tb 27 (by decide +kernel)
    | 3, h => cases h; exact tb 195 (by decide +kernel)
    | 4, h => cases h; exact tb 213 (by decide +kernel)
    | 5, h => cases h; exact tb 60 (by decide +kernel)
    | 6, h => cases h; exact tb 749 (by decide +kernel)
    | 7, h => cases h; exact tb 19 (by decide +kernel)
    | 8, h => cases h; exact tb 888 (by decide +kernel)
    | k + 9, h => simp [cls] at h
  have h0 : ∀ k : Nat, ∃ z : ClassId × (Nat → Nat), ∀ q : vw_C, cls[k]? = some q → u_Kn s q.1 q.2.1 q.2.2 z.1 z.2 := by
    intro k
    cases hq : cls[k]? with
    | none => exact ⟨(0, fun _ => 0), fun q h => by cases h⟩
    | some q =>
      obtain ⟨cC, iS, h⟩ := u_known hG (inG hq) (hin k q hq)
      exact ⟨(cC, iS), fun q' h' => by cases h'; exact h⟩
  obtain ⟨dz, hdz⟩ := Classical.axiomOfChoice h0
  obtain ⟨cA, kA, comp, f1, f2, f3⟩ := Cond.arrayClass_spec (tb 59 (by decide +kernel) : (Cond.arrayClass .int).before #[Value.ref b] s = true)
  obtain ⟨p1, z1, k1, g1a, g1b, g1c, g1d, g1e⟩ := Cond.arrayOver_spec (tb 33 (by decide +kernel) : (Cond.arrayOver (.object "ParcelRing$Child")).before #[Value.ref b] s = true)
  obtain ⟨p2, z2, k2, g2a, g2b, g2c, g2d, g2e⟩ := Cond.arrayOver_spec (tb 35 (by decide +kernel) : (Cond.arrayOver (.object "ParcelRing$Stop")).before #[Value.ref b] s = true)
  obtain ⟨p3, z3, k3, g3a, g3b, g3c, g3d, g3e⟩ := Cond.arrayOver_spec (tb 37 (by decide +kernel) : (Cond.arrayOver (.object "ParcelRing$Text")).before #[Value.ref b] s = true)
  obtain ⟨p4, z4, k4, g4a, g4b, g4c, g4d, g4e⟩ := Cond.arrayOver_spec (tb 192 (by decide +kernel) : (Cond.arrayOver (.object "ParcelRing$Sheet")).before #[Value.ref b] s = true)
  obtain ⟨p5, z5, k5, g5a, g5b, g5c, g5d, g5e⟩ := Cond.arrayOver_spec (tb 194 (by decide +kernel) : (Cond.arrayOver (.object "ParcelRing$Slot")).before #[Value.ref b] s = true)
  -- what stands apart
  obtain ⟨aA, eA, tA⟩ := va_Tof (tm := (Term.static "ParcelRing" "ABOVE" "[I")) (ty := .int) (N := 6) (f := fun j => .int (abv j)) (by decide) (hs (Cond.arrayOf (Term.static "ParcelRing" "ABOVE" "[I") .int) (by decide +kernel)) (va_eqt (hs (Cond.eq (.length (Term.static "ParcelRing" "ABOVE" "[I")) (.int 6)) (by decide +kernel))) (fun j hj => by
    rcases (show j = 0 ∨ j = 1 ∨ j = 2 ∨ j = 3 ∨ j = 4 ∨ j = 5 by omega) with rfl | rfl | rfl | rfl | rfl | rfl
    · exact va_eqt (hs (Cond.eq (.elem (Term.static "ParcelRing" "ABOVE" "[I") (.int 0)) (.int 0)) (by decide +kernel))
    · exact va_eqt (hs (Cond.eq (.elem (Term.static "ParcelRing" "ABOVE" "[I") (.int 1)) (.int 0)) (by decide +kernel))
    · exact va_eqt (hs (Cond.eq (.elem (Term.static "ParcelRing" "ABOVE" "[I") (.int 2)) (.int 0)) (by decide +kernel))
    · exact va_eqt (hs (Cond.eq (.elem (Term.static "ParcelRing" "ABOVE" "[I") (.int 3)) (.int 1)) (by decide +kernel))
    · exact va_eqt (hs (Cond.eq (.elem (Term.static "ParcelRing" "ABOVE" "[I") (.int 4)) (.int 2)) (by decide +kernel))
    · exact va_eqt (hs (Cond.eq (.elem (Term.static "ParcelRing" "ABOVE" "[I") (.int 5)) (.int 0)) (by decide +kernel))) hA0
  obtain ⟨adK, adV, hS, hE⟩ := vk_Sof (N := 6) (tm := fun i => Term.string "ParcelRing$Reader" ((strT.getD i (0, "")).1)) (len := strL) (byt := strB) (args := #[Value.ref b]) (s := s) (by decide) (fun i hi => by
    rcases (show i = 0 ∨ i = 1 ∨ i = 2 ∨ i = 3 ∨ i = 4 ∨ i = 5 by omega) with rfl | rfl | rfl | rfl | rfl | rfl
    · exact (hs (Cond.exactly (Term.string "ParcelRing$Reader" 84) "java/lang/String") (by decide +kernel))
    · exact (hs (Cond.exactly (Term.string "ParcelRing$Reader" 90) "java/lang/String") (by decide +kernel))
    · exact (hs (Cond.exactly (Term.string "ParcelRing$Reader" 92) "java/lang/String") (by decide +kernel))
    · exact (hs (Cond.exactly (Term.string "ParcelRing$Reader" 118) "java/lang/String") (by decide +kernel))
    · exact (hs (Cond.exactly (Term.string "ParcelRing$Reader" 120) "java/lang/String") (by decide +kernel))
    · exact (hs (Cond.exactly (Term.string "ParcelRing$Reader" 122) "java/lang/String") (by decide +kernel))) (fun i hi => by
    rcases (show i = 0 ∨ i = 1 ∨ i = 2 ∨ i = 3 ∨ i = 4 ∨ i = 5 by omega) with rfl | rfl | rfl | rfl | rfl | rfl
    · exact (hs (Cond.eq (.field (Term.string "ParcelRing$Reader" 84) "java/lang/String" "coder" "B") (.int 0)) (by decide +kernel))
    · exact (hs (Cond.eq (.field (Term.string "ParcelRing$Reader" 90) "java/lang/String" "coder" "B") (.int 0)) (by decide +kernel))
    · exact (hs (Cond.eq (.field (Term.string "ParcelRing$Reader" 92) "java/lang/String" "coder" "B") (.int 0)) (by decide +kernel))
    · exact (hs (Cond.eq (.field (Term.string "ParcelRing$Reader" 118) "java/lang/String" "coder" "B") (.int 0)) (by decide +kernel))
    · exact (hs (Cond.eq (.field (Term.string "ParcelRing$Reader" 120) "java/lang/String" "coder" "B") (.int 0)) (by decide +kernel))
    · exact (hs (Cond.eq (.field (Term.string "ParcelRing$Reader" 122) "java/lang/String" "coder" "B") (.int 0)) (by decide +kernel))) (fun i hi => by
    rcases (show i = 0 ∨ i = 1 ∨ i = 2 ∨ i = 3 ∨ i = 4 ∨ i = 5 by omega) with rfl | rfl | rfl | rfl | rfl | rfl
    · exact (hs (Cond.arrayOf (Term.field (Term.string "ParcelRing$Reader" 84) "java/lang/String" "value" "[B") .byte) (by decide +kernel))
    · exact (hs (Cond.arrayOf (Term.field (Term.string "ParcelRing$Reader" 90) "java/lang/String" "value" "[B") .byte) (by decide +kernel))
    · exact (hs (Cond.arrayOf (Term.field (Term.string "ParcelRing$Reader" 92) "java/lang/String" "value" "[B") .byte) (by decide +kernel))
    · exact (hs (Cond.arrayOf (Term.field (Term.string "ParcelRing$Reader" 118) "java/lang/String" "value" "[B") .byte) (by decide +kernel))
    · exact (hs (Cond.arrayOf (Term.field (Term.string "ParcelRing$Reader" 120) "java/lang/String" "value" "[B") .byte) (by decide +kernel))
    · exact (hs (Cond.arrayOf (Term.field (Term.string "ParcelRing$Reader" 122) "java/lang/String" "value" "[B") .byte) (by decide +kernel))) (fun i hi => by
    rcases (show i = 0 ∨ i = 1 ∨ i = 2 ∨ i = 3 ∨ i = 4 ∨ i = 5 by omega) with rfl | rfl | rfl | rfl | rfl | rfl
    · exact (hs (Cond.eq (.length (Term.field (Term.string "ParcelRing$Reader" 84) "java/lang/String" "value" "[B")) (.int 4)) (by decide +kernel))
    · exact (hs (Cond.eq (.length (Term.field (Term.string "ParcelRing$Reader" 90) "java/lang/String" "value" "[B")) (.int 4)) (by decide +kernel))
    · exact (hs (Cond.eq (.length (Term.field (Term.string "ParcelRing$Reader" 92) "java/lang/String" "value" "[B")) (.int 4)) (by decide +kernel))
    · exact (hs (Cond.eq (.length (Term.field (Term.string "ParcelRing$Reader" 118) "java/lang/String" "value" "[B")) (.int 3)) (by decide +kernel))
    · exact (hs (Cond.eq (.length (Term.field (Term.string "ParcelRing$Reader" 120) "java/lang/String" "value" "[B")) (.int 3)) (by decide +kernel))
    · exact (hs (Cond.eq (.length (Term.field (Term.string "ParcelRing$Reader" 122) "java/lang/String" "value" "[B")) (.int 2)) (by decide +kernel))) (fun i hi j hj => by
    rcases (show i = 0 ∨ i = 1 ∨ i = 2 ∨ i = 3 ∨ i = 4 ∨ i = 5 by omega) with rfl | rfl | rfl | rfl | rfl | rfl
    · replace hj : j < 4 := hj
      rcases (show j = 0 ∨ j = 1 ∨ j = 2 ∨ j = 3 by omega) with rfl | rfl | rfl | rfl
      · exact (hs (Cond.eq (.elem (Term.field (Term.string "ParcelRing$Reader" 84) "java/lang/String" "value" "[B") (.int 0)) (.int 104)) (by decide +kernel))
      · exact (hs (Cond.eq (.elem (Term.field (Term.string "ParcelRing$Reader" 84) "java/lang/String" "value" "[B") (.int 1)) (.int 111)) (by decide +kernel))
      · exact (hs (Cond.eq (.elem (Term.field (Term.string "ParcelRing$Reader" 84) "java/lang/String" "value" "[B") (.int 2)) (.int 108)) (by decide +kernel))
      · exact (hs (Cond.eq (.elem (Term.field (Term.string "ParcelRing$Reader" 84) "java/lang/String" "value" "[B") (.int 3)) (.int 100)) (by decide +kernel))
    · replace hj : j < 4 := hj
      rcases (show j = 0 ∨ j = 1 ∨ j = 2 ∨ j = 3 by omega) with rfl | rfl | rfl | rfl
      · exact (hs (Cond.eq (.elem (Term.field (Term.string "ParcelRing$Reader" 90) "java/lang/String" "value" "[B") (.int 0)) (.int 115)) (by decide +kernel))
      · exact (hs (Cond.eq (.elem (Term.field (Term.string "ParcelRing$Reader" 90) "java/lang/String" "value" "[B") (.int 1)) (.int 116)) (by decide +kernel))
      · exact (hs (Cond.eq (.elem (Term.field (Term.string "ParcelRing$Reader" 90) "java/lang/String" "value" "[B") (.int 2)) (.int 111)) (by decide +kernel))
      · exact (hs (Cond.eq (.elem (Term.field (Term.string "ParcelRing$Reader" 90) "java/lang/String" "value" "[B") (.int 3)) (.int 112)) (by decide +kernel))
    · replace hj : j < 4 := hj
      rcases (show j = 0 ∨ j = 1 ∨ j = 2 ∨ j = 3 by omega) with rfl | rfl | rfl | rfl
      · exact (hs (Cond.eq (.elem (Term.field (Term.string "ParcelRing$Reader" 92) "java/lang/String" "value" "[B") (.int 0)) (.int 102)) (by decide +kernel))
      · exact (hs (Cond.eq (.elem (Term.field (Term.string "ParcelRing$Reader" 92) "java/lang/String" "value" "[B") (.int 1)) (.int 105)) (by decide +kernel))
      · exact (hs (Cond.eq (.elem (Term.field (Term.string "ParcelRing$Reader" 92) "java/lang/String" "value" "[B") (.int 2)) (.int 110)) (by decide +kernel))
      · exact (hs (Cond.eq (.elem (Term.field (Term.string "ParcelRing$Reader" 92) "java/lang/String" "value" "[B") (.int 3)) (.int 101)) (by decide +kernel))
    · replace hj : j < 3 := hj
      rcases (show j = 0 ∨ j = 1 ∨ j = 2 by omega) with rfl | rfl | rfl
      · exact (hs (Cond.eq (.elem (Term.field (Term.string "ParcelRing$Reader" 118) "java/lang/String" "value" "[B") (.int 0)) (.int 104)) (by decide +kernel))
      · exact (hs (Cond.eq (.elem (Term.field (Term.string "ParcelRing$Reader" 118) "java/lang/String" "value" "[B") (.int 1)) (.int 97)) (by decide +kernel))
      · exact (hs (Cond.eq (.elem (Term.field (Term.string "ParcelRing$Reader" 118) "java/lang/String" "value" "[B") (.int 2)) (.int 102)) (by decide +kernel))
    · replace hj : j < 3 := hj
      rcases (show j = 0 ∨ j = 1 ∨ j = 2 by omega) with rfl | rfl | rfl
      · exact (hs (Cond.eq (.elem (Term.field (Term.string "ParcelRing$Reader" 120) "java/lang/String" "value" "[B") (.int 0)) (.int 115)) (by decide +kernel))
      · exact (hs (Cond.eq (.elem (Term.field (Term.string "ParcelRing$Reader" 120) "java/lang/String" "value" "[B") (.int 1)) (.int 112)) (by decide +kernel))
      · exact (hs (Cond.eq (.elem (Term.field (Term.string "ParcelRing$Reader" 120) "java/lang/String" "value" "[B") (.int 2)) (.int 116)) (by decide +kernel))
    · replace hj : j < 2 := hj
      rcases (show j = 0 ∨ j = 1 by omega) with rfl | rfl
      · exact (hs (Cond.eq (.elem (Term.field (Term.string "ParcelRing$Reader" 122) "java/lang/String" "value" "[B") (.int 0)) (.int 97)) (by decide +kernel))
      · exact (hs (Cond.eq (.elem (Term.field (Term.string "ParcelRing$Reader" 122) "java/lang/String" "value" "[B") (.int 1)) (.int 112)) (by decide +kernel))) (fun i j hi hj hij => by
    rcases (show i = 0 ∨ i = 1 ∨ i = 2 ∨ i = 3 ∨ i = 4 ∨ i = 5 by omega) with rfl | rfl | rfl | rfl | rfl | rfl <;> rcases (show j = 0 ∨ j = 1 ∨ j = 2 ∨ j = 3 ∨ j = 4 ∨ j = 5 by omega) with rfl | rfl | rfl | rfl | rfl | rfl
    · exact absurd rfl hij
    · exact Or.inl (hs (Cond.not (Cond.eq (Term.string "ParcelRing$Reader" 84) (Term.string "ParcelRing$Reader" 90))) (by decide +kernel))
    · exact Or.inl (hs (Cond.not (Cond.eq (Term.string "ParcelRing$Reader" 84) (Term.string "ParcelRing$Reader" 92))) (by decide +kernel))
    · exact Or.inl (hs (Cond.not (Cond.eq (Term.string "ParcelRing$Reader" 84) (Term.string "ParcelRing$Reader" 118))) (by decide +kernel))
    · exact Or.inl (hs (Cond.not (Cond.eq (Term.string "ParcelRing$Reader" 84) (Term.string "ParcelRing$Reader" 120))) (by decide +kernel))
    · exact Or.inl (hs (Cond.not (Cond.eq (Term.string "ParcelRing$Reader" 84) (Term.string "ParcelRing$Reader" 122))) (by decide +kernel))
    · exact Or.inr (hs (Cond.not (Cond.eq (Term.string "ParcelRing$Reader" 84) (Term.string "ParcelRing$Reader" 90))) (by decide +kernel))
    · exact absurd rfl hij
    · exact Or.inl (hs (Cond.not (Cond.eq (Term.string "ParcelRing$Reader" 90) (Term.string "ParcelRing$Reader" 92))) (by decide +kernel))
    · exact Or.inl (hs (Cond.not (Cond.eq (Term.string "ParcelRing$Reader" 90) (Term.string "ParcelRing$Reader" 118))) (by decide +kernel))
    · exact Or.inl (hs (Cond.not (Cond.eq (Term.string "ParcelRing$Reader" 90) (Term.string "ParcelRing$Reader" 120))) (by decide +kernel))
    · exact Or.inl (hs (Cond.not (Cond.eq (Term.string "ParcelRing$Reader" 90) (Term.string "ParcelRing$Reader" 122))) (by decide +kernel))
    · exact Or.inr (hs (Cond.not (Cond.eq (Term.string "ParcelRing$Reader" 84) (Term.string "ParcelRing$Reader" 92))) (by decide +kernel))
    · exact Or.inr (hs (Cond.not (Cond.eq (Term.string "ParcelRing$Reader" 90) (Term.string "ParcelRing$Reader" 92))) (by decide +kernel))
    · exact absurd rfl hij
    · exact Or.inl (hs (Cond.not (Cond.eq (Term.string "ParcelRing$Reader" 92) (Term.string "ParcelRing$Reader" 118))) (by decide +kernel))
    · exact Or.inl (hs (Cond.not (Cond.eq (Term.string "ParcelRing$Reader" 92) (Term.string "ParcelRing$Reader" 120))) (by decide +kernel))
    · exact Or.inl (hs (Cond.not (Cond.eq (Term.string "ParcelRing$Reader" 92) (Term.string "ParcelRing$Reader" 122))) (by decide +kernel))
    · exact Or.inr (hs (Cond.not (Cond.eq (Term.string "ParcelRing$Reader" 84) (Term.string "ParcelRing$Reader" 118))) (by decide +kernel))
    · exact Or.inr (hs (Cond.not (Cond.eq (Term.string "ParcelRing$Reader" 90) (Term.string "ParcelRing$Reader" 118))) (by decide +kernel))
    · exact Or.inr (hs (Cond.not (Cond.eq (Term.string "ParcelRing$Reader" 92) (Term.string "ParcelRing$Reader" 118))) (by decide +kernel))
    · exact absurd rfl hij
    · exact Or.inl (hs (Cond.not (Cond.eq (Term.string "ParcelRing$Reader" 118) (Term.string "ParcelRing$Reader" 120))) (by decide +kernel))
    · exact Or.inl (hs (Cond.not (Cond.eq (Term.string "ParcelRing$Reader" 118) (Term.string "ParcelRing$Reader" 122))) (by decide +kernel))
    · exact Or.inr (hs (Cond.not (Cond.eq (Term.string "ParcelRing$Reader" 84) (Term.string "ParcelRing$Reader" 120))) (by decide +kernel))
    · exact Or.inr (hs (Cond.not (Cond.eq (Term.string "ParcelRing$Reader" 90) (Term.string "ParcelRing$Reader" 120))) (by decide +kernel))
    · exact Or.inr (hs (Cond.not (Cond.eq (Term.string "ParcelRing$Reader" 92) (Term.string "ParcelRing$Reader" 120))) (by decide +kernel))
    · exact Or.inr (hs (Cond.not (Cond.eq (Term.string "ParcelRing$Reader" 118) (Term.string "ParcelRing$Reader" 120))) (by decide +kernel))
    · exact absurd rfl hij
    · exact Or.inl (hs (Cond.not (Cond.eq (Term.string "ParcelRing$Reader" 120) (Term.string "ParcelRing$Reader" 122))) (by decide +kernel))
    · exact Or.inr (hs (Cond.not (Cond.eq (Term.string "ParcelRing$Reader" 84) (Term.string "ParcelRing$Reader" 122))) (by decide +kernel))
    · exact Or.inr (hs (Cond.not (Cond.eq (Term.string "ParcelRing$Reader" 90) (Term.string "ParcelRing$Reader" 122))) (by decide +kernel))
    · exact Or.inr (hs (Cond.not (Cond.eq (Term.string "ParcelRing$Reader" 92) (Term.string "ParcelRing$Reader" 122))) (by decide +kernel))
    · exact Or.inr (hs (Cond.not (Cond.eq (Term.string "ParcelRing$Reader" 118) (Term.string "ParcelRing$Reader" 122))) (by decide +kernel))
    · exact Or.inr (hs (Cond.not (Cond.eq (Term.string "ParcelRing$Reader" 120) (Term.string "ParcelRing$Reader" 122))) (by decide +kernel))
    · exact absurd rfl hij) hA0
  have zA := va_Zref (tb 353 (by decide +kernel)) (tb 1 (by decide +kernel)) eA hA0
  have zC : va_Z "java/lang/String" "COMPACT_STRINGS" "Z" (.int 1) (fun q : Nat => s.heap.size ≤ q) s s.heap := va_Zof (tb 610 (by decide +kernel)) (tb 12 (by decide +kernel)) (va_eqi (hs (Cond.eq (.static "java/lang/String" "COMPACT_STRINGS" "Z") (.int 1)) (by decide +kernel))) hA0
  have zF : va_Zq "jdk/internal/util/Preconditions" "SIOOBE_FORMATTER" "Ljava/util/function/BiFunction;" (fun q : Nat => s.heap.size ≤ q) s s.heap := va_Zqof (tb 626 (by decide +kernel)) (tb 14 (by decide +kernel)) (hs (Cond.isRef (.static "jdk/internal/util/Preconditions" "SIOOBE_FORMATTER" "Ljava/util/function/BiFunction;")) (by decide +kernel)) hA0
  have tS : va_T .int b L (fun j => .int (xs j)) (fun q : Nat => s.heap.size ≤ q) s s.heap := by
    obtain ⟨scr, x1, x2, x3, x4, x5⟩ := hX
    exact ⟨scr, x1, x2, x3, by omega, by rw [x4], x5, hA0 b hbl⟩
  have hNw : ∀ w ∈ NestW, va_Nw w s := by
    intro w hw
    simp only [NestW, List.mem_cons, List.mem_nil_iff, or_false] at hw
    rcases hw with rfl | rfl | rfl | rfl | rfl | rfl | rfl | rfl | rfl | rfl | rfl | rfl | rfl | rfl | rfl | rfl | rfl
    · exact va_Nw.of rfl (tb 39 (by decide +kernel))
    · exact va_Nw.of rfl (tb 61 (by decide +kernel))
    · exact va_Nw.of rfl (tb 155 (by decide +kernel))
    · exact va_Nw.of rfl (tb 196 (by decide +kernel))
    · exact va_Nw.of rfl (tb 214 (by decide +kernel))
    · exact va_Nw.of rfl (tb 219 (by decide +kernel))
    · exact va_Nw.of rfl (tb 221 (by decide +kernel))
    · exact va_Nw.of rfl (tb 291 (by decide +kernel))
    · exact va_Nw.of rfl (tb 303 (by decide +kernel))
    · exact va_Nw.of rfl (tb 374 (by decide +kernel))
    · exact va_Nw.of rfl (tb 550 (by decide +kernel))
    · exact va_Nw.of rfl (tb 375 (by decide +kernel))
    · exact va_AO.of (tb 33 (by decide +kernel))
    · exact va_AO.of (tb 35 (by decide +kernel))
    · exact va_AO.of (tb 37 (by decide +kernel))
    · exact va_AO.of (tb 192 (by decide +kernel))
    · exact va_AO.of (tb 194 (by decide +kernel))
  have hRf : ∀ (i : Nat) (q : Nat × String), strT[i]? = some q → vk_R "ParcelRing$Reader" q.1 q.2 (adK i) s := by
    intro i q hq
    match i, hq with
    | 0, hq => cases hq; exact vk_R.of (tb 596 (by decide +kernel)) (hE 0 (by decide))
    | 1, hq => cases hq; exact vk_R.of (tb 649 (by decide +kernel)) (hE 1 (by decide))
    | 2, hq => cases hq; exact vk_R.of (tb 650 (by decide +kernel)) (hE 2 (by decide))
    | 3, hq => cases hq; exact vk_R.of (tb 679 (by decide +kernel)) (hE 3 (by decide))
    | 4, hq => cases hq; exact vk_R.of (tb 680 (by decide +kernel)) (hE 4 (by decide))
    | 5, hq => cases hq; exact vk_R.of (tb 681 (by decide +kernel)) (hE 5 (by decide))
    | k + 6, hq => simp [strT] at hq
  let D : Dat := ((fun k => (dz k).1, fun k => (dz k).2), (fun t => match t with | 0 => cA | 1 => z1 | 2 => z2 | 3 => z3 | 4 => z4 | _ => z5), aA, adK, adV, b, L, xs)
  have hK : va_K D.1 cls (tysOf D) s := by
    refine ⟨fun k q h => hdz k q h, fun k q hq => ?_⟩
    match k, hq with
    | 0, hq => cases hq; exact ⟨fun n z => ⟨fun k h => (by cases h), kA, f2, comp, f3⟩, f1⟩
    | 1, hq => cases hq; exact ⟨fun n z => ⟨fun k h => (by cases h), k1, g1c, p1, g1d⟩, k1, p1, g1c, g1d, g1a, g1e⟩
    | 2, hq => cases hq; exact ⟨fun n z => ⟨fun k h => (by cases h), k2, g2c, p2, g2d⟩, k2, p2, g2c, g2d, g2a, g2e⟩
    | 3, hq => cases hq; exact ⟨fun n z => ⟨fun k h => (by cases h), k3, g3c, p3, g3d⟩, k3, p3, g3c, g3d, g3a, g3e⟩
    | 4, hq => cases hq; exact ⟨fun n z => ⟨fun k h => (by cases h), k4, g4c, p4, g4d⟩, k4, p4, g4c, g4d, g4a, g4e⟩
    | 5, hq => cases hq; exact ⟨fun n z => ⟨fun k h => (by cases h), k5, g5c, p5, g5d⟩, k5, p5, g5c, g5d, g5a, g5e⟩
    | k + 6, hq => simp [tysOf] at hq
  have hC : Cx D (IL meth.name) (fun q : Nat => s.heap.size ≤ q) p s m #[Value.ref b] meth c := ⟨hx, hb, hml, hr, hlocks, rfl, hown, hG, hK, ⟨hNw, zA, tA, hS, hRf, zC, zF, tS⟩, fun q h => h⟩
  have hl := lv_entry ([.ref b]) (n := 4) (Nat.le_of_ble_eq_true rfl)
  rw [lg_entry_eq]
  refine law_all (nm := meth.name) (D := D) hL p l e room_1 s m #[Value.ref b] below meth c s.heap [] 0 0 _ (fun q : Nat => s.heap.size ≤ q) 327 23136 _ hC ⟨[], fun a x => ⟨fun h => (by cases h), fun h => (by obtain ⟨e9, h9, -⟩ := h; cases h9)⟩, fun k q h => by simp at h, ⟨fun i j p q h => by simp at h, fun k q h => by simp at h⟩, va_S.rf⟩ hl (by omega) (by omega) ⟨Nat.le_of_ble_eq_true rfl, Nat.le_of_ble_eq_true rfl, Nat.le_of_ble_eq_true rfl, Nat.le_of_ble_eq_true rfl⟩ ?_
  intro r m1 H1 locs1 cells1 slots1 ls1 pc1 st1 hQ hW hret hc1 hs1
  obtain ⟨ws, -, -, -, hSS⟩ := hW
  have hQ : r = some (.int 1) := hQ
  rcases hret with ⟨v, ty, h1, h2, h3, h4, h5⟩ | ⟨h1, h2, h3, h4⟩ | ⟨x, rt, h1, h2, h3, h4, h5⟩
  · rw [hQ] at h2
    cases h2
    subst h3
    refine va_forget (fun q hq => hSS.2.2 q hq) ?_
    refine W.widen (k := 600000) (n := 7302250) (Nat.le_trans hc1 (Nat.le_of_ble_eq_true rfl)) (Nat.le_trans hs1 (Nat.le_of_ble_eq_true rfl)) ?_
    exact lw_ret hx hb hr hlocks h1
  · rw [hQ] at h2
    cases h2
  · rw [hQ] at h2
    cases x with
    | none => cases h2
    | some x => cases h2
-- ===== YOUR PART ENDS =====
set_option maxHeartbeats 4000000 in
theorem lw_walk (l : Launch) (hflags : l.flags = flags0) (b : Addr) (xs : List Int32) : MetFree l x (headSpec (Jvm.Cond.code x code maxLocals ret :: tables_1) room_1) (lw_P b xs) (fun _ _ _ _ _ => True) lw_Q := by
  refine MetFree.of_bodyS (code := code) (maxLocals := maxLocals) (ret := ret) (by decide) ?_ ?_
  · intro args s m h hn
    obtain ⟨meth, c, h1, h2, h3, h4, h5, h6, -, -⟩ := Cond.code_spec hn (atoms_spec (ws := Jvm.Cond.code x code maxLocals ret :: tables_1) h _ List.mem_cons_self)
    exact ⟨meth, c, h1, h2, h3, h4, h5, h6⟩
  · intro p e s m args below meth c s₁ B hml0 hP _
    obtain ⟨rfl, hx, hbd, hgv⟩ := hP
    obtain ⟨scr, harrAt, hlist, hof, hsmall⟩ := hx
    obtain ⟨hcb, hkn, -, -⟩ := State.arrayAt?_spec harrAt
    have hown : s.vm.findClass R_law = some m.cls := findClass_of_methodNamed B.named
    have hts0 : ∀ c ∈ (Jvm.Cond.code x code maxLocals ret :: tables_1), c.before #[Value.ref b] s = true := atoms_spec (ws := Jvm.Cond.code x code maxLocals ret :: tables_1) B.pre
    have hts : ∀ w ∈ lw_tbl, w.before #[Value.ref b] s = true := k2_hts_sels lw_privs (fun w hw => hts0 w (List.mem_cons_of_mem _ hw)) lw_privs_ok
    have hml : c.maxLocals = 4 := B.maxLocals_eq (hts0 _ List.mem_cons_self)
    have X₀ : Stand p l e room_1 s m #[Value.ref b] below meth c s₁ [] 0 0 := Stand.of_body B
    have hh0 : s₁.heap = s.heap := by rw [B.state]; rfl
    have hsz : scr.slots.size = xs.length := by rw [← Array.length_toList, hlist, List.length_map]
    have hval : ∀ j : Nat, j < xs.length → scr.slots[j]? = some (.int (xs.getD j 0)) := fun j hj => by
      rw [← Array.getElem?_toList, hlist]
      simp [hj]
    have hbl : b < s.heap.size := (Array.getElem?_eq_some_iff.mp hcb).1
    have hX : va_X b xs.length (fun j => xs.getD j 0) s s.heap := ⟨scr, hcb, hof, hkn, hsz, hval⟩
    have K : W p l e room_1 s m #[Value.ref b] below meth c s₁.heap [] 0 0 (lw_Z below #[Value.ref b] s) (entryFrame m ([Value.ref b] : List Value).toArray 4) := by
      rw [hh0]
      exact whole_start l hflags hbd ⟨B.exec, B.bytes, B.returns, hml, hown, hts, hX, hbl, B.notSynchronized, hgv⟩
    obtain ⟨t, a1, o, b1, b2, b3⟩ := K s₁ rfl X₀
    exact ⟨t, o, a1, b1, b2, b3⟩
theorem lw_pre_spec {args : Array Value} {s : State} (h : (Jvm.Cond.and given_1 narrow_1).before args s = true) (hr : rest_1_c.before args s = true) : ∃ (b : Addr) (xs : List Int32), lw_P b xs args s := by
  have hs := flat_of_before _ h
  have hq := flat_of_before _ hr
  have hc : (Cond.count 1).before args s = true := hs _ (by decide +kernel)
  have harr : (Cond.arrayOf (.arg 0) .int).before args s = true := hs _ (by decide +kernel)
  have hle : (Cond.le (.length (.arg 0)) (.int 384)).before args s = true := hs _ (by decide +kernel)
  have hlen : (Cond.isInt (.length (.arg 0))).before args s = true := hq _ (by decide +kernel)
  have hall : (Cond.all (.arg 0) (.isInt (.elem (.arg 0) (.index 0)))).before args s = true := hq _ (by decide +kernel)
  obtain ⟨b, xs, hb, hx⟩ := State.ints_of_pre rfl harr hlen hall
  have hsm : xs.length < 2 ^ 31 := hx.choose_spec.2.2.2
  have hev : (Term.length (.arg 0)).eval args s none [] s = some (.int xs.length.toInt32) := hx.length_eval hb
  have hv := Cond.le_ints hev (show (Term.int 384).eval args s none [] s = some (.int 384) from rfl)
  have hd : xs.length.toInt32 ≤ 384 := by
    simpa [Cond.before, Cond.holds, hv] using hle
  have hN : xs.length ≤ 384 := (Int32.ofNat_le_ofNat hsm (by decide)).mp (show Int32.ofNat xs.length ≤ Int32.ofNat 384 from hd)
  exact ⟨b, xs, Cond.one_arg hc (show args[0]? = some (.ref b) from hb), hx, hN, h⟩
theorem lw_comes (l : Launch) (hflags : l.flags = flags0) : Comes l x (Jvm.Cond.code x code maxLocals ret :: tables_1) room_1 (fun tb e args s => Calls_1 tb e args s ∧ rest_1 tb e args s ∧ Pre_1 tb e args s)
    (fun _ _ args s o t => lw_Q args s o t) := by
  intro p e ha hc hk s m args below hf hfit hheap happ hpre
  obtain ⟨b, xs, hP⟩ := lw_pre_spec hpre.2.2 hpre.2.1
  obtain ⟨k, o, h1, h2, h3, hQ⟩ := lw_walk l hflags b xs p e ha hc hk s m args below hf ((Spec.applies_iff_loose hf).mp happ).1 hP trivial
  exact ⟨k, o, h1, h2, h3, hQ⟩
theorem lw_frame {s t : State} {o : Outcome} {args : Array Value} (h : Framed s o t [] 600000 7302250) :
    Framed s o t (fieldLocs frame_1_writes args s ++ arrayLocs frame_1_arrays args s ++ staticLocs frame_1_statics s) 600000 7302250 := h
theorem lw_limb (L : Cond) (hL : ∀ (args : Array Value) (s t : State), L.after args s (.returned (some (.int 1))) t = true) :
    ArmFor flags0 classFile x code maxLocals ret World_1 tables_1 room_1 Calls_1 rest_1 Pre_1
      (fun tb e a s o t => postC L tb e a s o t ∧ Framed s o t (fieldLocs frame_1_writes a s ++ arrayLocs frame_1_arrays a s ++ staticLocs frame_1_statics s) 600000 7302250) := by
  intro l hflags _ _ p e ha hc hk s m args below hf hfit hheap happ hpre
  obtain ⟨k, o, h1, h2, h3, rfl, hF⟩ := lw_comes l hflags p e ha hc hk s m args below hf hfit hheap happ hpre
  exact ⟨k, _, h1, h2, h3, hL args s _, lw_frame hF⟩
theorem i_vc : Claimed_1_1 ∧ Claimed_1_2 := ⟨lw_limb limb_1_1 (fun args s t => by simp [limb_1_1, Cond.after, Cond.holds, Cond.value]), lw_limb limb_1_2 (fun args s t => Cond.after_iff.mpr (by
  first | (rw [show limb_1_2 = Cond.eq .result (.int 1) from rfl, Cond.eq_ints (x := 1) (y := 1) rfl rfl]; simp; done) | (simp [limb_1_2, Cond.value, Term.eval]; done)))⟩
