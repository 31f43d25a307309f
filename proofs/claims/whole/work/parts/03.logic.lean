/-! THE V LOGIC: memory as a map from addresses to cells; a method's contract T; a walk's judgement V -/
abbrev pE : Type := (Nat × vp_A) ⊕ (Nat × List Value)
abbrev Mem : Type := Nat → Option pE
/-- class numbers, slot numbers; the array classes; where ABOVE lies; where the String constants and their bytes lie; the script: where, how long, what -/
abbrev Dat : Type := va_G × (Nat → ClassId) × Nat × (Nat → Nat) × (Nat → Nat) × Nat × Nat × (Nat → Int32)
/-- a method: its name, its bytes, its locals, what it returns -/
abbrev Inf : Type := MethodName × ByteArray × Nat × Option FieldType
abbrev wI (I : Inf) : Cond := Cond.code I.1 I.2.1 I.2.2.1 I.2.2.2
def enc (D : Dat) : pE → va_E := fun e => match e with
  | .inl x => .inl (D.2.1 x.1, x.2)
  | .inr o => .inr o
def tyL : List FieldType := [.int, .object "ParcelRing$Child", .object "ParcelRing$Stop", .object "ParcelRing$Text", .object "ParcelRing$Sheet", .object "ParcelRing$Slot"]
def tysOf (D : Dat) : List (ClassId × FieldType) := [(D.2.1 0, .int), (D.2.1 1, .object "ParcelRing$Child"), (D.2.1 2, .object "ParcelRing$Stop"), (D.2.1 3, .object "ParcelRing$Text"), (D.2.1 4, .object "ParcelRing$Sheet"), (D.2.1 5, .object "ParcelRing$Slot")]
theorem tysOf_at (D : Dat) {t : Nat} {ty : FieldType} (h : tyL[t]? = some ty) : (tysOf D)[t]? = some (D.2.1 t, ty) := by
  match t, h with
  | 0, h => cases h; rfl
  | 1, h => cases h; rfl
  | 2, h => cases h; rfl
  | 3, h => cases h; rfl
  | 4, h => cases h; rfl
  | 5, h => cases h; rfl
  | n + 6, h => simp [tyL] at h
def Rl (D : Dat) (m : Mem) (ws : va_W) : Prop := ∀ (a : Nat) (x : va_E), (a, x) ∈ ws ↔ ∃ e, m a = some e ∧ x = enc D e
def mup (m : Mem) (a : Nat) (e : pE) : Mem := fun q => if q = a then some e else m q
theorem mup_s {m : Mem} {a : Nat} {e : pE} : mup m a e a = some e := by simp [mup]
theorem mup_n {m : Mem} {a b : Nat} {e : pE} (h : ¬ b = a) : mup m a e b = m b := by simp [mup, h]
theorem Rl.at {D : Dat} {m : Mem} {ws : va_W} (h : Rl D m ws) {a : Nat} {e : pE} (ha : m a = some e) : ∃ q0 : Nat, ws[q0]? = some (a, enc D e) := List.getElem?_of_mem ((h a _).mpr ⟨e, ha, rfl⟩)
theorem Rl.dom {D : Dat} {m : Mem} {ws : va_W} (h : Rl D m ws) {k : Nat} {q : Nat × va_E} (hk : ws[k]? = some q) : ∃ e, m q.1 = some e := by
  obtain ⟨e, h1, -⟩ := (h q.1 q.2).mp (List.mem_of_getElem? hk)
  exact ⟨e, h1⟩
theorem Rl.set {D : Dat} {m : Mem} {ws : va_W} {A : Nat → Prop} (h : Rl D m ws) (hD : va_D A ws) {q0 a : Nat} {x : va_E} (h0 : ws[q0]? = some (a, x)) (e : pE) : Rl D (mup m a e) (ws.set q0 (a, enc D e)) := by
  have hl := (List.getElem?_eq_some_iff.mp h0).1
  intro b y
  constructor
  · intro hb
    obtain ⟨k, hk⟩ := List.getElem?_of_mem hb
    by_cases hkq : k = q0
    · subst hkq
      rw [List.getElem?_set_self hl] at hk
      cases hk
      exact ⟨e, mup_s, rfl⟩
    · rw [List.getElem?_set_ne (Ne.symm hkq)] at hk
      have hne : ¬ b = a := fun z => hkq (hD.1 k q0 _ _ hk h0 z)
      obtain ⟨e', h1, h2⟩ := (h b y).mp (List.mem_of_getElem? hk)
      exact ⟨e', by rw [mup_n hne]; exact h1, h2⟩
  · rintro ⟨e', h1, rfl⟩
    by_cases hba : b = a
    · subst hba
      rw [mup_s] at h1
      cases h1
      exact List.mem_of_getElem? (i := q0) (List.getElem?_set_self hl)
    · rw [mup_n hba] at h1
      obtain ⟨k, hk⟩ := h.at h1
      have hkq : ¬ k = q0 := fun z => hba (by subst z; rw [h0] at hk; cases hk; rfl)
      exact List.mem_of_getElem? (i := k) (by rw [List.getElem?_set_ne (Ne.symm hkq)]; exact hk)
theorem Rl.push {D : Dat} {m : Mem} {ws : va_W} (h : Rl D m ws) {q : Nat} (hq : m q = none) (e : pE) : Rl D (mup m q e) (ws ++ [(q, enc D e)]) := by
  intro b y
  constructor
  · intro hb
    rcases List.mem_append.mp hb with hb | hb
    · obtain ⟨e', h1, h2⟩ := (h b y).mp hb
      have hne : ¬ b = q := fun z => by rw [z, hq] at h1; cases h1
      exact ⟨e', by rw [mup_n hne]; exact h1, h2⟩
    · cases List.mem_singleton.mp hb
      exact ⟨e, mup_s, rfl⟩
  · rintro ⟨e', h1, rfl⟩
    by_cases hba : b = q
    · subst hba
      rw [mup_s] at h1
      cases h1
      exact List.mem_append_right _ (List.mem_singleton.mpr rfl)
    · rw [mup_n hba] at h1
      exact List.mem_append_left _ ((h b _).mpr ⟨e', h1, rfl⟩)
theorem Rl.fresh {D : Dat} {m : Mem} {ws : va_W} {A : Nat → Prop} (h : Rl D m ws) {q : Nat} {x : va_E} (hD : va_D A (ws ++ [(q, x)])) : m q = none := by
  cases hm : m q with
  | none => rfl
  | some e =>
    obtain ⟨k, hk⟩ := h.at hm
    have hl := (List.getElem?_eq_some_iff.mp hk).1
    have := hD.1 k ws.length (q, enc D e) (q, x) (by rw [List.getElem?_append_left hl]; exact hk) (by simp) rfl
    omega
/-- the world of a walk: the memory lies in the heap, what was there before and isn't the walk's own is unchanged -/
def Wd (D : Dat) (A : Nat → Prop) (m : Mem) (H0 H : Heap) (locs : List Loc) : Prop := ∃ ws : va_W, Rl D m ws ∧ va_P D.1 cls ws H ∧ va_D A ws ∧ va_S A H0 H locs
/-- what a method may change -/
def Am (m : Mem) (sz : Nat) : Nat → Prop := fun q => m q ≠ none ∨ sz ≤ q
-- what stands apart from the memory: words of nest mates, the table ABOVE, the String constants
def NestW : List Cond := [.methodLinkNest "ParcelRing$Ring" 46 ⟨"ParcelRing$Child", "<init>", "()V"⟩ "ParcelRing", .methodLinkNest "ParcelRing$Ring" 47 ⟨"ParcelRing$Stop", "<init>", "()V"⟩ "ParcelRing", .methodLinkNest "ParcelRing" 24 ⟨"ParcelRing$Reader", "<init>", "()V"⟩ "ParcelRing", .methodLinkNest "ParcelRing" 45 ⟨"ParcelRing$Sheet", "<init>", "()V"⟩ "ParcelRing", .methodLinkNest "ParcelRing" 46 ⟨"ParcelRing$Slot", "<init>", "()V"⟩ "ParcelRing", .methodLinkNest "ParcelRing$Slot" 17 ⟨"ParcelRing$Stop", "<init>", "()V"⟩ "ParcelRing", .methodLinkNest "ParcelRing$Slot" 24 ⟨"ParcelRing$Sheet", "<init>", "()V"⟩ "ParcelRing", .methodLinkNest "ParcelRing$Ring" 98 ⟨"ParcelRing", "within", "(III)Z"⟩ "ParcelRing", .methodLinkNest "ParcelRing$Ring" 145 ⟨"ParcelRing", "heldWithin", "(III)I"⟩ "ParcelRing", .methodLinkNest "ParcelRing$Stop" 21 ⟨"ParcelRing", "isKind", "(I)Z"⟩ "ParcelRing", .methodLinkNest "ParcelRing$Sheet" 34 ⟨"ParcelRing", "within", "(III)Z"⟩ "ParcelRing", .fieldLinkNest "ParcelRing$Stop" 25 "ParcelRing" "ABOVE" "[I" "ParcelRing", .arrayOver (.object "ParcelRing$Child"), .arrayOver (.object "ParcelRing$Stop"), .arrayOver (.object "ParcelRing$Text"), .arrayOver (.object "ParcelRing$Sheet"), .arrayOver (.object "ParcelRing$Slot")]
theorem nest_warm {s U : State} (hW : s.WarmedH U.vm) (h : ∀ w ∈ NestW, va_Nw w s) : ∀ w ∈ NestW, va_Nw w U := by
  intro w hw
  have h0 := h w hw
  simp only [NestW, List.mem_cons, List.mem_nil_iff, or_false] at hw
  rcases hw with rfl | rfl | rfl | rfl | rfl | rfl | rfl | rfl | rfl | rfl | rfl | rfl | rfl | rfl | rfl | rfl | rfl <;> first | exact va_Nw.warmM hW h0 | exact va_Nw.warmF hW h0 | exact va_AO.moved hW.alike h0
theorem nest_same {U V : State} (hv : V.vm = U.vm) (h : ∀ w ∈ NestW, va_Nw w U) : ∀ w ∈ NestW, va_Nw w V := by
  have ha : U.vm.Alike V.vm := by rw [hv]; exact Vm.Alike.refl U.vm
  intro w hw
  have h0 := h w hw
  simp only [NestW, List.mem_cons, List.mem_nil_iff, or_false] at hw
  rcases hw with rfl | rfl | rfl | rfl | rfl | rfl | rfl | rfl | rfl | rfl | rfl | rfl | rfl | rfl | rfl | rfl | rfl <;> first | exact va_AO.moved ha h0 | exact va_Nw.same rfl hv.symm h0
def abv (j : Nat) : Int32 := match j with
  | 3 => 1
  | 4 => 2
  | _ => 0
def strT : List (Nat × String) := [(84, "hold"), (90, "stop"), (92, "fine"), (118, "haf"), (120, "spt"), (122, "ap")]
def strL : List Nat := [4, 4, 4, 3, 3, 2]
def strB : List (List Int32) := [[104, 111, 108, 100], [115, 116, 111, 112], [102, 105, 110, 101], [104, 97, 102], [115, 112, 116], [97, 112]]
def Ext (D : Dat) (A : Nat → Prop) (U : State) (H : Heap) : Prop :=
  (∀ w ∈ NestW, va_Nw w U) ∧ va_Z "ParcelRing" "ABOVE" "[I" (.ref D.2.2.1) A U H ∧ va_T .int D.2.2.1 6 (fun j => .int (abv j)) A U H ∧
  vk_S 6 strL strB D.2.2.2.1 D.2.2.2.2.1 A U H ∧ (∀ (i : Nat) (q : Nat × String), strT[i]? = some q → vk_R "ParcelRing$Reader" q.1 q.2 (D.2.2.2.1 i) U) ∧
  va_Z "java/lang/String" "COMPACT_STRINGS" "Z" (.int 1) A U H ∧ va_Zq "jdk/internal/util/Preconditions" "SIOOBE_FORMATTER" "Ljava/util/function/BiFunction;" A U H ∧ va_T .int D.2.2.2.2.2.1 D.2.2.2.2.2.2.1 (fun j => .int (D.2.2.2.2.2.2.2 j)) A U H
theorem Ext.blind {D : Dat} {A : Nat → Prop} {U V : State} {H : Heap} (hv : V.vm = U.vm) (h : Ext D A U H) : Ext D A V H := by
  have ha : U.vm.Alike V.vm := by rw [hv]; exact Vm.Alike.refl U.vm
  obtain ⟨h1, h2, h3, h4, h5, h6, h7, h8⟩ := h
  exact ⟨nest_same hv h1, h2.moved ha, h3.moved ha, h4.moved ha, fun i q hq => (h5 i q hq).same hv, h6.moved ha, h7.moved ha, h8.moved ha⟩
theorem Ext.move {D : Dat} {A B : Nat → Prop} {s U : State} {H : Heap} {locs : List Loc} (h : Ext D A s s.heap) (hS : va_S A s.heap H locs) (hW : s.WarmedH U.vm) (hB : ∀ q, B q → A q) : Ext D B U H := by
  obtain ⟨h1, h2, h3, h4, h5, h6, h7, h8⟩ := h
  have hq : ∀ a : Nat, a < s.heap.size → ¬ A a → H[a]? = s.heap[a]? := hS.2.1
  have ha := hW.alike
  exact ⟨nest_warm hW h1, ((h2.kept hq).moved ha).narrow hB, ((h3.kept hq).moved ha).narrow hB, ((h4.kept hq).moved ha).narrow hB, fun i q h => (h5 i q h).warm hW, ((h6.kept hq).moved ha).narrow hB, ((h7.kept hq).moved ha).narrow hB, ((h8.kept hq).moved ha).narrow hB⟩
def rmOf (d mc ms : Nat) : Room := { frames := d, cells := mc, slots := ms, locals := 40 * d }
/-- a contract's start -/
def Pw (D : Dat) (m : Mem) (sz : Nat) (U : State) : Prop := U.heap.size = sz ∧ (∃ ws : va_W, Rl D m ws ∧ va_P D.1 cls ws U.heap ∧ va_D (fun _ => True) ws) ∧ va_K D.1 cls (tysOf D) U ∧ Ext D (Am m sz) U U.heap
/-- a contract's end -/
def Qw (D : Dat) (m : Mem) (sz : Nat) (Q : Option Value → Mem → Prop) : Array Value → State → Outcome → State → Prop := fun _ st oc t =>
  (∃ (r : Option Value) (m1 : Mem) (ws : va_W), oc = .returned r ∧ Q r m1 ∧ Rl D m1 ws ∧ va_P D.1 cls ws t.heap ∧ va_D (Am m sz) ws) ∧ va_F (Am m sz) st t
/-- THE CONTRACT: from the memory m, with these arguments, at most d frames deep, the method returns and Q holds of its answer and the memory then; mc cells of ms slots may be new -/
def T (D : Dat) (d : Nat) (I : Inf) (av : List Value) (m : Mem) (mc ms : Nat) (Q : Option Value → Mem → Prop) : Prop :=
  ∀ (l : Launch) (sz : Nat), Met l I.1 (wI I :: GW) (rmOf d mc ms) (va_Pc av (Pw D m sz)) (Qw D m sz Q) mc ms (Am m sz)
def Cx (D : Dat) (I : Inf) (A : Nat → Prop) (p : Program) (s : State) (mm : MethodId) (args : Array Value) (meth : Method) (c : Code) : Prop :=
  p.tables.exec = Jvm.exec ∧ c.code = I.2.1 ∧ c.maxLocals = I.2.2.1 ∧ meth.sig.returnType = I.2.2.2 ∧ meth.locks = false ∧ meth.name = I.1.name ∧ s.vm.findClass I.1.cls = some mm.cls ∧ (∀ w ∈ GW, w.before args s = true) ∧ va_K D.1 cls (tysOf D) s ∧ Ext D A s s.heap ∧ (∀ q, s.heap.size ≤ q → A q)
/-- THE WALK: in method I at pc with these locals, this stack and this memory, with kc cells of ks slots left to make: it comes to its end, and Q holds there -/
def RetAt (I : Inf) (pc : Nat) (r : Option Value) (st : List Value) : Prop :=
  (∃ (v : Int32) (ty : FieldType), decode I.2.1 pc = .ok (.ireturn, 1) ∧ r = some (.int v) ∧ st = [.int v] ∧ I.2.2.2 = some ty ∧ narrow ty (.int v) = .int v) ∨
  (decode I.2.1 pc = .ok (.return_, 1) ∧ r = none ∧ st = [] ∧ I.2.2.2 = none) ∨
  (∃ (x : Option Nat) (rt : FieldType), decode I.2.1 pc = .ok (.areturn, 1) ∧ r = some (va_rf x) ∧ st = [va_rf x] ∧ I.2.2.2 = some rt ∧ ((∃ n, rt = .object n) ∨ ∃ t, rt = .array t))
def V (D : Dat) (d : Nat) (I : Inf) (pc : Nat) (L : List (Nat × Value)) (st : List Value) (m : Mem) (kc ks : Nat) (Q : Option Value → Mem → Prop) : Prop :=
  ∀ (p : Program) (l : Launch) (e : Env) (R : Room) (s : State) (mm : MethodId) (args : Array Value) (below : List Frame) (meth : Method) (c : Code) (H : Heap) (locs : List Loc) (cells slots : Nat) (ls : Array Slot) (A : Nat → Prop) (mc ms : Nat) (QQ : State → Prop),
    Cx D I A p s mm args meth c → Wd D A m s.heap H locs → lv_has ls I.2.2.1 L → cells + kc ≤ mc → slots + ks ≤ ms → (d ≤ R.frames ∧ 40 * d ≤ R.locals ∧ mc ≤ R.cells ∧ ms ≤ R.slots) →
    (∀ (r : Option Value) (m1 : Mem) (H1 : Heap) (locs1 : List Loc) (cells1 slots1 : Nat) (ls1 : Array Slot) (pc1 : Nat) (st1 : List Value), Q r m1 → Wd D A m1 s.heap H1 locs1 → RetAt I pc1 r st1 → cells1 ≤ mc → slots1 ≤ ms → W p l e R s mm args below meth c H1 locs1 cells1 slots1 QQ (F0 mm pc1 ls1 st1)) →
    W p l e R s mm args below meth c H locs cells slots QQ (F0 mm pc ls st)
theorem T_of_V {D : Dat} {d : Nat} {I : Inf} {av : List Value} {m : Mem} {mc ms : Nat} {Q : Option Value → Mem → Prop} (hy : plainName I.1.cls = true) (ha : (lg_sl av).length ≤ I.2.2.1) (k : V D d I 0 (lv_args 0 av) [] m mc ms Q) : T D d I av m mc ms Q := by
  intro l sz
  refine Met.ofW (cc := I.2.1) (maxL := I.2.2.1) (ret := I.2.2.2) hy rfl ?_
  intro p e s mm args below meth c s₁ B hml hv
  obtain ⟨rfl, hsz, ⟨ws, hR, hP, hD0⟩, hK, hE⟩ := hv
  have hts := atoms_spec (ws := wI I :: GW) B.pre
  have hD : va_D (Am m sz) ws := hD0.weaken (fun k q hk _ => Or.inl (by obtain ⟨e, he⟩ := hR.dom hk; rw [he]; exact fun z => by cases z))
  have hl := lv_entry av (n := I.2.2.1) ha
  rw [lg_entry_eq]
  have hlocks := B.notSynchronized
  refine k p l e _ s mm _ below meth c s.heap [] 0 0 _ (Am m sz) mc ms _ ⟨B.exec, B.bytes, hml, B.returns, B.notSynchronized, (name_of_methodNamed B.named B.method).1, findClass_of_methodNamed B.named, fun w hw => hts w (List.mem_cons_of_mem _ hw), hK, hE, fun q hq => Or.inr (by omega)⟩ ⟨ws, hR, hP, hD, va_S.rf⟩ hl (by omega) (by omega) ⟨Nat.le_refl d, Nat.le_refl (40 * d), Nat.le_refl mc, Nat.le_refl ms⟩ ?_
  intro r m1 H1 locs1 cells1 slots1 ls1 pc1 st1 hQ hW hr hc1 hs1
  obtain ⟨ws1, hR1, hP1, hD1, hS1⟩ := hW
  refine W.widen (k := mc) (n := ms) hc1 hs1 ?_
  rcases hr with ⟨v, ty, h1, rfl, rfl, h2, h3⟩ | ⟨h1, rfl, rfl, h2⟩ | ⟨x, rt, h1, rfl, rfl, h2, h3⟩
  · exact W.zret B.exec B.bytes (B.returns.trans h2) h3 (fun t ht hWm => ⟨⟨_, m1, ws1, rfl, hQ, hR1, by rw [ht]; exact hP1, hD1⟩, hS1.F ht⟩) hS1.2.2 h1
  · exact W.vret B.exec B.bytes (B.returns.trans h2) (fun t ht hWm => ⟨⟨_, m1, ws1, rfl, hQ, hR1, by rw [ht]; exact hP1, hD1⟩, hS1.F ht⟩) hS1.2.2 h1
  · exact W.aret B.exec B.bytes (B.returns.trans h2) h3 (by cases x; exact Or.inl rfl; exact Or.inr ⟨_, rfl⟩) (fun t ht hWm => ⟨⟨_, m1, ws1, rfl, hQ, hR1, by rw [ht]; exact hP1, hD1⟩, hS1.F ht⟩) hS1.2.2 h1
theorem T_to {D : Dat} {d : Nat} {I : Inf} {av : List Value} {m : Mem} {mc ms : Nat} {Q Q' : Option Value → Mem → Prop} (h : T D d I av m mc ms Q) (hq : ∀ r m1, Q r m1 → Q' r m1) : T D d I av m mc ms Q' := by
  intro l sz p e ha hc hk s mm args below hf happ hP hK
  obtain ⟨k, o, h1, h2, h3, ⟨⟨r, m1, ws, e1, e2, e3⟩, hF⟩, hE⟩ := h l sz p e ha hc hk s mm args below hf happ hP hK
  exact ⟨k, o, h1, h2, h3, ⟨⟨r, m1, ws, e1, hq r m1 e2, e3⟩, hF⟩, hE⟩
section VR
variable {D : Dat} {d : Nat} {I : Inf} {pc pc2 : Nat} {L : List (Nat × Value)} {st : List Value} {m : Mem} {kc ks : Nat} {Q : Option Value → Mem → Prop}
theorem V_kc {kc2 ks2 : Nat} (h1 : kc2 ≤ kc) (h2 : ks2 ≤ ks) (k : V D d I pc L st m kc2 ks2 Q) : V D d I pc L st m kc ks Q := by
  intro p l e R s mm args below meth c H locs cells slots ls A mc ms QQ hC hW hl g1 g2 hRm hq
  exact k p l e R s mm args below meth c H locs cells slots ls A mc ms QQ hC hW hl (by omega) (by omega) hRm hq
theorem V_lv {L2 : List (Nat × Value)} (k : V D d I pc L2 st m kc ks Q) (ps : List Nat) (h : lv_pick L ps = L2) : V D d I pc L st m kc ks Q := by
  intro p l e R s mm args below meth c H locs cells slots ls A mc ms QQ hC hW hl g1 g2 hRm hq
  exact k p l e R s mm args below meth c H locs cells slots ls A mc ms QQ hC hW (lv_sub hl ps h) g1 g2 hRm hq

theorem V_iconst {n : Int} {v : Int32} (hd : decode I.2.1 pc = .ok (.iconst n, 1)) (hv : Int32.ofInt n = v) (k : V D d I pc2 L (.int v :: st) m kc ks Q) (hp : pc2 = pc + 1 := by rfl) : V D d I pc L (st) m kc ks Q := by
  subst hp
  intro p l e R s mm args below meth c H locs cells slots ls A mc ms QQ hC hW hl g1 g2 hRm hq
  exact lv_iconst hC.1 hC.2.1 hd hv (k p l e R s mm args below meth c H locs cells slots ls A mc ms QQ hC hW hl g1 g2 hRm hq)
theorem V_bipush {n : Int} {v : Int32} (hd : decode I.2.1 pc = .ok (.bipush n, 2)) (hv : (Int8.ofInt n).toInt32 = v) (k : V D d I pc2 L (.int v :: st) m kc ks Q) (hp : pc2 = pc + 2 := by rfl) : V D d I pc L (st) m kc ks Q := by
  subst hp
  intro p l e R s mm args below meth c H locs cells slots ls A mc ms QQ hC hW hl g1 g2 hRm hq
  exact lv_bipush hC.1 hC.2.1 hd hv (k p l e R s mm args below meth c H locs cells slots ls A mc ms QQ hC hW hl g1 g2 hRm hq)
theorem V_sipush {n : Int} {v : Int32} (hd : decode I.2.1 pc = .ok (.sipush n, 3)) (hv : (Int16.ofInt n).toInt32 = v) (k : V D d I pc2 L (.int v :: st) m kc ks Q) (hp : pc2 = pc + 3 := by rfl) : V D d I pc L (st) m kc ks Q := by
  subst hp
  intro p l e R s mm args below meth c H locs cells slots ls A mc ms QQ hC hW hl g1 g2 hRm hq
  exact lv_sipush hC.1 hC.2.1 hd hv (k p l e R s mm args below meth c H locs cells slots ls A mc ms QQ hC hW hl g1 g2 hRm hq)
theorem V_lconst {n : Fin 2} {v : Int64} (hd : decode I.2.1 pc = .ok (.lconst n, 1)) (hv : Int64.ofNat (n : Nat) = v) (k : V D d I pc2 L (.long v :: st) m kc ks Q) (hp : pc2 = pc + 1 := by rfl) : V D d I pc L (st) m kc ks Q := by
  subst hp
  intro p l e R s mm args below meth c H locs cells slots ls A mc ms QQ hC hW hl g1 g2 hRm hq
  exact lv_lconst hC.1 hC.2.1 hd hv (k p l e R s mm args below meth c H locs cells slots ls A mc ms QQ hC hW hl g1 g2 hRm hq)
theorem V_null  (hd : decode I.2.1 pc = .ok (.aconst_null, 1))  (k : V D d I pc2 L (.null :: st) m kc ks Q) (hp : pc2 = pc + 1 := by rfl) : V D d I pc L (st) m kc ks Q := by
  subst hp
  intro p l e R s mm args below meth c H locs cells slots ls A mc ms QQ hC hW hl g1 g2 hRm hq
  exact lv_null hC.1 hC.2.1 hd (k p l e R s mm args below meth c H locs cells slots ls A mc ms QQ hC hW hl g1 g2 hRm hq)
theorem V_ldc {index : Nat} {v : Int32} (hd : decode I.2.1 pc = .ok (.ldc index, 2)) (hw : Cond.constant I.1.cls index v ∈ GW) (k : V D d I pc2 L (.int v :: st) m kc ks Q) (hp : pc2 = pc + 2 := by rfl) : V D d I pc L (st) m kc ks Q := by
  subst hp
  intro p l e R s mm args below meth c H locs cells slots ls A mc ms QQ hC hW hl g1 g2 hRm hq
  exact lv_ldc hC.1 hC.2.1 hC.2.2.2.2.2.2.1 (hC.2.2.2.2.2.2.2.1 _ hw) hd (k p l e R s mm args below meth c H locs cells slots ls A mc ms QQ hC hW hl g1 g2 hRm hq)
theorem V_ldcw {index : Nat} {v : Int32} (hd : decode I.2.1 pc = .ok (.ldc_w index, 3)) (hw : Cond.constant I.1.cls index v ∈ GW) (k : V D d I pc2 L (.int v :: st) m kc ks Q) (hp : pc2 = pc + 3 := by rfl) : V D d I pc L (st) m kc ks Q := by
  subst hp
  intro p l e R s mm args below meth c H locs cells slots ls A mc ms QQ hC hW hl g1 g2 hRm hq
  exact lv_ldcw hC.1 hC.2.1 hC.2.2.2.2.2.2.1 (hC.2.2.2.2.2.2.2.1 _ hw) hd (k p l e R s mm args below meth c H locs cells slots ls A mc ms QQ hC hW hl g1 g2 hRm hq)
theorem V_ldc2 {index : Nat} {v : Int64} (hd : decode I.2.1 pc = .ok (.ldc2_w index, 3)) (hw : Cond.constantLong I.1.cls index v ∈ GW) (k : V D d I pc2 L (.long v :: st) m kc ks Q) (hp : pc2 = pc + 3 := by rfl) : V D d I pc L (st) m kc ks Q := by
  subst hp
  intro p l e R s mm args below meth c H locs cells slots ls A mc ms QQ hC hW hl g1 g2 hRm hq
  exact lv_ldc2 hC.1 hC.2.1 hC.2.2.2.2.2.2.1 (hC.2.2.2.2.2.2.2.1 _ hw) hd (k p l e R s mm args below meth c H locs cells slots ls A mc ms QQ hC hW hl g1 g2 hRm hq)
theorem V_iload_n {k0 : Fin 4} {i : Nat} {x : Int32} (hd : decode I.2.1 pc = .ok (.iload_n k0, 1)) (j : Nat) (hj : L[j]? = some (i, .int x)) (hi : (k0 : Nat) = i) (k : V D d I pc2 L (.int x :: st) m kc ks Q) (hp : pc2 = pc + 1 := by rfl) : V D d I pc L (st) m kc ks Q := by
  subst hp
  intro p l e R s mm args below meth c H locs cells slots ls A mc ms QQ hC hW hl g1 g2 hRm hq
  exact lv_iload_n hC.1 hC.2.1 hd hi (lv_at hl j hj) (k p l e R s mm args below meth c H locs cells slots ls A mc ms QQ hC hW hl g1 g2 hRm hq)
theorem V_iload {i : Nat} {x : Int32} (hd : decode I.2.1 pc = .ok (.iload i, 2)) (j : Nat) (hj : L[j]? = some (i, .int x)) (k : V D d I pc2 L (.int x :: st) m kc ks Q) (hp : pc2 = pc + 2 := by rfl) : V D d I pc L (st) m kc ks Q := by
  subst hp
  intro p l e R s mm args below meth c H locs cells slots ls A mc ms QQ hC hW hl g1 g2 hRm hq
  exact lv_iload hC.1 hC.2.1 hd (lv_at hl j hj) (k p l e R s mm args below meth c H locs cells slots ls A mc ms QQ hC hW hl g1 g2 hRm hq)
theorem V_lload_n {k0 : Fin 4} {i : Nat} {x : Int64} (hd : decode I.2.1 pc = .ok (.lload_n k0, 1)) (j : Nat) (hj : L[j]? = some (i, .long x)) (hi : (k0 : Nat) = i) (k : V D d I pc2 L (.long x :: st) m kc ks Q) (hp : pc2 = pc + 1 := by rfl) : V D d I pc L (st) m kc ks Q := by
  subst hp
  intro p l e R s mm args below meth c H locs cells slots ls A mc ms QQ hC hW hl g1 g2 hRm hq
  exact lv_lload_n hC.1 hC.2.1 hd hi (lv_at hl j hj) (k p l e R s mm args below meth c H locs cells slots ls A mc ms QQ hC hW hl g1 g2 hRm hq)
theorem V_lload {i : Nat} {x : Int64} (hd : decode I.2.1 pc = .ok (.lload i, 2)) (j : Nat) (hj : L[j]? = some (i, .long x)) (k : V D d I pc2 L (.long x :: st) m kc ks Q) (hp : pc2 = pc + 2 := by rfl) : V D d I pc L (st) m kc ks Q := by
  subst hp
  intro p l e R s mm args below meth c H locs cells slots ls A mc ms QQ hC hW hl g1 g2 hRm hq
  exact lv_lload hC.1 hC.2.1 hd (lv_at hl j hj) (k p l e R s mm args below meth c H locs cells slots ls A mc ms QQ hC hW hl g1 g2 hRm hq)
theorem V_aload_n {k0 : Fin 4} {i : Nat} {x : Nat} (hd : decode I.2.1 pc = .ok (.aload_n k0, 1)) (j : Nat) (hj : L[j]? = some (i, .ref x)) (hi : (k0 : Nat) = i) (k : V D d I pc2 L (.ref x :: st) m kc ks Q) (hp : pc2 = pc + 1 := by rfl) : V D d I pc L (st) m kc ks Q := by
  subst hp
  intro p l e R s mm args below meth c H locs cells slots ls A mc ms QQ hC hW hl g1 g2 hRm hq
  exact lv_aload_n hC.1 hC.2.1 hd hi (lv_at hl j hj) (k p l e R s mm args below meth c H locs cells slots ls A mc ms QQ hC hW hl g1 g2 hRm hq)
theorem V_aload {i : Nat} {x : Nat} (hd : decode I.2.1 pc = .ok (.aload i, 2)) (j : Nat) (hj : L[j]? = some (i, .ref x)) (k : V D d I pc2 L (.ref x :: st) m kc ks Q) (hp : pc2 = pc + 2 := by rfl) : V D d I pc L (st) m kc ks Q := by
  subst hp
  intro p l e R s mm args below meth c H locs cells slots ls A mc ms QQ hC hW hl g1 g2 hRm hq
  exact lv_aload hC.1 hC.2.1 hd (lv_at hl j hj) (k p l e R s mm args below meth c H locs cells slots ls A mc ms QQ hC hW hl g1 g2 hRm hq)
theorem V_aloadq_n {k0 : Fin 4} {i : Nat} {x : Option Nat} (hd : decode I.2.1 pc = .ok (.aload_n k0, 1)) (j : Nat) (hj : L[j]? = some (i, va_rf x)) (hi : (k0 : Nat) = i) (k : V D d I pc2 L (va_rf x :: st) m kc ks Q) (hp : pc2 = pc + 1 := by rfl) : V D d I pc L st m kc ks Q := by
  subst hp
  intro p l e R s mm args below meth c H locs cells slots ls A mc ms QQ hC hW hl g1 g2 hRm hq
  cases x with
  | none => exact lv_aload_nN hC.1 hC.2.1 hd hi (lv_at hl j hj) (k p l e R s mm args below meth c H locs cells slots ls A mc ms QQ hC hW hl g1 g2 hRm hq)
  | some x => exact lv_aload_n hC.1 hC.2.1 hd hi (lv_at hl j hj) (k p l e R s mm args below meth c H locs cells slots ls A mc ms QQ hC hW hl g1 g2 hRm hq)
theorem V_aloadq {i : Nat} {x : Option Nat} (hd : decode I.2.1 pc = .ok (.aload i, 2)) (j : Nat) (hj : L[j]? = some (i, va_rf x)) (k : V D d I pc2 L (va_rf x :: st) m kc ks Q) (hp : pc2 = pc + 2 := by rfl) : V D d I pc L st m kc ks Q := by
  subst hp
  intro p l e R s mm args below meth c H locs cells slots ls A mc ms QQ hC hW hl g1 g2 hRm hq
  cases x with
  | none => exact lv_aloadN hC.1 hC.2.1 hd (lv_at hl j hj) (k p l e R s mm args below meth c H locs cells slots ls A mc ms QQ hC hW hl g1 g2 hRm hq)
  | some x => exact lv_aload hC.1 hC.2.1 hd (lv_at hl j hj) (k p l e R s mm args below meth c H locs cells slots ls A mc ms QQ hC hW hl g1 g2 hRm hq)
theorem V_istore_n {k0 : Fin 4} {x : Int32} {i : Nat} {L2 : List (Nat × Value)} (hd : decode I.2.1 pc = .ok (.istore_n k0, 1)) (k : V D d I pc2 L2 st m kc ks Q) (hi : (k0 : Nat) = i) (hn : decide (i < I.2.2.1) = true) (hL : (i, Value.int x) :: L.filter (fun q => !(q.1 == i) && !(q.1 + 1 == i && q.2.category == 2)) = L2) (hp : pc2 = pc + 1 := by rfl) : V D d I pc L (Value.int x :: st) m kc ks Q := by
  subst hp
  intro p l e R s mm args below meth c H locs cells slots ls A mc ms QQ hC hW hl g1 g2 hRm hq
  exact lv_istore_n hC.1 hC.2.1 hd hi hl (of_decide_eq_true hn) hL (fun ls hl => k p l e R s mm args below meth c H locs cells slots ls A mc ms QQ hC hW hl g1 g2 hRm hq)
theorem V_istore {x : Int32} {i : Nat} {L2 : List (Nat × Value)} (hd : decode I.2.1 pc = .ok (.istore i, 2)) (k : V D d I pc2 L2 st m kc ks Q)  (hn : decide (i < I.2.2.1) = true) (hL : (i, Value.int x) :: L.filter (fun q => !(q.1 == i) && !(q.1 + 1 == i && q.2.category == 2)) = L2) (hp : pc2 = pc + 2 := by rfl) : V D d I pc L (Value.int x :: st) m kc ks Q := by
  subst hp
  intro p l e R s mm args below meth c H locs cells slots ls A mc ms QQ hC hW hl g1 g2 hRm hq
  exact lv_istore hC.1 hC.2.1 hd hl (of_decide_eq_true hn) hL (fun ls hl => k p l e R s mm args below meth c H locs cells slots ls A mc ms QQ hC hW hl g1 g2 hRm hq)
theorem V_astore_n {k0 : Fin 4} {x : Nat} {i : Nat} {L2 : List (Nat × Value)} (hd : decode I.2.1 pc = .ok (.astore_n k0, 1)) (k : V D d I pc2 L2 st m kc ks Q) (hi : (k0 : Nat) = i) (hn : decide (i < I.2.2.1) = true) (hL : (i, Value.ref x) :: L.filter (fun q => !(q.1 == i) && !(q.1 + 1 == i && q.2.category == 2)) = L2) (hp : pc2 = pc + 1 := by rfl) : V D d I pc L (Value.ref x :: st) m kc ks Q := by
  subst hp
  intro p l e R s mm args below meth c H locs cells slots ls A mc ms QQ hC hW hl g1 g2 hRm hq
  exact lv_astore_n hC.1 hC.2.1 hd hi hl (of_decide_eq_true hn) hL (fun ls hl => k p l e R s mm args below meth c H locs cells slots ls A mc ms QQ hC hW hl g1 g2 hRm hq)
theorem V_astore {x : Nat} {i : Nat} {L2 : List (Nat × Value)} (hd : decode I.2.1 pc = .ok (.astore i, 2)) (k : V D d I pc2 L2 st m kc ks Q)  (hn : decide (i < I.2.2.1) = true) (hL : (i, Value.ref x) :: L.filter (fun q => !(q.1 == i) && !(q.1 + 1 == i && q.2.category == 2)) = L2) (hp : pc2 = pc + 2 := by rfl) : V D d I pc L (Value.ref x :: st) m kc ks Q := by
  subst hp
  intro p l e R s mm args below meth c H locs cells slots ls A mc ms QQ hC hW hl g1 g2 hRm hq
  exact lv_astore hC.1 hC.2.1 hd hl (of_decide_eq_true hn) hL (fun ls hl => k p l e R s mm args below meth c H locs cells slots ls A mc ms QQ hC hW hl g1 g2 hRm hq)
theorem V_astoreq_n {k0 : Fin 4} {x : Option Nat} {i : Nat} {L2 : List (Nat × Value)} (hd : decode I.2.1 pc = .ok (.astore_n k0, 1)) (k : V D d I pc2 L2 st m kc ks Q) (hi : (k0 : Nat) = i) (hn : decide (i < I.2.2.1) = true) (hL : (i, va_rf x) :: L.filter (fun q => !(q.1 == i) && !(q.1 + 1 == i && q.2.category == 2)) = L2) (hp : pc2 = pc + 1 := by rfl) : V D d I pc L (va_rf x :: st) m kc ks Q := by
  subst hp
  intro p l e R s mm args below meth c H locs cells slots ls A mc ms QQ hC hW hl g1 g2 hRm hq
  cases x with
  | none => exact lv_astore_nN hC.1 hC.2.1 hd hi hl (of_decide_eq_true hn) hL (fun ls hl => k p l e R s mm args below meth c H locs cells slots ls A mc ms QQ hC hW hl g1 g2 hRm hq)
  | some x => exact lv_astore_n hC.1 hC.2.1 hd hi hl (of_decide_eq_true hn) hL (fun ls hl => k p l e R s mm args below meth c H locs cells slots ls A mc ms QQ hC hW hl g1 g2 hRm hq)
theorem V_astoreq {x : Option Nat} {i : Nat} {L2 : List (Nat × Value)} (hd : decode I.2.1 pc = .ok (.astore i, 2)) (k : V D d I pc2 L2 st m kc ks Q) (hn : decide (i < I.2.2.1) = true) (hL : (i, va_rf x) :: L.filter (fun q => !(q.1 == i) && !(q.1 + 1 == i && q.2.category == 2)) = L2) (hp : pc2 = pc + 2 := by rfl) : V D d I pc L (va_rf x :: st) m kc ks Q := by
  subst hp
  intro p l e R s mm args below meth c H locs cells slots ls A mc ms QQ hC hW hl g1 g2 hRm hq
  cases x with
  | none => exact lv_astoreN hC.1 hC.2.1 hd hl (of_decide_eq_true hn) hL (fun ls hl => k p l e R s mm args below meth c H locs cells slots ls A mc ms QQ hC hW hl g1 g2 hRm hq)
  | some x => exact lv_astore hC.1 hC.2.1 hd hl (of_decide_eq_true hn) hL (fun ls hl => k p l e R s mm args below meth c H locs cells slots ls A mc ms QQ hC hW hl g1 g2 hRm hq)
theorem V_iinc {n : Int} {x v : Int32} {i : Nat} {L2 : List (Nat × Value)} (hd : decode I.2.1 pc = .ok (.iinc i n, 3)) (j : Nat) (hj : L[j]? = some (i, .int x)) (hv : x + Int32.ofInt n = v) (k : V D d I pc2 L2 st m kc ks Q) (hn : decide (i < I.2.2.1) = true) (hL : (i, Value.int v) :: L.filter (fun q => !(q.1 == i) && !(q.1 + 1 == i && q.2.category == 2)) = L2) (hp : pc2 = pc + 3 := by rfl) : V D d I pc L st m kc ks Q := by
  subst hp
  intro p l e R s mm args below meth c H locs cells slots ls A mc ms QQ hC hW hl g1 g2 hRm hq
  exact lv_iinc hC.1 hC.2.1 hd hl hj hv (of_decide_eq_true hn) hL (fun ls hl => k p l e R s mm args below meth c H locs cells slots ls A mc ms QQ hC hW hl g1 g2 hRm hq)
theorem V_iadd {x y : Int32} (hd : decode I.2.1 pc = .ok (.iadd, 1))  (k : V D d I pc2 L (.int (x + y) :: st) m kc ks Q) (hp : pc2 = pc + 1 := by rfl) : V D d I pc L (.int y :: .int x :: st) m kc ks Q := by
  subst hp
  intro p l e R s mm args below meth c H locs cells slots ls A mc ms QQ hC hW hl g1 g2 hRm hq
  exact lv_iadd hC.1 hC.2.1 hd (k p l e R s mm args below meth c H locs cells slots ls A mc ms QQ hC hW hl g1 g2 hRm hq)
theorem V_isub {x y : Int32} (hd : decode I.2.1 pc = .ok (.isub, 1))  (k : V D d I pc2 L (.int (x - y) :: st) m kc ks Q) (hp : pc2 = pc + 1 := by rfl) : V D d I pc L (.int y :: .int x :: st) m kc ks Q := by
  subst hp
  intro p l e R s mm args below meth c H locs cells slots ls A mc ms QQ hC hW hl g1 g2 hRm hq
  exact lv_isub hC.1 hC.2.1 hd (k p l e R s mm args below meth c H locs cells slots ls A mc ms QQ hC hW hl g1 g2 hRm hq)
theorem V_imul {x y : Int32} (hd : decode I.2.1 pc = .ok (.imul, 1))  (k : V D d I pc2 L (.int (x * y) :: st) m kc ks Q) (hp : pc2 = pc + 1 := by rfl) : V D d I pc L (.int y :: .int x :: st) m kc ks Q := by
  subst hp
  intro p l e R s mm args below meth c H locs cells slots ls A mc ms QQ hC hW hl g1 g2 hRm hq
  exact lv_imul hC.1 hC.2.1 hd (k p l e R s mm args below meth c H locs cells slots ls A mc ms QQ hC hW hl g1 g2 hRm hq)
theorem V_iand {x y : Int32} (hd : decode I.2.1 pc = .ok (.iand, 1))  (k : V D d I pc2 L (.int (x &&& y) :: st) m kc ks Q) (hp : pc2 = pc + 1 := by rfl) : V D d I pc L (.int y :: .int x :: st) m kc ks Q := by
  subst hp
  intro p l e R s mm args below meth c H locs cells slots ls A mc ms QQ hC hW hl g1 g2 hRm hq
  exact lv_iand hC.1 hC.2.1 hd (k p l e R s mm args below meth c H locs cells slots ls A mc ms QQ hC hW hl g1 g2 hRm hq)
theorem V_idiv {x y : Int32} (hd : decode I.2.1 pc = .ok (.idiv, 1)) (hne : ¬ y = 0) (k : V D d I pc2 L (.int (x / y) :: st) m kc ks Q) (hp : pc2 = pc + 1 := by rfl) : V D d I pc L (.int y :: .int x :: st) m kc ks Q := by
  subst hp
  intro p l e R s mm args below meth c H locs cells slots ls A mc ms QQ hC hW hl g1 g2 hRm hq
  exact lv_idiv hC.1 hC.2.1 hd hne (k p l e R s mm args below meth c H locs cells slots ls A mc ms QQ hC hW hl g1 g2 hRm hq)
theorem V_irem {x y : Int32} (hd : decode I.2.1 pc = .ok (.irem, 1)) (hne : ¬ y = 0) (k : V D d I pc2 L (.int (x - x / y * y) :: st) m kc ks Q) (hp : pc2 = pc + 1 := by rfl) : V D d I pc L (.int y :: .int x :: st) m kc ks Q := by
  subst hp
  intro p l e R s mm args below meth c H locs cells slots ls A mc ms QQ hC hW hl g1 g2 hRm hq
  exact lv_irem hC.1 hC.2.1 hd hne (k p l e R s mm args below meth c H locs cells slots ls A mc ms QQ hC hW hl g1 g2 hRm hq)
theorem V_ineg {x : Int32} (hd : decode I.2.1 pc = .ok (.ineg, 1))  (k : V D d I pc2 L (.int (-x) :: st) m kc ks Q) (hp : pc2 = pc + 1 := by rfl) : V D d I pc L (.int x :: st) m kc ks Q := by
  subst hp
  intro p l e R s mm args below meth c H locs cells slots ls A mc ms QQ hC hW hl g1 g2 hRm hq
  exact lv_ineg hC.1 hC.2.1 hd (k p l e R s mm args below meth c H locs cells slots ls A mc ms QQ hC hW hl g1 g2 hRm hq)
theorem V_ishl {x y : Int32} (hd : decode I.2.1 pc = .ok (.ishl, 1))  (k : V D d I pc2 L (.int (x <<< (y &&& 31)) :: st) m kc ks Q) (hp : pc2 = pc + 1 := by rfl) : V D d I pc L (.int y :: .int x :: st) m kc ks Q := by
  subst hp
  intro p l e R s mm args below meth c H locs cells slots ls A mc ms QQ hC hW hl g1 g2 hRm hq
  exact lv_ishl hC.1 hC.2.1 hd (k p l e R s mm args below meth c H locs cells slots ls A mc ms QQ hC hW hl g1 g2 hRm hq)
theorem V_ishr {x y : Int32} (hd : decode I.2.1 pc = .ok (.ishr, 1))  (k : V D d I pc2 L (.int (x >>> (y &&& 31)) :: st) m kc ks Q) (hp : pc2 = pc + 1 := by rfl) : V D d I pc L (.int y :: .int x :: st) m kc ks Q := by
  subst hp
  intro p l e R s mm args below meth c H locs cells slots ls A mc ms QQ hC hW hl g1 g2 hRm hq
  exact lv_ishr hC.1 hC.2.1 hd (k p l e R s mm args below meth c H locs cells slots ls A mc ms QQ hC hW hl g1 g2 hRm hq)
theorem V_iushr {x y v : Int32} (hd : decode I.2.1 pc = .ok (.iushr, 1)) (hv : (x.toUInt32 >>> (y.toUInt32 &&& Int32.toUInt32 31)).toInt32 = v) (k : V D d I pc2 L (.int v :: st) m kc ks Q) (hp : pc2 = pc + 1 := by rfl) : V D d I pc L (.int y :: .int x :: st) m kc ks Q := by
  subst hp
  intro p l e R s mm args below meth c H locs cells slots ls A mc ms QQ hC hW hl g1 g2 hRm hq
  exact lv_iushr hC.1 hC.2.1 hd hv (k p l e R s mm args below meth c H locs cells slots ls A mc ms QQ hC hW hl g1 g2 hRm hq)
theorem V_ladd {x y : Int64} (hd : decode I.2.1 pc = .ok (.ladd, 1))  (k : V D d I pc2 L (.long (x + y) :: st) m kc ks Q) (hp : pc2 = pc + 1 := by rfl) : V D d I pc L (.long y :: .long x :: st) m kc ks Q := by
  subst hp
  intro p l e R s mm args below meth c H locs cells slots ls A mc ms QQ hC hW hl g1 g2 hRm hq
  exact lv_ladd hC.1 hC.2.1 hd (k p l e R s mm args below meth c H locs cells slots ls A mc ms QQ hC hW hl g1 g2 hRm hq)
theorem V_i2l {x : Int32} {v : Int64} (hd : decode I.2.1 pc = .ok (.i2l, 1)) (hv : x.toInt64 = v) (k : V D d I pc2 L (.long v :: st) m kc ks Q) (hp : pc2 = pc + 1 := by rfl) : V D d I pc L (.int x :: st) m kc ks Q := by
  subst hp
  intro p l e R s mm args below meth c H locs cells slots ls A mc ms QQ hC hW hl g1 g2 hRm hq
  exact lv_i2l hC.1 hC.2.1 hd hv (k p l e R s mm args below meth c H locs cells slots ls A mc ms QQ hC hW hl g1 g2 hRm hq)
theorem V_i2s {x v : Int32} (hd : decode I.2.1 pc = .ok (.i2s, 1)) (hv : x.toInt16.toInt32 = v) (k : V D d I pc2 L (.int v :: st) m kc ks Q) (hp : pc2 = pc + 1 := by rfl) : V D d I pc L (.int x :: st) m kc ks Q := by
  subst hp
  intro p l e R s mm args below meth c H locs cells slots ls A mc ms QQ hC hW hl g1 g2 hRm hq
  exact lv_i2s hC.1 hC.2.1 hd hv (k p l e R s mm args below meth c H locs cells slots ls A mc ms QQ hC hW hl g1 g2 hRm hq)
theorem V_i2c {x v : Int32} (hd : decode I.2.1 pc = .ok (.i2c, 1)) (hv : (x.toUInt32 % 65536).toInt32 = v) (k : V D d I pc2 L (.int v :: st) m kc ks Q) (hp : pc2 = pc + 1 := by rfl) : V D d I pc L (.int x :: st) m kc ks Q := by
  subst hp
  intro p l e R s mm args below meth c H locs cells slots ls A mc ms QQ hC hW hl g1 g2 hRm hq
  exact lv_i2c hC.1 hC.2.1 hd hv (k p l e R s mm args below meth c H locs cells slots ls A mc ms QQ hC hW hl g1 g2 hRm hq)
theorem V_lcmp {x y : Int64} (hd : decode I.2.1 pc = .ok (.lcmp, 1))  (k : V D d I pc2 L (.int (lg_cmp x y) :: st) m kc ks Q) (hp : pc2 = pc + 1 := by rfl) : V D d I pc L (.long y :: .long x :: st) m kc ks Q := by
  subst hp
  intro p l e R s mm args below meth c H locs cells slots ls A mc ms QQ hC hW hl g1 g2 hRm hq
  exact W.lcmp hC.1 hC.2.1 hd (k p l e R s mm args below meth c H locs cells slots ls A mc ms QQ hC hW hl g1 g2 hRm hq)
theorem V_dup {va : Value} (hd : decode I.2.1 pc = .ok (.dup, 1)) (hc : va.category = 1) (k : V D d I pc2 L (va :: va :: st) m kc ks Q) (hp : pc2 = pc + 1 := by rfl) : V D d I pc L (va :: st) m kc ks Q := by
  subst hp
  intro p l e R s mm args below meth c H locs cells slots ls A mc ms QQ hC hW hl g1 g2 hRm hq
  exact lv_dup hC.1 hC.2.1 hd hc (k p l e R s mm args below meth c H locs cells slots ls A mc ms QQ hC hW hl g1 g2 hRm hq)
theorem V_pop {va : Value} (hd : decode I.2.1 pc = .ok (.pop, 1)) (hc : va.category = 1) (k : V D d I pc2 L (st) m kc ks Q) (hp : pc2 = pc + 1 := by rfl) : V D d I pc L (va :: st) m kc ks Q := by
  subst hp
  intro p l e R s mm args below meth c H locs cells slots ls A mc ms QQ hC hW hl g1 g2 hRm hq
  exact lv_pop hC.1 hC.2.1 hd hc (k p l e R s mm args below meth c H locs cells slots ls A mc ms QQ hC hW hl g1 g2 hRm hq)
theorem V_dup2 {va vb : Value} (hd : decode I.2.1 pc = .ok (.dup2, 1)) (hc : va.category = 1) (hc2 : vb.category = 1) (k : V D d I pc2 L (va :: vb :: va :: vb :: st) m kc ks Q) (hp : pc2 = pc + 1 := by rfl) : V D d I pc L (va :: vb :: st) m kc ks Q := by
  subst hp
  intro p l e R s mm args below meth c H locs cells slots ls A mc ms QQ hC hW hl g1 g2 hRm hq
  exact lv_dup2_11 hC.1 hC.2.1 hd hc hc2 (k p l e R s mm args below meth c H locs cells slots ls A mc ms QQ hC hW hl g1 g2 hRm hq)
theorem V_if_eq {x : Int32} {off : Int} {tgt : Nat} (hd : decode I.2.1 pc = .ok (.ifCond .eq off, 3)) (kt : x = 0 → V D d I tgt L st m kc ks Q) (kf : ¬ x = 0 → V D d I pc2 L st m kc ks Q) (ht : (pc : Int) + off = (tgt : Int) := by rfl) (hp : pc2 = pc + 3 := by rfl) : V D d I pc L (.int x :: st) m kc ks Q := by
  subst hp
  intro p l e R s mm args below meth c H locs cells slots ls A mc ms QQ hC hW hl g1 g2 hRm hq
  exact lv_if_eq hC.1 hC.2.1 hd ht (fun z => kt z p l e R s mm args below meth c H locs cells slots ls A mc ms QQ hC hW hl g1 g2 hRm hq) (fun z => kf z p l e R s mm args below meth c H locs cells slots ls A mc ms QQ hC hW hl g1 g2 hRm hq)
theorem V_icmp_eq {x y : Int32} {off : Int} {tgt : Nat} (hd : decode I.2.1 pc = .ok (.if_icmp .eq off, 3)) (kt : x = y → V D d I tgt L st m kc ks Q) (kf : ¬ x = y → V D d I pc2 L st m kc ks Q) (ht : (pc : Int) + off = (tgt : Int) := by rfl) (hp : pc2 = pc + 3 := by rfl) : V D d I pc L (.int y :: .int x :: st) m kc ks Q := by
  subst hp
  intro p l e R s mm args below meth c H locs cells slots ls A mc ms QQ hC hW hl g1 g2 hRm hq
  exact lv_icmp_eq hC.1 hC.2.1 hd ht (fun z => kt z p l e R s mm args below meth c H locs cells slots ls A mc ms QQ hC hW hl g1 g2 hRm hq) (fun z => kf z p l e R s mm args below meth c H locs cells slots ls A mc ms QQ hC hW hl g1 g2 hRm hq)
theorem V_if_ne {x : Int32} {off : Int} {tgt : Nat} (hd : decode I.2.1 pc = .ok (.ifCond .ne off, 3)) (kt : ¬ x = 0 → V D d I tgt L st m kc ks Q) (kf : x = 0 → V D d I pc2 L st m kc ks Q) (ht : (pc : Int) + off = (tgt : Int) := by rfl) (hp : pc2 = pc + 3 := by rfl) : V D d I pc L (.int x :: st) m kc ks Q := by
  subst hp
  intro p l e R s mm args below meth c H locs cells slots ls A mc ms QQ hC hW hl g1 g2 hRm hq
  exact lv_if_ne hC.1 hC.2.1 hd ht (fun z => kt z p l e R s mm args below meth c H locs cells slots ls A mc ms QQ hC hW hl g1 g2 hRm hq) (fun z => kf z p l e R s mm args below meth c H locs cells slots ls A mc ms QQ hC hW hl g1 g2 hRm hq)
theorem V_icmp_ne {x y : Int32} {off : Int} {tgt : Nat} (hd : decode I.2.1 pc = .ok (.if_icmp .ne off, 3)) (kt : ¬ x = y → V D d I tgt L st m kc ks Q) (kf : x = y → V D d I pc2 L st m kc ks Q) (ht : (pc : Int) + off = (tgt : Int) := by rfl) (hp : pc2 = pc + 3 := by rfl) : V D d I pc L (.int y :: .int x :: st) m kc ks Q := by
  subst hp
  intro p l e R s mm args below meth c H locs cells slots ls A mc ms QQ hC hW hl g1 g2 hRm hq
  exact lv_icmp_ne hC.1 hC.2.1 hd ht (fun z => kt z p l e R s mm args below meth c H locs cells slots ls A mc ms QQ hC hW hl g1 g2 hRm hq) (fun z => kf z p l e R s mm args below meth c H locs cells slots ls A mc ms QQ hC hW hl g1 g2 hRm hq)
theorem V_if_lt {x : Int32} {off : Int} {tgt : Nat} (hd : decode I.2.1 pc = .ok (.ifCond .lt off, 3)) (kt : x < 0 → V D d I tgt L st m kc ks Q) (kf : ¬ x < 0 → V D d I pc2 L st m kc ks Q) (ht : (pc : Int) + off = (tgt : Int) := by rfl) (hp : pc2 = pc + 3 := by rfl) : V D d I pc L (.int x :: st) m kc ks Q := by
  subst hp
  intro p l e R s mm args below meth c H locs cells slots ls A mc ms QQ hC hW hl g1 g2 hRm hq
  exact lv_if_lt hC.1 hC.2.1 hd ht (fun z => kt z p l e R s mm args below meth c H locs cells slots ls A mc ms QQ hC hW hl g1 g2 hRm hq) (fun z => kf z p l e R s mm args below meth c H locs cells slots ls A mc ms QQ hC hW hl g1 g2 hRm hq)
theorem V_icmp_lt {x y : Int32} {off : Int} {tgt : Nat} (hd : decode I.2.1 pc = .ok (.if_icmp .lt off, 3)) (kt : x < y → V D d I tgt L st m kc ks Q) (kf : ¬ x < y → V D d I pc2 L st m kc ks Q) (ht : (pc : Int) + off = (tgt : Int) := by rfl) (hp : pc2 = pc + 3 := by rfl) : V D d I pc L (.int y :: .int x :: st) m kc ks Q := by
  subst hp
  intro p l e R s mm args below meth c H locs cells slots ls A mc ms QQ hC hW hl g1 g2 hRm hq
  exact lv_icmp_lt hC.1 hC.2.1 hd ht (fun z => kt z p l e R s mm args below meth c H locs cells slots ls A mc ms QQ hC hW hl g1 g2 hRm hq) (fun z => kf z p l e R s mm args below meth c H locs cells slots ls A mc ms QQ hC hW hl g1 g2 hRm hq)
theorem V_if_ge {x : Int32} {off : Int} {tgt : Nat} (hd : decode I.2.1 pc = .ok (.ifCond .ge off, 3)) (kt : 0 ≤ x → V D d I tgt L st m kc ks Q) (kf : ¬ 0 ≤ x → V D d I pc2 L st m kc ks Q) (ht : (pc : Int) + off = (tgt : Int) := by rfl) (hp : pc2 = pc + 3 := by rfl) : V D d I pc L (.int x :: st) m kc ks Q := by
  subst hp
  intro p l e R s mm args below meth c H locs cells slots ls A mc ms QQ hC hW hl g1 g2 hRm hq
  exact lv_if_ge hC.1 hC.2.1 hd ht (fun z => kt z p l e R s mm args below meth c H locs cells slots ls A mc ms QQ hC hW hl g1 g2 hRm hq) (fun z => kf z p l e R s mm args below meth c H locs cells slots ls A mc ms QQ hC hW hl g1 g2 hRm hq)
theorem V_icmp_ge {x y : Int32} {off : Int} {tgt : Nat} (hd : decode I.2.1 pc = .ok (.if_icmp .ge off, 3)) (kt : y ≤ x → V D d I tgt L st m kc ks Q) (kf : ¬ y ≤ x → V D d I pc2 L st m kc ks Q) (ht : (pc : Int) + off = (tgt : Int) := by rfl) (hp : pc2 = pc + 3 := by rfl) : V D d I pc L (.int y :: .int x :: st) m kc ks Q := by
  subst hp
  intro p l e R s mm args below meth c H locs cells slots ls A mc ms QQ hC hW hl g1 g2 hRm hq
  exact lv_icmp_ge hC.1 hC.2.1 hd ht (fun z => kt z p l e R s mm args below meth c H locs cells slots ls A mc ms QQ hC hW hl g1 g2 hRm hq) (fun z => kf z p l e R s mm args below meth c H locs cells slots ls A mc ms QQ hC hW hl g1 g2 hRm hq)
theorem V_if_gt {x : Int32} {off : Int} {tgt : Nat} (hd : decode I.2.1 pc = .ok (.ifCond .gt off, 3)) (kt : 0 < x → V D d I tgt L st m kc ks Q) (kf : ¬ 0 < x → V D d I pc2 L st m kc ks Q) (ht : (pc : Int) + off = (tgt : Int) := by rfl) (hp : pc2 = pc + 3 := by rfl) : V D d I pc L (.int x :: st) m kc ks Q := by
  subst hp
  intro p l e R s mm args below meth c H locs cells slots ls A mc ms QQ hC hW hl g1 g2 hRm hq
  exact lv_if_gt hC.1 hC.2.1 hd ht (fun z => kt z p l e R s mm args below meth c H locs cells slots ls A mc ms QQ hC hW hl g1 g2 hRm hq) (fun z => kf z p l e R s mm args below meth c H locs cells slots ls A mc ms QQ hC hW hl g1 g2 hRm hq)
theorem V_icmp_gt {x y : Int32} {off : Int} {tgt : Nat} (hd : decode I.2.1 pc = .ok (.if_icmp .gt off, 3)) (kt : y < x → V D d I tgt L st m kc ks Q) (kf : ¬ y < x → V D d I pc2 L st m kc ks Q) (ht : (pc : Int) + off = (tgt : Int) := by rfl) (hp : pc2 = pc + 3 := by rfl) : V D d I pc L (.int y :: .int x :: st) m kc ks Q := by
  subst hp
  intro p l e R s mm args below meth c H locs cells slots ls A mc ms QQ hC hW hl g1 g2 hRm hq
  exact lv_icmp_gt hC.1 hC.2.1 hd ht (fun z => kt z p l e R s mm args below meth c H locs cells slots ls A mc ms QQ hC hW hl g1 g2 hRm hq) (fun z => kf z p l e R s mm args below meth c H locs cells slots ls A mc ms QQ hC hW hl g1 g2 hRm hq)
theorem V_if_le {x : Int32} {off : Int} {tgt : Nat} (hd : decode I.2.1 pc = .ok (.ifCond .le off, 3)) (kt : x ≤ 0 → V D d I tgt L st m kc ks Q) (kf : ¬ x ≤ 0 → V D d I pc2 L st m kc ks Q) (ht : (pc : Int) + off = (tgt : Int) := by rfl) (hp : pc2 = pc + 3 := by rfl) : V D d I pc L (.int x :: st) m kc ks Q := by
  subst hp
  intro p l e R s mm args below meth c H locs cells slots ls A mc ms QQ hC hW hl g1 g2 hRm hq
  exact lv_if_le hC.1 hC.2.1 hd ht (fun z => kt z p l e R s mm args below meth c H locs cells slots ls A mc ms QQ hC hW hl g1 g2 hRm hq) (fun z => kf z p l e R s mm args below meth c H locs cells slots ls A mc ms QQ hC hW hl g1 g2 hRm hq)
theorem V_icmp_le {x y : Int32} {off : Int} {tgt : Nat} (hd : decode I.2.1 pc = .ok (.if_icmp .le off, 3)) (kt : x ≤ y → V D d I tgt L st m kc ks Q) (kf : ¬ x ≤ y → V D d I pc2 L st m kc ks Q) (ht : (pc : Int) + off = (tgt : Int) := by rfl) (hp : pc2 = pc + 3 := by rfl) : V D d I pc L (.int y :: .int x :: st) m kc ks Q := by
  subst hp
  intro p l e R s mm args below meth c H locs cells slots ls A mc ms QQ hC hW hl g1 g2 hRm hq
  exact lv_icmp_le hC.1 hC.2.1 hd ht (fun z => kt z p l e R s mm args below meth c H locs cells slots ls A mc ms QQ hC hW hl g1 g2 hRm hq) (fun z => kf z p l e R s mm args below meth c H locs cells slots ls A mc ms QQ hC hW hl g1 g2 hRm hq)
theorem V_goto {off : Int} {tgt : Nat} (hd : decode I.2.1 pc = .ok (.goto off, 3)) (k : V D d I tgt L st m kc ks Q) (ht : (pc : Int) + off = (tgt : Int) := by rfl) : V D d I pc L st m kc ks Q := by
  intro p l e R s mm args below meth c H locs cells slots ls A mc ms QQ hC hW hl g1 g2 hRm hq
  exact lv_goto hC.1 hC.2.1 hd ht (k p l e R s mm args below meth c H locs cells slots ls A mc ms QQ hC hW hl g1 g2 hRm hq)
theorem V_ifnull {x : Option Nat} {off : Int} {tgt : Nat} (hd : decode I.2.1 pc = .ok (.ifnull off, 3)) (kt : x = none → V D d I tgt L st m kc ks Q) (kf : ∀ a, x = some a → V D d I pc2 L st m kc ks Q) (ht : (pc : Int) + off = (tgt : Int) := by rfl) (hp : pc2 = pc + 3 := by rfl) : V D d I pc L (va_rf x :: st) m kc ks Q := by
  subst hp
  intro p l e R s mm args below meth c H locs cells slots ls A mc ms QQ hC hW hl g1 g2 hRm hq
  cases x with
  | none => exact lv_ifnullN hC.1 hC.2.1 hd ht (kt rfl p l e R s mm args below meth c H locs cells slots ls A mc ms QQ hC hW hl g1 g2 hRm hq)
  | some a => exact lv_ifnull hC.1 hC.2.1 hd (kf a rfl p l e R s mm args below meth c H locs cells slots ls A mc ms QQ hC hW hl g1 g2 hRm hq)
theorem V_ifnonnull {x : Option Nat} {off : Int} {tgt : Nat} (hd : decode I.2.1 pc = .ok (.ifnonnull off, 3)) (kt : ∀ a, x = some a → V D d I tgt L st m kc ks Q) (kf : x = none → V D d I pc2 L st m kc ks Q) (ht : (pc : Int) + off = (tgt : Int) := by rfl) (hp : pc2 = pc + 3 := by rfl) : V D d I pc L (va_rf x :: st) m kc ks Q := by
  subst hp
  intro p l e R s mm args below meth c H locs cells slots ls A mc ms QQ hC hW hl g1 g2 hRm hq
  cases x with
  | none => exact lv_ifnonnullN hC.1 hC.2.1 hd (kf rfl p l e R s mm args below meth c H locs cells slots ls A mc ms QQ hC hW hl g1 g2 hRm hq)
  | some a => exact lv_ifnonnull hC.1 hC.2.1 hd ht (kt a rfl p l e R s mm args below meth c H locs cells slots ls A mc ms QQ hC hW hl g1 g2 hRm hq)
theorem V_table {dflt lo hi off : Int} {offs : Array Int} {len tgt : Nat} {x : Int32} (hd : decode I.2.1 pc = .ok (.tableswitch dflt lo hi offs, len)) (ho : decide (lo ≤ x.toInt ∧ x.toInt ≤ hi ∧ offs[(x.toInt - lo).toNat]? = some off) = true) (k : V D d I tgt L st m kc ks Q) (ht : (pc : Int) + off = (tgt : Int) := by rfl) : V D d I pc L (.int x :: st) m kc ks Q := by
  intro p l e R s mm args below meth c H locs cells slots ls A mc ms QQ hC hW hl g1 g2 hRm hq
  have ho := of_decide_eq_true ho
  exact lv_tableIn hC.1 hC.2.1 hd (Int.not_lt.mpr ho.1) (Int.not_lt.mpr ho.2.1) ho.2.2 ht (k p l e R s mm args below meth c H locs cells slots ls A mc ms QQ hC hW hl g1 g2 hRm hq)
theorem V_tableD {dflt lo hi : Int} {offs : Array Int} {len tgt : Nat} {x : Int32} (hd : decode I.2.1 pc = .ok (.tableswitch dflt lo hi offs, len)) (ho : x.toInt < lo ∨ hi < x.toInt) (k : V D d I tgt L st m kc ks Q) (ht : (pc : Int) + dflt = (tgt : Int) := by rfl) : V D d I pc L (.int x :: st) m kc ks Q := by
  intro p l e R s mm args below meth c H locs cells slots ls A mc ms QQ hC hW hl g1 g2 hRm hq
  exact lv_tableOut hC.1 hC.2.1 hd ho ht (k p l e R s mm args below meth c H locs cells slots ls A mc ms QQ hC hW hl g1 g2 hRm hq)
theorem V_lookup {dflt off : Int} {ps : Array (Int × Int)} {len tgt : Nat} {x : Int32} (hd : decode I.2.1 pc = .ok (.lookupswitch dflt ps, len)) (hs : (ps.toList.zip (ps.toList.drop 1)).all (fun (a, next) => a.1 < next.1) = true) (ho : Op.lookupswitch.offset ps.toList dflt x.toInt = off) (k : V D d I tgt L st m kc ks Q) (ht : (pc : Int) + off = (tgt : Int) := by rfl) : V D d I pc L (.int x :: st) m kc ks Q := by
  intro p l e R s mm args below meth c H locs cells slots ls A mc ms QQ hC hW hl g1 g2 hRm hq
  exact lv_lookup hC.1 hC.2.1 hd hs ho ht (k p l e R s mm args below meth c H locs cells slots ls A mc ms QQ hC hW hl g1 g2 hRm hq)
-- returns
theorem V_zret {v : Int32} {ty : FieldType} (hd : decode I.2.1 pc = .ok (.ireturn, 1)) (hr : I.2.2.2 = some ty) (hn : narrow ty (.int v) = .int v) (h : Q (some (.int v)) m) : V D d I pc L [.int v] m kc ks Q := by
  intro p l e R s mm args below meth c H locs cells slots ls A mc ms QQ hC hW hl g1 g2 hRm hq
  exact hq _ m H locs cells slots ls pc _ h hW (Or.inl ⟨v, ty, hd, rfl, rfl, hr, hn⟩) (by omega) (by omega)
theorem V_iret {v : Int32} (hd : decode I.2.1 pc = .ok (.ireturn, 1)) (hr : I.2.2.2 = some .int) (h : Q (some (.int v)) m) : V D d I pc L [.int v] m kc ks Q := V_zret hd hr rfl h
theorem V_vret (hd : decode I.2.1 pc = .ok (.return_, 1)) (hr : I.2.2.2 = none) (h : Q none m) : V D d I pc L [] m kc ks Q := by
  intro p l e R s mm args below meth c H locs cells slots ls A mc ms QQ hC hW hl g1 g2 hRm hq
  exact hq _ m H locs cells slots ls pc _ h hW (Or.inr (Or.inl ⟨hd, rfl, rfl, hr⟩)) (by omega) (by omega)
theorem V_aret {x : Option Nat} {rt : FieldType} (hd : decode I.2.1 pc = .ok (.areturn, 1)) (hr : I.2.2.2 = some rt) (hrt : (∃ n, rt = .object n) ∨ ∃ t, rt = .array t) (h : Q (some (va_rf x)) m) : V D d I pc L [va_rf x] m kc ks Q := by
  intro p l e R s mm args below meth c H locs cells slots ls A mc ms QQ hC hW hl g1 g2 hRm hq
  exact hq _ m H locs cells slots ls pc _ h hW (Or.inr (Or.inr ⟨x, rt, hd, rfl, rfl, hr, hrt⟩)) (by omega) (by omega)
-- memory
theorem V_get {a ci kf index : Nat} {fs : List Value} {v : Value} {C : vw_C} (hd : decode I.2.1 pc = .ok (.getfield index, 3)) (hm : m a = some (.inr (ci, fs))) (hc : cls[ci]? = some C) (hk : kf < C.2.2) (hw : Cond.fieldLink I.1.cls index (C.2.1 kf).1 (C.2.1 kf).2.1 (C.2.1 kf).2.2.1 ∈ GW) (hv : fs[kf]? = some v) (k : V D d I pc2 L (v :: st) m kc ks Q) (hp : pc2 = pc + 3 := by rfl) : V D d I pc L (.ref a :: st) m kc ks Q := by
  subst hp
  intro p l e R s mm args below meth c H locs cells slots ls A mc ms QQ hC hW hl g1 g2 hRm hq
  obtain ⟨ws, hR, hP, hD, hS⟩ := id hW
  obtain ⟨q0, h0⟩ := hR.at hm
  exact va_get hC.1 hC.2.1 hC.2.2.2.2.2.2.2.1 (inG hc) hC.2.2.2.2.2.2.1 hC.2.2.2.2.2.2.2.2.1 hP q0 h0 hc kf hk (hC.2.2.2.2.2.2.2.1 _ hw) (fun _ h9 => h9) hv hd (k p l e R s mm args below meth c H locs cells slots ls A mc ms QQ hC hW hl g1 g2 hRm hq)
theorem V_put {a ci kf index : Nat} {fs : List Value} {v : Value} {C : vw_C} (hd : decode I.2.1 pc = .ok (.putfield index, 3)) (hm : m a = some (.inr (ci, fs))) (hc : cls[ci]? = some C) (hk : kf < C.2.2) (hw : Cond.fieldLink I.1.cls index (C.2.1 kf).1 (C.2.1 kf).2.1 (C.2.1 kf).2.2.1 ∈ GW) (hfin : (C.2.1 kf).2.2.2 = false) (hn : narrow (tyF ci kf) v = v) (hfit : fits (tyF ci kf) v = true) (hlen : kf < fs.length) (k : V D d I pc2 L st (mup m a (.inr (ci, fs.set kf v))) kc ks Q) (hp : pc2 = pc + 3 := by rfl) : V D d I pc L (v :: .ref a :: st) m kc ks Q := by
  subst hp
  intro p l e R s mm args below meth c H locs cells slots ls A mc ms QQ hC hW hl g1 g2 hRm hq
  obtain ⟨ws, hR, hP, hD, hS⟩ := hW
  obtain ⟨q0, h0⟩ := hR.at hm
  exact va_put hC.1 hC.2.1 hC.2.2.2.2.2.2.2.1 (inG hc) (tyF ci) (tyF_ok hc) (nmF hc) hC.2.2.2.2.2.2.1 hC.2.2.2.2.2.2.2.2.1 hP hD hS q0 h0 hc kf hk (hC.2.2.2.2.2.2.2.1 _ hw) (fun _ h9 => h9) hfin (tyF_ok hc kf hk) hn hfit hlen hd (fun H locs hP1 hD1 hS1 => k p l e R s mm args below meth c H locs cells slots ls A mc ms QQ hC ⟨_, hR.set hD h0 (.inr (ci, fs.set kf v)), hP1, hD1, hS1⟩ hl g1 g2 hRm hq)
theorem V_putF {a ci kf index : Nat} {fs : List Value} {v : Value} {C : vw_C} (hd : decode I.2.1 pc = .ok (.putfield index, 3)) (hm : m a = some (.inr (ci, fs))) (hc : cls[ci]? = some C) (hk : kf < C.2.2) (hw : Cond.fieldLink I.1.cls index (C.2.1 kf).1 (C.2.1 kf).2.1 (C.2.1 kf).2.2.1 ∈ GW) (hfin : (C.2.1 kf).2.2.2 = true) (hini : I.1.name = "<init>") (hdec : (C.2.1 kf).1 = I.1.cls) (hn : narrow (tyF ci kf) v = v) (hfit : fits (tyF ci kf) v = true) (hlen : kf < fs.length) (k : V D d I pc2 L st (mup m a (.inr (ci, fs.set kf v))) kc ks Q) (hp : pc2 = pc + 3 := by rfl) : V D d I pc L (v :: .ref a :: st) m kc ks Q := by
  subst hp
  intro p l e R s mm args below meth c H locs cells slots ls A mc ms QQ hC hW hl g1 g2 hRm hq
  obtain ⟨ws, hR, hP, hD, hS⟩ := hW
  obtain ⟨q0, h0⟩ := hR.at hm
  exact va_putF hC.1 hC.2.1 hC.2.2.2.2.2.2.2.1 (inG hc) (tyF ci) (tyF_ok hc) (nmF hc) hC.2.2.2.2.2.2.1 hC.2.2.2.2.2.2.2.2.1 hP hD hS q0 h0 hc kf hk (hC.2.2.2.2.2.2.2.1 _ hw) (fun _ h9 => h9) hfin (hC.2.2.2.2.2.1.trans hini) hdec (tyF_ok hc kf hk) hn hfit hlen hd (fun H locs hP1 hD1 hS1 => k p l e R s mm args below meth c H locs cells slots ls A mc ms QQ hC ⟨_, hR.set hD h0 (.inr (ci, fs.set kf v)), hP1, hD1, hS1⟩ hl g1 g2 hRm hq)
theorem V_iald {a n : Nat} {f : Nat → Int32} {i : Int32} (hd : decode I.2.1 pc = .ok (.iaload, 1)) (hm : m a = some (.inl (0, n, .inl f))) (hin : vp_in i n) (k : V D d I pc2 L (.int (f i.toNatClampNeg) :: st) m kc ks Q) (hp : pc2 = pc + 1 := by rfl) : V D d I pc L (.int i :: .ref a :: st) m kc ks Q := by
  subst hp
  intro p l e R s mm args below meth c H locs cells slots ls A mc ms QQ hC hW hl g1 g2 hRm hq
  obtain ⟨ws, hR, hP, hD, hS⟩ := id hW
  obtain ⟨q0, h0⟩ := hR.at hm
  exact va_iald hC.1 hC.2.1 hC.2.2.2.2.2.2.2.2.1 hP q0 0 h0 (tysOf_at D rfl) hin hd (k p l e R s mm args below meth c H locs cells slots ls A mc ms QQ hC hW hl g1 g2 hRm hq)
theorem V_iast {a n : Nat} {f : Nat → Int32} {i x : Int32} (hd : decode I.2.1 pc = .ok (.iastore, 1)) (hm : m a = some (.inl (0, n, .inl f))) (hin : vp_in i n) (k : V D d I pc2 L st (mup m a (.inl (0, n, .inl (upd f i.toNatClampNeg x)))) kc ks Q) (hp : pc2 = pc + 1 := by rfl) : V D d I pc L (.int x :: .int i :: .ref a :: st) m kc ks Q := by
  subst hp
  intro p l e R s mm args below meth c H locs cells slots ls A mc ms QQ hC hW hl g1 g2 hRm hq
  obtain ⟨ws, hR, hP, hD, hS⟩ := hW
  obtain ⟨q0, h0⟩ := hR.at hm
  exact va_iast hC.1 hC.2.1 hC.2.2.2.2.2.2.2.2.1 hP hD hS q0 0 h0 (tysOf_at D rfl) hin hd (fun H locs hP1 hD1 hS1 => k p l e R s mm args below meth c H locs cells slots ls A mc ms QQ hC ⟨_, hR.set hD h0 (.inl (0, n, .inl (upd f i.toNatClampNeg x))), hP1, hD1, hS1⟩ hl g1 g2 hRm hq)
theorem V_aald {a n t : Nat} {C : String} {f : Nat → Option Nat} {i : Int32} (hd : decode I.2.1 pc = .ok (.aaload, 1)) (hm : m a = some (.inl (t, n, .inr (.inr (.inr (.inr f)))))) (ht : tyL[t]? = some (.object C)) (hin : vp_in i n) (k : V D d I pc2 L (va_rf (f i.toNatClampNeg) :: st) m kc ks Q) (hp : pc2 = pc + 1 := by rfl) : V D d I pc L (.int i :: .ref a :: st) m kc ks Q := by
  subst hp
  intro p l e R s mm args below meth c H locs cells slots ls A mc ms QQ hC hW hl g1 g2 hRm hq
  obtain ⟨ws, hR, hP, hD, hS⟩ := id hW
  obtain ⟨q0, h0⟩ := hR.at hm
  exact va_aldq hC.1 hC.2.1 hC.2.2.2.2.2.2.2.2.1 hP q0 t h0 (tysOf_at D ht) hin hd (k p l e R s mm args below meth c H locs cells slots ls A mc ms QQ hC hW hl g1 g2 hRm hq)
theorem V_aast {a n t ci v : Nat} {C : vw_C} {vs : List Value} {f : Nat → Option Nat} {i : Int32} (hd : decode I.2.1 pc = .ok (.aastore, 1)) (hm : m a = some (.inl (t, n, .inr (.inr (.inr (.inr f)))))) (hv : m v = some (.inr (ci, vs))) (hc : cls[ci]? = some C) (ht : tyL[t]? = some (.object C.1)) (hin : vp_in i n) (k : V D d I pc2 L st (mup m a (.inl (t, n, .inr (.inr (.inr (.inr (va_up f i.toNatClampNeg (some v)))))))) kc ks Q) (hp : pc2 = pc + 1 := by rfl) : V D d I pc L (.ref v :: .int i :: .ref a :: st) m kc ks Q := by
  subst hp
  intro p l e R s mm args below meth c H locs cells slots ls A mc ms QQ hC hW hl g1 g2 hRm hq
  obtain ⟨ws, hR, hP, hD, hS⟩ := hW
  obtain ⟨q0, h0⟩ := hR.at hm
  obtain ⟨q1, h1⟩ := hR.at hv
  exact va_astq hC.1 hC.2.1 hC.2.2.2.2.2.2.2.2.1 hP hD hS q0 t q1 ci h0 (tysOf_at D ht) h1 hc hin hd (fun H locs hP1 hD1 hS1 => k p l e R s mm args below meth c H locs cells slots ls A mc ms QQ hC ⟨_, hR.set hD h0 (.inl (t, n, .inr (.inr (.inr (.inr (va_up f i.toNatClampNeg (some v)))))))  , hP1, hD1, hS1⟩ hl g1 g2 hRm hq)
theorem V_alen {a t : Nat} {x : vp_A} {ty : FieldType} {v : Int32} (hd : decode I.2.1 pc = .ok (.arraylength, 1)) (hm : m a = some (.inl (t, x))) (ht : tyL[t]? = some ty) (hv : Int32.ofNat x.1 = v) (k : V D d I pc2 L (.int v :: st) m kc ks Q) (hp : pc2 = pc + 1 := by rfl) : V D d I pc L (.ref a :: st) m kc ks Q := by
  subst hp
  intro p l e R s mm args below meth c H locs cells slots ls A mc ms QQ hC hW hl g1 g2 hRm hq
  obtain ⟨ws, hR, hP, hD, hS⟩ := id hW
  obtain ⟨q0, h0⟩ := hR.at hm
  exact va_alen hC.1 hC.2.1 hC.2.2.2.2.2.2.2.2.1 hP q0 t h0 (tysOf_at D ht) hv hd (k p l e R s mm args below meth c H locs cells slots ls A mc ms QQ hC hW hl g1 g2 hRm hq)
theorem V_newa {n : Int32} {N : Nat} (hd : decode I.2.1 pc = .ok (.newarray .int, 2)) (hw : Cond.arrayClass .int ∈ GW) (hn : ¬ n < 0) (hN : n.toNatClampNeg = N) (hb : decide (N ≤ 100000) = true) (k : ∀ q : Nat, m q = none → V D d I pc2 L (.ref q :: st) (mup m q (.inl (0, N, .inl (fun _ => 0)))) kc ks Q) (hp : pc2 = pc + 2 := by rfl) : V D d I pc L (.int n :: st) m (kc + 1) (ks + N) Q := by
  subst hp
  intro p l e R s mm args below meth c H locs cells slots ls A mc ms QQ hC hW hl g1 g2 hRm hq
  obtain ⟨ws, hR, hP, hD, hS⟩ := hW
  have hb := of_decide_eq_true hb
  refine va_newa (atype := .int) (ty := .int) (a0 := (N, .inl (fun _ => 0))) hC.1 hC.2.1 (hC.2.2.2.2.2.2.2.1 _ hw) rfl hC.2.2.2.2.2.2.2.2.1 hP hD hS hC.2.2.2.2.2.2.2.2.2.2 (fun cA => rfl) hn hN ?_ (by omega) (by omega) hd (fun q cA H1 hK1 hP1 hD1 hS1 => ?_)
  · show N * 4 ≤ 536870912
    omega
  have e1 := (hK1.2 6 (cA, .int) (by rfl)).2
  have e2 := (hK1.2 0 (D.2.1 0, .int) (by rfl)).2
  have e3 : cA = D.2.1 0 := Option.some.inj (e1.symm.trans e2)
  subst e3
  exact k q (hR.fresh hD1) p l e R s mm args below meth c H1 locs (cells + 1) (slots + N) ls A mc ms QQ hC ⟨_, hR.push (hR.fresh hD1) (.inl (0, N, .inl (fun _ => 0))), hP1, hD1, hS1⟩ hl (by omega) (by omega) hRm hq
theorem V_newq {n : Int32} {N index t : Nat} {C : String} (hd : decode I.2.1 pc = .ok (.anewarray index, 3)) (hw : Cond.classLink I.1.cls index C ∈ GW) (hw2 : Cond.arrayOver (.object C) ∈ NestW) (ht : tyL[t]? = some (.object C)) (hn : ¬ n < 0) (hN : n.toNatClampNeg = N) (hb : decide (N ≤ 100000) = true) (k : ∀ q : Nat, m q = none → V D d I pc2 L (.ref q :: st) (mup m q (.inl (t, N, .inr (.inr (.inr (.inr (fun _ => none))))))) kc ks Q) (hp : pc2 = pc + 3 := by rfl) : V D d I pc L (.int n :: st) m (kc + 1) (ks + N) Q := by
  subst hp
  intro p l e R s mm args below meth c H locs cells slots ls A mc ms QQ hC hW hl g1 g2 hRm hq
  obtain ⟨ws, hR, hP, hD, hS⟩ := hW
  have hb := of_decide_eq_true hb
  refine va_newq hC.1 hC.2.1 hC.2.2.2.2.2.2.1 (hC.2.2.2.2.2.2.2.1 _ hw) (hC.2.2.2.2.2.2.2.2.2.1.1 _ hw2) hC.2.2.2.2.2.2.2.2.1 hP hD hS hC.2.2.2.2.2.2.2.2.2.2 hn hN (by omega) (by omega) (by omega) hd (fun q cA H1 hK1 hP1 hD1 hS1 => ?_)
  have e1 := (hK1.2 6 (cA, .object C) (by rfl)).2
  have e2 := (hC.2.2.2.2.2.2.2.2.1.2 t _ (tysOf_at D ht)).2
  obtain ⟨-, -, -, -, -, e1⟩ := e1
  obtain ⟨-, -, -, -, -, e2⟩ := e2
  have e3 : cA = D.2.1 t := Option.some.inj (e1.symm.trans e2)
  subst e3
  exact k q (hR.fresh hD1) p l e R s mm args below meth c H1 locs (cells + 1) (slots + N) ls A mc ms QQ hC ⟨_, hR.push (hR.fresh hD1) (.inl (t, N, .inr (.inr (.inr (.inr (fun _ => none)))))), hP1, hD1, hS1⟩ hl (by omega) (by omega) hRm hq
theorem V_new {ci index : Nat} {C : vw_C} {fs : List Value} (hd : decode I.2.1 pc = .ok (.new index, 3)) (hc : cls[ci]? = some C) (hw : Cond.classLink I.1.cls index C.1 ∈ GW) (hw2 : Cond.instantiable C.1 C.2.2 ∈ GW) (hw3 : Cond.initialized C.1 ∈ GW) (hfs : ∀ j, j < C.2.2 → defaultValue (tyF ci j) = vp_V fs j) (k : ∀ q : Nat, m q = none → V D d I pc2 L (.ref q :: st) (mup m q (.inr (ci, fs))) kc ks Q) (hp : pc2 = pc + 3 := by rfl) : V D d I pc L st m (kc + 1) (ks + C.2.2) Q := by
  subst hp
  intro p l e R s mm args below meth c H locs cells slots ls A mc ms QQ hC hW hl g1 g2 hRm hq
  obtain ⟨ws, hR, hP, hD, hS⟩ := hW
  have hG := hC.2.2.2.2.2.2.2.1
  refine va_new hC.1 hC.2.1 hG (inG hc) (tyF ci) (tyF_ok hc) hC.2.2.2.2.2.2.1 (hG _ hw) (hG _ hw2) (hG _ hw3) hC.2.2.2.2.2.2.2.2.1 hP hD hS hC.2.2.2.2.2.2.2.2.2.2 hc hfs (by omega) (by omega) hd (fun q H1 hP1 hD1 hS1 => ?_)
  exact k q (hR.fresh hD1) p l e R s mm args below meth c H1 locs (cells + 1) (slots + C.2.2) ls A mc ms QQ hC ⟨_, hR.push (hR.fresh hD1) (.inr (ci, fs)), hP1, hD1, hS1⟩ hl (by omega) (by omega) hRm hq
theorem V_obj {a index : Nat} (hd : decode I.2.1 pc = .ok (.invokespecial index, 3)) (h1 : decide (1 ≤ d) = true) (hs : ((st.map fun v => v.category).sum) ≤ 8) (hw : Cond.methodLink I.1.cls index Lib.objectInit ∈ GW) (hw2 : Cond.instanceMethod Lib.objectInit ∈ GW) (hw3 : Cond.code Lib.objectInit ⟨#[0xb1]⟩ 1 none ∈ GW) (k : V D d I pc2 L st m kc ks Q) (hp : pc2 = pc + 3 := by rfl) : V D d I pc L (.ref a :: st) m kc ks Q := by
  subst hp
  intro p l e R s mm args below meth c H locs cells slots ls A mc ms QQ hC hW hl g1 g2 hRm hq
  have hG := hC.2.2.2.2.2.2.2.1
  have h1 := of_decide_eq_true h1
  refine W.objInit hC.1 hC.2.1 hC.2.2.2.2.2.2.1 (hG _ hw) (hG _ hw2) (hG _ hw3) rfl (by rw [hC.2.2.1]; exact hl.1) rfl hd (by omega) ?_ (k p l e R s mm args below meth c H locs cells slots ls A mc ms QQ hC hW hl g1 g2 hRm hq)
  have := lv_room (m := mm) (pc := pc) (ls := ls) (rest := (.ref a :: st)) hs
  omega
theorem V_above {index : Nat} (hd : decode I.2.1 pc = .ok (.getstatic index, 3)) (hw : Cond.fieldLink I.1.cls index "ParcelRing" "ABOVE" "[I" ∈ GW) (k : V D d I pc2 L (.ref D.2.2.1 :: st) m kc ks Q) (hp : pc2 = pc + 3 := by rfl) : V D d I pc L st m kc ks Q := by
  subst hp
  intro p l e R s mm args below meth c H locs cells slots ls A mc ms QQ hC hW hl g1 g2 hRm hq
  obtain ⟨ws, hR, hP, hD, hS⟩ := id hW
  exact va_gets hC.1 hC.2.1 hC.2.2.2.2.2.2.2.2.2.1.2.1 hS hC.2.2.2.2.2.2.1 (hC.2.2.2.2.2.2.2.1 _ hw) (fun _ h => h) hd (k p l e R s mm args below meth c H locs cells slots ls A mc ms QQ hC hW hl g1 g2 hRm hq)
theorem V_aboveN {index : Nat} (hd : decode I.2.1 pc = .ok (.getstatic index, 3)) (hw : Cond.fieldLinkNest I.1.cls index "ParcelRing" "ABOVE" "[I" "ParcelRing" ∈ NestW) (k : V D d I pc2 L (.ref D.2.2.1 :: st) m kc ks Q) (hp : pc2 = pc + 3 := by rfl) : V D d I pc L st m kc ks Q := by
  subst hp
  intro p l e R s mm args below meth c H locs cells slots ls A mc ms QQ hC hW hl g1 g2 hRm hq
  obtain ⟨ws, hR, hP, hD, hS⟩ := id hW
  exact va_getsN hC.1 hC.2.1 hC.2.2.2.2.2.2.2.2.2.1.2.1 hS hC.2.2.2.2.2.2.1 (va_Nw.use rfl (hC.2.2.2.2.2.2.2.2.2.1.1 _ hw)) (fun _ h => h) hd (k p l e R s mm args below meth c H locs cells slots ls A mc ms QQ hC hW hl g1 g2 hRm hq)
theorem V_abld {i : Int32} (hd : decode I.2.1 pc = .ok (.iaload, 1)) (hin : vp_in i 6) (k : V D d I pc2 L (.int (abv i.toNatClampNeg) :: st) m kc ks Q) (hp : pc2 = pc + 1 := by rfl) : V D d I pc L (.int i :: .ref D.2.2.1 :: st) m kc ks Q := by
  subst hp
  intro p l e R s mm args below meth c H locs cells slots ls A mc ms QQ hC hW hl g1 g2 hRm hq
  obtain ⟨ws, hR, hP, hD, hS⟩ := id hW
  exact va_ti hC.1 hC.2.1 hC.2.2.2.2.2.2.2.2.2.1.2.2.1 hS hin rfl hd (k p l e R s mm args below meth c H locs cells slots ls A mc ms QQ hC hW hl g1 g2 hRm hq)
theorem V_ablen (hd : decode I.2.1 pc = .ok (.arraylength, 1)) (k : V D d I pc2 L (.int 6 :: st) m kc ks Q) (hp : pc2 = pc + 1 := by rfl) : V D d I pc L (.ref D.2.2.1 :: st) m kc ks Q := by
  subst hp
  intro p l e R s mm args below meth c H locs cells slots ls A mc ms QQ hC hW hl g1 g2 hRm hq
  obtain ⟨ws, hR, hP, hD, hS⟩ := id hW
  exact va_tlen hC.1 hC.2.1 hC.2.2.2.2.2.2.2.2.2.1.2.2.1 hS rfl hd (k p l e R s mm args below meth c H locs cells slots ls A mc ms QQ hC hW hl g1 g2 hRm hq)
theorem V_copy {a b n0 n1 index : Nat} {f g : Nat → Int32} {sp dp n : Int32} (hd : decode I.2.1 pc = .ok (.invokestatic index, 3)) (h1 : decide (2 ≤ d) = true) (hs : ((st.map fun v => v.category).sum) ≤ 8) (hw : Cond.methodLink I.1.cls index arraycopyName ∈ GW) (hw2 : Cond.native arraycopyName ∈ GW) (hw3 : Cond.static arraycopyName ∈ GW) (hw4 : Cond.initialized "java/lang/System" ∈ GW) (hm0 : m a = some (.inl (0, n0, .inl f))) (hm1 : m b = some (.inl (0, n1, .inl g))) (h2 : ¬ sp < 0) (h3 : ¬ dp < 0) (h4 : ¬ n < 0) (h5 : sp.toNatClampNeg + n.toNatClampNeg ≤ n0) (h6 : dp.toNatClampNeg + n.toNatClampNeg ≤ n1) (k : V D d I pc2 L st (mup m b (.inl (0, n1, .inl (va_cpy f g sp.toNatClampNeg dp.toNatClampNeg n.toNatClampNeg)))) kc ks Q) (hp : pc2 = pc + 3 := by rfl) : V D d I pc L (.int n :: .int dp :: .ref b :: .int sp :: .ref a :: st) m kc ks Q := by
  subst hp
  intro p l e R s mm args below meth c H locs cells slots ls A mc ms QQ hC hW hl g1 g2 hRm hq
  obtain ⟨ws, hR, hP, hD, hS⟩ := hW
  obtain ⟨q0, e0⟩ := hR.at hm0
  obtain ⟨q1, e1⟩ := hR.at hm1
  have hG := hC.2.2.2.2.2.2.2.1
  have h1 := of_decide_eq_true h1
  refine va_copyi (ty := .int) hC.1 hC.2.1 (by rw [hC.2.2.1]; exact hl.1.symm) hC.2.2.2.2.2.2.1 (hG _ hw) (hG _ hw2) (hG _ hw3) (hG _ hw4) hC.2.2.2.2.2.2.2.2.1 hP hD hS q0 q1 0 0 e0 e1 (tysOf_at D rfl) (tysOf_at D rfl) rfl h2 h3 h4 h5 h6 (fun _ _ => rfl) (by omega) ?_ hd (fun H locs hP1 hD1 hS1 => k p l e R s mm args below meth c H locs cells slots ls A mc ms QQ hC ⟨_, hR.set hD e1 (.inl (0, n1, .inl (va_cpy f g sp.toNatClampNeg dp.toNatClampNeg n.toNatClampNeg))), hP1, hD1, hS1⟩ hl g1 g2 hRm hq)
  have : nativeFrameWords "java/lang/System" "arraycopy" 5 + 11 ≤ 40 := by decide +kernel
  omega

theorem Pw_blind {D : Dat} {m : Mem} {sz : Nat} {av : List Value} : FrameBlind (va_Pc av (Pw D m sz)) := by
  intro a U g mk h
  obtain ⟨h0, h1, h2, h3, h4⟩ := h
  exact ⟨h0, h1, h2, va_K.moved (u := U) (U := U.calling g mk a) (Vm.Alike.refl U.vm) h3, Ext.blind (U := U) (V := U.calling g mk a) rfl h4⟩
theorem Pw_call {I : Inf} {A : Nat → Prop} {p : Program} {s U : State} {mm : MethodId} {args : Array Value} {meth : Method} {c : Code} {H : Heap} {locs : List Loc} (hC : Cx D I A p s mm args meth c) (hW : Wd D A m s.heap H locs) (hU : U.heap = H) (hWm : s.WarmedH U.vm) : Pw D m H.size U := by
  obtain ⟨ws, hR, hP, hD, hS⟩ := hW
  refine ⟨by rw [hU], ⟨ws, hR, by rw [hU]; exact hP, hD.weaken (fun _ _ _ _ => trivial)⟩, va_K.moved hWm.alike hC.2.2.2.2.2.2.2.2.1, ?_⟩
  rw [hU]
  refine Ext.move hC.2.2.2.2.2.2.2.2.2.1 hS hWm ?_
  rintro q (h | h)
  · cases hm : m q with
    | none => exact absurd hm h
    | some e =>
      obtain ⟨k, hk⟩ := hR.at hm
      exact hD.2 k _ hk
  · exact hC.2.2.2.2.2.2.2.2.2.2 q (Nat.le_trans hS.1 h)
/-- behind any call -/
theorem V_ret {p : Program} {l : Launch} {e : Env} {R : Room} {s : State} {mm : MethodId} {args a : Array Value} {below : List Frame} {meth : Method} {c : Code} {H : Heap} {locs : List Loc} {cells slots mc ms : Nat} {QQ : State → Prop} {ls : Array Slot} {st0 rest : List Value} {A : Nat → Prop} {Q' : Option Value → Mem → Prop} (hA : ∀ q, s.heap.size ≤ q → A q) (hW : Wd D A m s.heap H locs) (hr : va_Run p l e R s mm args below meth c H locs cells slots mc ms (F0 mm pc ls st0) rest (Qw D m H.size Q' a) (Am m H.size))
    (kk : ∀ (r : Option Value) (m1 : Mem) (H1 : Heap) (locs1 : List Loc), Q' r m1 → Wd D A m1 s.heap H1 locs1 → W p l e R s mm args below meth c H1 locs1 (cells + mc) (slots + ms) QQ (F0 mm (pc + 3) ls (r.toList ++ rest))) : W p l e R s mm args below meth c H locs cells slots QQ (F0 mm pc ls st0) := by
  intro T hT X
  obtain ⟨ws, hR, hP, hD, hS⟩ := hW
  have hsub : ∀ q, Am m H.size q → A q := by
    rintro q (h | h)
    · cases hm : m q with
      | none => exact absurd hm h
      | some e =>
        obtain ⟨k, hk⟩ := hR.at hm
        exact hD.2 k _ hk
    · exact hA q (Nat.le_trans hS.1 h)
  obtain ⟨v, st₀, t, T', LL, h0, X', hL, e1, e2, ⟨⟨r, m1, ws1, hv, hQ, hR1, hP1, hD1⟩, hz, hk⟩, st⟩ := hr T hT X
  cases hv
  rw [h0] at hz hk
  obtain ⟨t2, a1, b1⟩ := kk v m1 T'.heap (locs ++ LL) hQ ⟨ws1, hR1, by rw [e1]; exact hP1, hD1.weaken (fun _ q _ h => hsub q.1 h), by
    refine ⟨Nat.le_trans hS.1 (by rw [e1]; exact hz), fun q g1 g2 => ?_, fun q hq => ?_⟩
    · rw [e1, hk q (Nat.lt_of_lt_of_le g1 hS.1) (fun z => g2 (hsub q z))]
      exact hS.2.1 q g1 g2
    · rcases List.mem_append.mp hq with h | h
      · exact hS.2.2 q h
      · exact hsub _ (hL q h)⟩ T' rfl X'
  exact ⟨t2, st t2 a1, b1⟩

theorem V_callV {J : Inf} {index d2 mc2 ms2 n : Nat} {As : List Value} {b ci : Nat} {fs : List Value} {C : vw_C} {Q' : Option Value → Mem → Prop} (hT : T D d2 J (.ref b :: As) m mc2 ms2 Q') (hd : decode I.2.1 pc = .ok (.invokevirtual index, 3)) (hb : m b = some (.inr (ci, fs))) (hc : cls[ci]? = some C) (hw : Cond.methodLink I.1.cls index J.1 ∈ GW) (hw2 : Cond.instanceMethod J.1 ∈ GW) (hw3 : Cond.selects C.1 J.1 J.1 ∈ GW) (hwi : Cond.initialized J.1.cls ∈ GW) (hwc : wI J ∈ GW) (hy : (J.1.cls ≠ "java/lang/invoke/MethodHandle" ∧ J.1.cls ≠ "java/lang/invoke/VarHandle" ∧ (parseMethodDescriptor J.1.desc).map (fun d => d.parameters.length) = some n)) (hn : As.length = n) (hml : decide (J.2.2.1 ≤ 21 ∧ d2 < d) = true) (hs : ((st.map fun v => v.category).sum) ≤ 8) (k : ∀ (r : Option Value) (m1 : Mem), Q' r m1 → V D d I pc2 L (r.toList ++ st) m1 kc ks Q) (hp : pc2 = pc + 3 := by rfl) : V D d I pc L (As.reverse ++ .ref b :: st) m (kc + mc2) (ks + ms2) Q := by
  subst hp
  intro p l e R s mm args below meth c H locs cells slots ls A mc ms QQ hC hW hl g1 g2 hRm hq
  have hG := hC.2.2.2.2.2.2.2.1
  have hml := of_decide_eq_true hml
  have hrm : (rmOf d2 mc2 ms2).frames + 1 ≤ R.frames ∧ 8 + (J.2.2.1 + 11) + (rmOf d2 mc2 ms2).locals ≤ R.locals := ⟨by show d2 + 1 ≤ _; omega, by show 8 + (J.2.2.1 + 11) + 40 * d2 ≤ _; omega⟩
  have hrecv : ∃ cellB : Cell, H[b]? = some cellB ∧ cellB.vm.isStatics = false ∧ s.vm.findClass C.1 = some cellB.cls := by
    obtain ⟨ws, hR, hP, hD, hS⟩ := hW
    obtain ⟨q0, h0⟩ := hR.at hb
    exact va_recv hC.2.2.2.2.2.2.2.2.1 hP hc h0
  refine V_ret hC.2.2.2.2.2.2.2.2.2.2 hW (va_runV ⟨hC.1, hC.2.1, hC.2.2.1, hC.2.2.2.2.2.2.1, hG⟩ (hT l H.size) ⟨callB_of n hG (gw_cons hwc) rfl rfl rfl (hG _ hwi) (hG _ hw) hy hrm, hG _ hw2, hG _ hw3⟩ ⟨Pw_blind, hrecv, fun U hU hWm => ⟨rfl, Pw_call hC hW hU hWm⟩⟩ rfl hn hl.1 rfl (lv_room hs) hd ⟨by omega, by omega⟩) (fun r m1 H1 locs1 hQ1 hW1 => k r m1 hQ1 p l e R s mm args below meth c H1 locs1 (cells + mc2) (slots + ms2) ls A mc ms QQ hC hW1 hl (by omega) (by omega) hRm hq)
theorem V_callS {J : Inf} {index d2 mc2 ms2 n : Nat} {As : List Value}  {Q' : Option Value → Mem → Prop} (hT : T D d2 J (As) m mc2 ms2 Q') (hd : decode I.2.1 pc = .ok (.invokestatic index, 3))  (hw : Cond.methodLink I.1.cls index J.1 ∈ GW) (hw2 : Cond.static J.1 ∈ GW) (hwi : Cond.initialized J.1.cls ∈ GW) (hwc : wI J ∈ GW) (hy : (J.1.cls ≠ "java/lang/invoke/MethodHandle" ∧ J.1.cls ≠ "java/lang/invoke/VarHandle" ∧ (parseMethodDescriptor J.1.desc).map (fun d => d.parameters.length) = some n)) (hn : As.length = n) (hml : decide (J.2.2.1 ≤ 21 ∧ d2 < d) = true) (hs : ((st.map fun v => v.category).sum) ≤ 8) (k : ∀ (r : Option Value) (m1 : Mem), Q' r m1 → V D d I pc2 L (r.toList ++ st) m1 kc ks Q) (hp : pc2 = pc + 3 := by rfl) : V D d I pc L (As.reverse ++ st) m (kc + mc2) (ks + ms2) Q := by
  subst hp
  intro p l e R s mm args below meth c H locs cells slots ls A mc ms QQ hC hW hl g1 g2 hRm hq
  have hG := hC.2.2.2.2.2.2.2.1
  have hml := of_decide_eq_true hml
  have hrm : (rmOf d2 mc2 ms2).frames + 1 ≤ R.frames ∧ 8 + (J.2.2.1 + 11) + (rmOf d2 mc2 ms2).locals ≤ R.locals := ⟨by show d2 + 1 ≤ _; omega, by show 8 + (J.2.2.1 + 11) + 40 * d2 ≤ _; omega⟩

  refine V_ret hC.2.2.2.2.2.2.2.2.2.2 hW (va_runS ⟨hC.1, hC.2.1, hC.2.2.1, hC.2.2.2.2.2.2.1, hG⟩ (hT l H.size) ⟨callB_of n hG (gw_cons hwc) rfl rfl rfl (hG _ hwi) (hG _ hw) hy hrm, hG _ hw2⟩ ⟨Pw_blind, fun U hU hWm => ⟨rfl, Pw_call hC hW hU hWm⟩⟩ rfl hn hl.1 rfl (lv_room hs) hd ⟨by omega, by omega⟩) (fun r m1 H1 locs1 hQ1 hW1 => k r m1 hQ1 p l e R s mm args below meth c H1 locs1 (cells + mc2) (slots + ms2) ls A mc ms QQ hC hW1 hl (by omega) (by omega) hRm hq)
theorem V_callSN {J : Inf} {index d2 mc2 ms2 n : Nat} {As : List Value} {host : String} {Q' : Option Value → Mem → Prop} (hT : T D d2 J (As) m mc2 ms2 Q') (hd : decode I.2.1 pc = .ok (.invokestatic index, 3))  (hw : Cond.methodLinkNest I.1.cls index J.1 host ∈ NestW) (hw2 : Cond.static J.1 ∈ GW) (hwi : Cond.initialized J.1.cls ∈ GW) (hwc : wI J ∈ GW) (hy : (J.1.cls ≠ "java/lang/invoke/MethodHandle" ∧ J.1.cls ≠ "java/lang/invoke/VarHandle" ∧ (parseMethodDescriptor J.1.desc).map (fun d => d.parameters.length) = some n)) (hn : As.length = n) (hml : decide (J.2.2.1 ≤ 21 ∧ d2 < d) = true) (hs : ((st.map fun v => v.category).sum) ≤ 8) (k : ∀ (r : Option Value) (m1 : Mem), Q' r m1 → V D d I pc2 L (r.toList ++ st) m1 kc ks Q) (hp : pc2 = pc + 3 := by rfl) : V D d I pc L (As.reverse ++ st) m (kc + mc2) (ks + ms2) Q := by
  subst hp
  intro p l e R s mm args below meth c H locs cells slots ls A mc ms QQ hC hW hl g1 g2 hRm hq
  have hG := hC.2.2.2.2.2.2.2.1
  have hml := of_decide_eq_true hml
  have hrm : (rmOf d2 mc2 ms2).frames + 1 ≤ R.frames ∧ 8 + (J.2.2.1 + 11) + (rmOf d2 mc2 ms2).locals ≤ R.locals := ⟨by show d2 + 1 ≤ _; omega, by show 8 + (J.2.2.1 + 11) + 40 * d2 ≤ _; omega⟩

  refine V_ret hC.2.2.2.2.2.2.2.2.2.2 hW (va_runSN ⟨hC.1, hC.2.1, hC.2.2.1, hC.2.2.2.2.2.2.1, hG⟩ (hT l H.size) ⟨va_cnB n hG (gw_cons hwc) rfl rfl rfl (hC.2.2.2.2.2.2.2.2.2.1.1 _ hw) (hG _ hwi) hy hrm, hG _ hw2, trivial⟩ ⟨Pw_blind, fun U hU hWm => ⟨rfl, Pw_call hC hW hU hWm⟩⟩ rfl hn hl.1 rfl (lv_room hs) hd ⟨by omega, by omega⟩) (fun r m1 H1 locs1 hQ1 hW1 => k r m1 hQ1 p l e R s mm args below meth c H1 locs1 (cells + mc2) (slots + ms2) ls A mc ms QQ hC hW1 hl (by omega) (by omega) hRm hq)
theorem V_callI {J : Inf} {index d2 mc2 ms2 n : Nat} {As : List Value} {b : Nat} {Q' : Option Value → Mem → Prop} (hT : T D d2 J (.ref b :: As) m mc2 ms2 Q') (hd : decode I.2.1 pc = .ok (.invokespecial index, 3))  (hv : J.2.2.2 = none) (hnm : J.1.name = "<init>") (hw : Cond.methodLink I.1.cls index J.1 ∈ GW) (hw2 : Cond.instanceMethod J.1 ∈ GW) (hwi : Cond.initialized J.1.cls ∈ GW) (hwc : wI J ∈ GW) (hy : (J.1.cls ≠ "java/lang/invoke/MethodHandle" ∧ J.1.cls ≠ "java/lang/invoke/VarHandle" ∧ (parseMethodDescriptor J.1.desc).map (fun d => d.parameters.length) = some n)) (hn : As.length = n) (hml : decide (J.2.2.1 ≤ 21 ∧ d2 < d) = true) (hs : ((st.map fun v => v.category).sum) ≤ 8) (k : ∀ (r : Option Value) (m1 : Mem), Q' r m1 → V D d I pc2 L (r.toList ++ st) m1 kc ks Q) (hp : pc2 = pc + 3 := by rfl) : V D d I pc L (As.reverse ++ .ref b :: st) m (kc + mc2) (ks + ms2) Q := by
  subst hp
  intro p l e R s mm args below meth c H locs cells slots ls A mc ms QQ hC hW hl g1 g2 hRm hq
  have hG := hC.2.2.2.2.2.2.2.1
  have hml := of_decide_eq_true hml
  have hrm : (rmOf d2 mc2 ms2).frames + 1 ≤ R.frames ∧ 8 + (J.2.2.1 + 11) + (rmOf d2 mc2 ms2).locals ≤ R.locals := ⟨by show d2 + 1 ≤ _; omega, by show 8 + (J.2.2.1 + 11) + 40 * d2 ≤ _; omega⟩
  have hcb := callB_of (R := R) (own := I.1.cls) (index := index) (mc := mc2) (ms := ms2) (rm := rmOf d2 mc2 ms2) n hG (gw_cons hwc) rfl rfl rfl (hG _ hwi) (hG _ hw) hy hrm
  refine V_ret hC.2.2.2.2.2.2.2.2.2.2 hW (va_runI ⟨hC.1, hC.2.1, hC.2.2.1, hC.2.2.2.2.2.2.1, hG⟩ (hT l H.size) ⟨by rw [hv] at hcb; exact hcb, hnm, hG _ hw2⟩ ⟨Pw_blind, fun U hU hWm => ⟨rfl, Pw_call hC hW hU hWm⟩⟩ rfl hn hl.1 rfl (lv_room hs) hd ⟨by omega, by omega⟩) (fun r m1 H1 locs1 hQ1 hW1 => k r m1 hQ1 p l e R s mm args below meth c H1 locs1 (cells + mc2) (slots + ms2) ls A mc ms QQ hC hW1 hl (by omega) (by omega) hRm hq)
theorem V_callIN {J : Inf} {index d2 mc2 ms2 n : Nat} {As : List Value} {b : Nat} {host : String} {Q' : Option Value → Mem → Prop} (hT : T D d2 J (.ref b :: As) m mc2 ms2 Q') (hd : decode I.2.1 pc = .ok (.invokespecial index, 3))  (hv : J.2.2.2 = none) (hnm : J.1.name = "<init>") (hw : Cond.methodLinkNest I.1.cls index J.1 host ∈ NestW) (hw2 : Cond.instanceMethod J.1 ∈ GW) (hwi : Cond.initialized J.1.cls ∈ GW) (hwc : wI J ∈ GW) (hy : (J.1.cls ≠ "java/lang/invoke/MethodHandle" ∧ J.1.cls ≠ "java/lang/invoke/VarHandle" ∧ (parseMethodDescriptor J.1.desc).map (fun d => d.parameters.length) = some n)) (hn : As.length = n) (hml : decide (J.2.2.1 ≤ 21 ∧ d2 < d) = true) (hs : ((st.map fun v => v.category).sum) ≤ 8) (k : ∀ (r : Option Value) (m1 : Mem), Q' r m1 → V D d I pc2 L (r.toList ++ st) m1 kc ks Q) (hp : pc2 = pc + 3 := by rfl) : V D d I pc L (As.reverse ++ .ref b :: st) m (kc + mc2) (ks + ms2) Q := by
  subst hp
  intro p l e R s mm args below meth c H locs cells slots ls A mc ms QQ hC hW hl g1 g2 hRm hq
  have hG := hC.2.2.2.2.2.2.2.1
  have hml := of_decide_eq_true hml
  have hrm : (rmOf d2 mc2 ms2).frames + 1 ≤ R.frames ∧ 8 + (J.2.2.1 + 11) + (rmOf d2 mc2 ms2).locals ≤ R.locals := ⟨by show d2 + 1 ≤ _; omega, by show 8 + (J.2.2.1 + 11) + 40 * d2 ≤ _; omega⟩
  have hcb := va_cnB (R := R) (own := I.1.cls) (index := index) (host := host) (mc := mc2) (ms := ms2) (rm := rmOf d2 mc2 ms2) n hG (gw_cons hwc) rfl rfl rfl (hC.2.2.2.2.2.2.2.2.2.1.1 _ hw) (hG _ hwi) hy hrm
  refine V_ret hC.2.2.2.2.2.2.2.2.2.2 hW (va_runIN ⟨hC.1, hC.2.1, hC.2.2.1, hC.2.2.2.2.2.2.1, hG⟩ (hT l H.size) ⟨by rw [hv] at hcb; exact hcb, hnm, hG _ hw2⟩ ⟨Pw_blind, fun U hU hWm => ⟨rfl, Pw_call hC hW hU hWm⟩⟩ rfl hn hl.1 rfl (lv_room hs) hd ⟨by omega, by omega⟩) (fun r m1 H1 locs1 hQ1 hW1 => k r m1 hQ1 p l e R s mm args below meth c H1 locs1 (cells + mc2) (slots + ms2) ls A mc ms QQ hC hW1 hl (by omega) (by omega) hRm hq)
end VR
