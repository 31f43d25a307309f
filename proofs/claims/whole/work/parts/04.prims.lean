/-! the primitives that the methods' functions are made of, and their rows -/
def zb (b : Bool) : Int32 := if b then 1 else 0
def Qi (v : Int32) (m1 : Mem) : Option Value → Mem → Prop := fun r m => r = some (.int v) ∧ m = m1
def Qv (m1 : Mem) : Option Value → Mem → Prop := fun r m => r = none ∧ m = m1
def Qq (x : Option Nat) (m1 : Mem) : Option Value → Mem → Prop := fun r m => r = some (va_rf x) ∧ m = m1
def gI (m : Mem) (a ci k : Nat) : Option Int32 := match m a with
  | some (.inr (c, fs)) => if c = ci then (match fs[k]? with | some (.int v) => some v | _ => none) else none
  | _ => none
def gR (m : Mem) (a ci k : Nat) : Option Nat := match m a with
  | some (.inr (c, fs)) => if c = ci then (match fs[k]? with | some (.ref v) => some v | _ => none) else none
  | _ => none
def pI (m : Mem) (a ci k : Nat) (v : Int32) : Option Mem := match m a with
  | some (.inr (c, fs)) => if c = ci ∧ k < fs.length then some (mup m a (.inr (ci, fs.set k (.int v)))) else none
  | _ => none
def ldI (m : Mem) (a : Nat) (i : Int32) : Option Int32 := match m a with
  | some (.inl (t, n, .inl f)) => if t = 0 ∧ ¬ i < 0 ∧ i.toNatClampNeg < n then some (f i.toNatClampNeg) else none
  | _ => none
def stI (m : Mem) (a : Nat) (i v : Int32) : Option Mem := match m a with
  | some (.inl (t, n, .inl f)) => if t = 0 ∧ ¬ i < 0 ∧ i.toNatClampNeg < n then some (mup m a (.inl (0, n, .inl (upd f i.toNatClampNeg v)))) else none
  | _ => none
def ldR (m : Mem) (a t : Nat) (i : Int32) : Option Nat := match m a with
  | some (.inl (t1, n, .inr (.inr (.inr (.inr f))))) => if t1 = t ∧ ¬ i < 0 ∧ i.toNatClampNeg < n then f i.toNatClampNeg else none
  | _ => none
def alI (m : Mem) (a : Nat) : Option Int32 := match m a with
  | some (.inl (t, n, .inl _)) => if t = 0 then some (Int32.ofNat n) else none
  | _ => none
def ldA (i : Int32) : Option Int32 := if ¬ i < 0 ∧ i.toNatClampNeg < 6 then some (abv i.toNatClampNeg) else none
def cpI (m : Mem) (a : Nat) (sp : Int32) (b : Nat) (dp n : Int32) : Option Mem := match m a, m b with
  | some (.inl (t, n0, .inl f)), some (.inl (t1, n1, .inl g)) => if t = 0 ∧ t1 = 0 ∧ ¬ sp < 0 ∧ ¬ dp < 0 ∧ ¬ n < 0 ∧ sp.toNatClampNeg + n.toNatClampNeg ≤ n0 ∧ dp.toNatClampNeg + n.toNatClampNeg ≤ n1 then some (mup m b (.inl (0, n1, .inl (va_cpy f g sp.toNatClampNeg dp.toNatClampNeg n.toNatClampNeg)))) else none
  | _, _ => none
def dvI (x y : Int32) : Option Int32 := if y = 0 then none else some (x / y)
def rmI (x y : Int32) : Option Int32 := if y = 0 then none else some (x - x / y * y)
/-- a call on an object of that class -/
def cV {α : Type} (m : Mem) (b ci : Nat) (x : Option α) : Option α := match m b with
  | some (.inr (c, _)) => if c = ci then x else none
  | _ => none
def loopF {S R : Type} (b : S → Option (S ⊕ R)) : Nat → S → Option R
  | 0, _ => none
  | n + 1, s => match b s with
    | none => none
    | some (.inl s1) => loopF b n s1
    | some (.inr r) => some r
def bigN : Nat := 5000
theorem loopF_inv {S R : Type} {b : S → Option (S ⊕ R)} {n : Nat} {s : S} {r : R} (h : loopF b (n + 1) s = some r) : ∃ o, b s = some o ∧ ((∃ s1, o = .inl s1 ∧ loopF b n s1 = some r) ∨ o = .inr r) := by
  unfold loopF at h
  split at h
  · cases h
  · next s1 hs => exact ⟨_, hs, Or.inl ⟨s1, rfl, h⟩⟩
  · next r1 hr => cases h; exact ⟨_, hr, Or.inr rfl⟩
theorem loopF_c {S R : Type} {b : S → Option (S ⊕ R)} {n : Nat} {s : S} {r : R} (h : (∃ s1, (.inl s : S ⊕ R) = .inl s1 ∧ loopF b n s1 = some r) ∨ (.inl s : S ⊕ R) = .inr r) : loopF b n s = some r := by
  rcases h with ⟨s1, h1, h2⟩ | h
  · cases h1; exact h2
  · cases h
theorem loopF_e {S R : Type} {b : S → Option (S ⊕ R)} {n : Nat} {r1 r : R} (h : (∃ s1, (.inr r1 : S ⊕ R) = .inl s1 ∧ loopF b n s1 = some r) ∨ (.inr r1 : S ⊕ R) = .inr r) : r1 = r := by
  rcases h with ⟨s1, h1, h2⟩ | h
  · cases h1
  · cases h; rfl
theorem bS {α β : Type} {o : Option α} {f : α → Option β} {r : β} (h : o.bind f = some r) : ∃ a, o = some a ∧ f a = some r := Option.bind_eq_some_iff.mp h
theorem iT {α : Type} {c : Prop} {dc : Decidable c} {a b : Option α} {r : α} (hc : c) (h : (@ite _ c dc a b) = some r) : a = some r := by rw [if_pos hc] at h; exact h
theorem iF {α : Type} {c : Prop} {dc : Decidable c} {a b : Option α} {r : α} (hc : ¬ c) (h : (@ite _ c dc a b) = some r) : b = some r := by rw [if_neg hc] at h; exact h
theorem zb_t : zb true = 1 := rfl
theorem zb_f : zb false = 0 := rfl
theorem zb_ne {b : Bool} : ¬ zb b = 0 ↔ b = true := by cases b <;> decide
theorem zb_nar (b : Bool) : narrow .boolean (.int (zb b)) = .int (zb b) := by cases b <;> decide
/-- a field by its link: owner of the code, index, class number, field number -/
def FLk (own : String) (index ci kf : Nat) : Prop := ∃ C : vw_C, cls[ci]? = some C ∧ kf < C.2.2 ∧ Cond.fieldLink own index (C.2.1 kf).1 (C.2.1 kf).2.1 (C.2.1 kf).2.2.1 ∈ GW
def FPk (own : String) (index ci kf : Nat) : Prop := ∃ C : vw_C, cls[ci]? = some C ∧ kf < C.2.2 ∧ Cond.fieldLink own index (C.2.1 kf).1 (C.2.1 kf).2.1 (C.2.1 kf).2.2.1 ∈ GW ∧ (C.2.1 kf).2.2.2 = false
/-- a method by its link -/
def MLv (own : String) (index ci : Nat) (J : Inf) (n : Nat) : Prop := ∃ C : vw_C, cls[ci]? = some C ∧ Cond.methodLink own index J.1 ∈ GW ∧ Cond.instanceMethod J.1 ∈ GW ∧ Cond.selects C.1 J.1 J.1 ∈ GW ∧ Cond.initialized J.1.cls ∈ GW ∧ wI J ∈ GW ∧ (J.1.cls ≠ "java/lang/invoke/MethodHandle" ∧ J.1.cls ≠ "java/lang/invoke/VarHandle" ∧ (parseMethodDescriptor J.1.desc).map (fun d => d.parameters.length) = some n) ∧ J.2.2.1 ≤ 21
def MLs (own : String) (index : Nat) (J : Inf) (n : Nat) : Prop := Cond.methodLink own index J.1 ∈ GW ∧ Cond.static J.1 ∈ GW ∧ Cond.initialized J.1.cls ∈ GW ∧ wI J ∈ GW ∧ (J.1.cls ≠ "java/lang/invoke/MethodHandle" ∧ J.1.cls ≠ "java/lang/invoke/VarHandle" ∧ (parseMethodDescriptor J.1.desc).map (fun d => d.parameters.length) = some n) ∧ J.2.2.1 ≤ 21
def MLn (own : String) (index : Nat) (J : Inf) (n : Nat) : Prop := Cond.methodLinkNest own index J.1 "ParcelRing" ∈ NestW ∧ Cond.static J.1 ∈ GW ∧ Cond.initialized J.1.cls ∈ GW ∧ wI J ∈ GW ∧ (J.1.cls ≠ "java/lang/invoke/MethodHandle" ∧ J.1.cls ≠ "java/lang/invoke/VarHandle" ∧ (parseMethodDescriptor J.1.desc).map (fun d => d.parameters.length) = some n) ∧ J.2.2.1 ≤ 21
def CLk : Prop := Cond.native arraycopyName ∈ GW ∧ Cond.static arraycopyName ∈ GW ∧ Cond.initialized "java/lang/System" ∈ GW
section VQ
variable {D : Dat} {d : Nat} {I : Inf} {pc pc2 : Nat} {L : List (Nat × Value)} {st st0 : List Value} {m m1 : Mem} {kc ks : Nat} {Q : Option Value → Mem → Prop}
theorem gI_of {a ci k : Nat} {v : Int32} (h : gI m a ci k = some v) : ∃ fs, m a = some (.inr (ci, fs)) ∧ fs[k]? = some (.int v) := by
  unfold gI at h
  split at h
  · next c fs hm =>
    split at h
    · next hc =>
      subst hc
      split at h
      · next v1 hv => cases h; exact ⟨fs, hm, hv⟩
      · cases h
    · cases h
  · cases h
theorem gR_of {a ci k : Nat} {v : Nat} (h : gR m a ci k = some v) : ∃ fs, m a = some (.inr (ci, fs)) ∧ fs[k]? = some (.ref v) := by
  unfold gR at h
  split at h
  · next c fs hm =>
    split at h
    · next hc =>
      subst hc
      split at h
      · next v1 hv => cases h; exact ⟨fs, hm, hv⟩
      · cases h
    · cases h
  · cases h
theorem pI_of {a ci k : Nat} {v : Int32} (h : pI m a ci k v = some m1) : ∃ fs, m a = some (.inr (ci, fs)) ∧ k < fs.length ∧ m1 = mup m a (.inr (ci, fs.set k (.int v))) := by
  unfold pI at h
  split at h
  · next c fs hm =>
    split at h
    · next hc =>
      obtain ⟨hc, hk⟩ := hc
      subst hc
      cases h
      exact ⟨fs, hm, hk, rfl⟩
    · cases h
  · cases h
theorem ldI_of {a : Nat} {i v : Int32} (h : ldI m a i = some v) : ∃ n f, m a = some (.inl (0, n, .inl f)) ∧ vp_in i n ∧ v = f i.toNatClampNeg := by
  unfold ldI at h
  split at h
  · next t n f hm =>
    split at h
    · next hc =>
      obtain ⟨rfl, h1, h2⟩ := hc
      cases h
      exact ⟨n, f, hm, fun z => z.elim h1 (fun z => by omega), rfl⟩
    · cases h
  · cases h
theorem stI_of {a : Nat} {i v : Int32} (h : stI m a i v = some m1) : ∃ n f, m a = some (.inl (0, n, .inl f)) ∧ vp_in i n ∧ m1 = mup m a (.inl (0, n, .inl (upd f i.toNatClampNeg v))) := by
  unfold stI at h
  split at h
  · next t n f hm =>
    split at h
    · next hc =>
      obtain ⟨rfl, h1, h2⟩ := hc
      cases h
      exact ⟨n, f, hm, fun z => z.elim h1 (fun z => by omega), rfl⟩
    · cases h
  · cases h
theorem ldR_of {a t v : Nat} {i : Int32} (h : ldR m a t i = some v) : ∃ n f, m a = some (.inl (t, n, .inr (.inr (.inr (.inr f))))) ∧ vp_in i n ∧ f i.toNatClampNeg = some v := by
  unfold ldR at h
  split at h
  · next t1 n f hm =>
    split at h
    · next hc =>
      obtain ⟨rfl, h1, h2⟩ := hc
      exact ⟨n, f, hm, fun z => z.elim h1 (fun z => by omega), h⟩
    · cases h
  · cases h
theorem alI_of {a : Nat} {v : Int32} (h : alI m a = some v) : ∃ x : vp_A, m a = some (.inl (0, x)) ∧ Int32.ofNat x.1 = v := by
  unfold alI at h
  split at h
  · next t n f hm =>
    split at h
    · next hc => subst hc; cases h; exact ⟨_, hm, rfl⟩
    · cases h
  · cases h
theorem ldA_of {i v : Int32} (h : ldA i = some v) : vp_in i 6 ∧ v = abv i.toNatClampNeg := by
  unfold ldA at h
  split at h
  · next hc =>
    obtain ⟨h1, h2⟩ := hc
    cases h
    exact ⟨fun z => z.elim h1 (fun z => by omega), rfl⟩
  · cases h
theorem cV_of {α : Type} {b ci : Nat} {x : Option α} {r : α} (h : cV m b ci x = some r) : (∃ fs, m b = some (.inr (ci, fs))) ∧ x = some r := by
  unfold cV at h
  split at h
  · next c fs hm =>
    split at h
    · next hc => subst hc; exact ⟨⟨fs, hm⟩, h⟩
    · cases h
  · cases h
theorem dvI_of {x y v : Int32} (h : dvI x y = some v) : ¬ y = 0 ∧ v = x / y := by
  unfold dvI at h
  split at h
  · cases h
  · next hc => cases h; exact ⟨hc, rfl⟩
theorem rmI_of {x y v : Int32} (h : rmI x y = some v) : ¬ y = 0 ∧ v = x - x / y * y := by
  unfold rmI at h
  split at h
  · cases h
  · next hc => cases h; exact ⟨hc, rfl⟩
theorem cpI_of {a b : Nat} {sp dp n : Int32} (h : cpI m a sp b dp n = some m1) : ∃ n0 f n1 g, m a = some (.inl (0, n0, .inl f)) ∧ m b = some (.inl (0, n1, .inl g)) ∧ ¬ sp < 0 ∧ ¬ dp < 0 ∧ ¬ n < 0 ∧ sp.toNatClampNeg + n.toNatClampNeg ≤ n0 ∧ dp.toNatClampNeg + n.toNatClampNeg ≤ n1 ∧ m1 = mup m b (.inl (0, n1, .inl (va_cpy f g sp.toNatClampNeg dp.toNatClampNeg n.toNatClampNeg))) := by
  unfold cpI at h
  split at h
  · next t n0 f t1 n1 g h1 h2 =>
    split at h
    · next hc =>
      obtain ⟨rfl, rfl, c1, c2, c3, c4, c5⟩ := hc
      cases h
      exact ⟨n0, f, n1, g, h1, h2, c1, c2, c3, c4, c5, rfl⟩
    · cases h
  · cases h
theorem V_nullq (hd : decode I.2.1 pc = .ok (.aconst_null, 1)) (k : V D d I pc2 L (va_rf none :: st) m kc ks Q) (hp : pc2 = pc + 1 := by rfl) : V D d I pc L st m kc ks Q := V_null hd k hp
theorem V_gI {a ci kf index : Nat} {v : Int32} (h : gI m a ci kf = some v) (hd : decode I.2.1 pc = .ok (.getfield index, 3)) (hF : FLk I.1.cls index ci kf) (k : V D d I pc2 L (.int v :: st) m kc ks Q) (hp : pc2 = pc + 3 := by rfl) : V D d I pc L (.ref a :: st) m kc ks Q := by
  obtain ⟨fs, h1, h2⟩ := gI_of h
  obtain ⟨C, c1, c2, c3⟩ := hF
  exact V_get hd h1 c1 c2 c3 h2 k hp
theorem V_gR {a ci kf index v : Nat} (h : gR m a ci kf = some v) (hd : decode I.2.1 pc = .ok (.getfield index, 3)) (hF : FLk I.1.cls index ci kf) (k : V D d I pc2 L (.ref v :: st) m kc ks Q) (hp : pc2 = pc + 3 := by rfl) : V D d I pc L (.ref a :: st) m kc ks Q := by
  obtain ⟨fs, h1, h2⟩ := gR_of h
  obtain ⟨C, c1, c2, c3⟩ := hF
  exact V_get hd h1 c1 c2 c3 h2 k hp
theorem V_pI {a ci kf index : Nat} {v : Int32} (h : pI m a ci kf v = some m1) (hd : decode I.2.1 pc = .ok (.putfield index, 3)) (hF : FPk I.1.cls index ci kf) (ht : narrow (tyF ci kf) (.int v) = .int v) (hf : fits (tyF ci kf) (.int v) = true) (k : V D d I pc2 L st m1 kc ks Q) (hp : pc2 = pc + 3 := by rfl) : V D d I pc L (.int v :: .ref a :: st) m kc ks Q := by
  obtain ⟨fs, h1, h2, rfl⟩ := pI_of h
  obtain ⟨C, c1, c2, c3, c4⟩ := hF
  exact V_put hd h1 c1 c2 c3 c4 ht hf h2 k hp
theorem V_ldI {a : Nat} {i v : Int32} (h : ldI m a i = some v) (hd : decode I.2.1 pc = .ok (.iaload, 1)) (k : V D d I pc2 L (.int v :: st) m kc ks Q) (hp : pc2 = pc + 1 := by rfl) : V D d I pc L (.int i :: .ref a :: st) m kc ks Q := by
  obtain ⟨n, f, h1, h2, rfl⟩ := ldI_of h
  exact V_iald hd h1 h2 k hp
theorem V_stI {a : Nat} {i v : Int32} (h : stI m a i v = some m1) (hd : decode I.2.1 pc = .ok (.iastore, 1)) (k : V D d I pc2 L st m1 kc ks Q) (hp : pc2 = pc + 1 := by rfl) : V D d I pc L (.int v :: .int i :: .ref a :: st) m kc ks Q := by
  obtain ⟨n, f, h1, h2, rfl⟩ := stI_of h
  exact V_iast hd h1 h2 k hp
theorem V_ldR {a t v : Nat} {i : Int32} {C : String} (h : ldR m a t i = some v) (hd : decode I.2.1 pc = .ok (.aaload, 1)) (ht : tyL[t]? = some (.object C)) (k : V D d I pc2 L (.ref v :: st) m kc ks Q) (hp : pc2 = pc + 1 := by rfl) : V D d I pc L (.int i :: .ref a :: st) m kc ks Q := by
  obtain ⟨n, f, h1, h2, h3⟩ := ldR_of h
  exact V_aald hd h1 ht h2 (by rw [h3]; exact k) hp
theorem V_alI {a : Nat} {v : Int32} (h : alI m a = some v) (hd : decode I.2.1 pc = .ok (.arraylength, 1)) (k : V D d I pc2 L (.int v :: st) m kc ks Q) (hp : pc2 = pc + 1 := by rfl) : V D d I pc L (.ref a :: st) m kc ks Q := by
  obtain ⟨x, h1, h2⟩ := alI_of h
  exact V_alen hd h1 rfl h2 k hp
theorem V_ldA {i v : Int32} (h : ldA i = some v) (hd : decode I.2.1 pc = .ok (.iaload, 1)) (k : V D d I pc2 L (.int v :: st) m kc ks Q) (hp : pc2 = pc + 1 := by rfl) : V D d I pc L (.int i :: .ref D.2.2.1 :: st) m kc ks Q := by
  obtain ⟨h1, rfl⟩ := ldA_of h
  exact V_abld hd h1 k hp
theorem V_dvI {x y v : Int32} (h : dvI x y = some v) (hd : decode I.2.1 pc = .ok (.idiv, 1)) (k : V D d I pc2 L (.int v :: st) m kc ks Q) (hp : pc2 = pc + 1 := by rfl) : V D d I pc L (.int y :: .int x :: st) m kc ks Q := by
  obtain ⟨h1, rfl⟩ := dvI_of h
  exact V_idiv hd h1 k hp
theorem V_rmI {x y v : Int32} (h : rmI x y = some v) (hd : decode I.2.1 pc = .ok (.irem, 1)) (k : V D d I pc2 L (.int v :: st) m kc ks Q) (hp : pc2 = pc + 1 := by rfl) : V D d I pc L (.int y :: .int x :: st) m kc ks Q := by
  obtain ⟨h1, rfl⟩ := rmI_of h
  exact V_irem hd h1 k hp
theorem V_cpI {a b index : Nat} {sp dp n : Int32} (h : cpI m a sp b dp n = some m1) (hd : decode I.2.1 pc = .ok (.invokestatic index, 3)) (h1 : decide (2 ≤ d) = true) (hs : ((st.map fun v => v.category).sum) ≤ 8) (hw : Cond.methodLink I.1.cls index arraycopyName ∈ GW) (hw2 : CLk) (k : V D d I pc2 L st m1 kc ks Q) (hp : pc2 = pc + 3 := by rfl) : V D d I pc L (.int n :: .int dp :: .ref b :: .int sp :: .ref a :: st) m kc ks Q := by
  obtain ⟨n0, f, n1, g, c1, c2, c3, c4, c5, c6, c7, rfl⟩ := cpI_of h
  exact V_copy hd h1 hs hw hw2.1 hw2.2.1 hw2.2.2 c1 c2 c3 c4 c5 c6 c7 k hp
theorem V_ifb_ne {b : Bool} {off : Int} {tgt : Nat} (hd : decode I.2.1 pc = .ok (.ifCond .ne off, 3)) (kt : b = true → V D d I tgt L st m kc ks Q) (kf : ¬ b = true → V D d I pc2 L st m kc ks Q) (ht : (pc : Int) + off = (tgt : Int) := by rfl) (hp : pc2 = pc + 3 := by rfl) : V D d I pc L (.int (zb b) :: st) m kc ks Q :=
  V_if_ne hd (fun h => kt (zb_ne.mp h)) (fun h => kf (fun z => (zb_ne.mpr z) h)) ht hp
theorem V_ifb_eq {b : Bool} {off : Int} {tgt : Nat} (hd : decode I.2.1 pc = .ok (.ifCond .eq off, 3)) (kt : ¬ b = true → V D d I tgt L st m kc ks Q) (kf : b = true → V D d I pc2 L st m kc ks Q) (ht : (pc : Int) + off = (tgt : Int) := by rfl) (hp : pc2 = pc + 3 := by rfl) : V D d I pc L (.int (zb b) :: st) m kc ks Q :=
  V_if_eq hd (fun h => kt (fun z => (zb_ne.mpr z) h)) (fun h => kf (zb_ne.mp h)) ht hp
theorem V_bret {b : Bool} (hd : decode I.2.1 pc = .ok (.ireturn, 1)) (hr : I.2.2.2 = some .boolean) (h : Q (some (.int (zb b))) m) : V D d I pc L [.int (zb b)] m kc ks Q := V_zret hd hr (zb_nar b) h

theorem V_cVi {J : Inf} {index d2 n b ci : Nat} {v : Int32} {fs : List Value} (As : List Value) (hb : m b = some (.inr (ci, fs))) (hT : T D d2 J (.ref b :: As) m 0 0 (Qi v m1)) (hd : decode I.2.1 pc = .ok (.invokevirtual index, 3)) (hL : MLv I.1.cls index ci J n) (hdd : d2 < d) (hn : As.length = n) (hs : ((st.map fun v => v.category).sum) ≤ 8) (k : V D d I pc2 L (.int v :: st) m1 kc ks Q) (hst : As.reverse ++ .ref b :: st = st0 := by rfl) (hp : pc2 = pc + 3 := by rfl) : V D d I pc L st0 m kc ks Q := by
  subst hst
  obtain ⟨C, c1, c2, c3, c4, c5, c6, c7, c8⟩ := hL
  exact V_callV (kc := kc) (ks := ks) hT hd hb c1 c2 c3 c4 c5 c6 c7 hn (by simp; omega) hs (fun r m2 hq => by obtain ⟨rfl, rfl⟩ := hq; exact k) hp
theorem V_cSi {J : Inf} {index d2 n : Nat} {v : Int32} (As : List Value) (hT : T D d2 J As m 0 0 (Qi v m1)) (hd : decode I.2.1 pc = .ok (.invokestatic index, 3)) (hL : MLs I.1.cls index J n) (hdd : d2 < d) (hn : As.length = n) (hs : ((st.map fun v => v.category).sum) ≤ 8) (k : V D d I pc2 L (.int v :: st) m1 kc ks Q) (hst : As.reverse ++ st = st0 := by rfl) (hp : pc2 = pc + 3 := by rfl) : V D d I pc L st0 m kc ks Q := by
  subst hst
  obtain ⟨c2, c3, c5, c6, c7, c8⟩ := hL
  exact V_callS (kc := kc) (ks := ks) hT hd c2 c3 c5 c6 c7 hn (by simp; omega) hs (fun r m2 hq => by obtain ⟨rfl, rfl⟩ := hq; exact k) hp
theorem V_cNi {J : Inf} {index d2 n : Nat} {v : Int32} (As : List Value) (hT : T D d2 J As m 0 0 (Qi v m1)) (hd : decode I.2.1 pc = .ok (.invokestatic index, 3)) (hL : MLn I.1.cls index J n) (hdd : d2 < d) (hn : As.length = n) (hs : ((st.map fun v => v.category).sum) ≤ 8) (k : V D d I pc2 L (.int v :: st) m1 kc ks Q) (hst : As.reverse ++ st = st0 := by rfl) (hp : pc2 = pc + 3 := by rfl) : V D d I pc L st0 m kc ks Q := by
  subst hst
  obtain ⟨c2, c3, c5, c6, c7, c8⟩ := hL
  exact V_callSN (kc := kc) (ks := ks) hT hd c2 c3 c5 c6 c7 hn (by simp; omega) hs (fun r m2 hq => by obtain ⟨rfl, rfl⟩ := hq; exact k) hp
theorem V_cVv {J : Inf} {index d2 n b ci : Nat}  {fs : List Value} (As : List Value) (hb : m b = some (.inr (ci, fs))) (hT : T D d2 J (.ref b :: As) m 0 0 (Qv m1)) (hd : decode I.2.1 pc = .ok (.invokevirtual index, 3)) (hL : MLv I.1.cls index ci J n) (hdd : d2 < d) (hn : As.length = n) (hs : ((st.map fun v => v.category).sum) ≤ 8) (k : V D d I pc2 L (st) m1 kc ks Q) (hst : As.reverse ++ .ref b :: st = st0 := by rfl) (hp : pc2 = pc + 3 := by rfl) : V D d I pc L st0 m kc ks Q := by
  subst hst
  obtain ⟨C, c1, c2, c3, c4, c5, c6, c7, c8⟩ := hL
  exact V_callV (kc := kc) (ks := ks) hT hd hb c1 c2 c3 c4 c5 c6 c7 hn (by simp; omega) hs (fun r m2 hq => by obtain ⟨rfl, rfl⟩ := hq; exact k) hp
theorem V_cSv {J : Inf} {index d2 n : Nat}  (As : List Value) (hT : T D d2 J As m 0 0 (Qv m1)) (hd : decode I.2.1 pc = .ok (.invokestatic index, 3)) (hL : MLs I.1.cls index J n) (hdd : d2 < d) (hn : As.length = n) (hs : ((st.map fun v => v.category).sum) ≤ 8) (k : V D d I pc2 L (st) m1 kc ks Q) (hst : As.reverse ++ st = st0 := by rfl) (hp : pc2 = pc + 3 := by rfl) : V D d I pc L st0 m kc ks Q := by
  subst hst
  obtain ⟨c2, c3, c5, c6, c7, c8⟩ := hL
  exact V_callS (kc := kc) (ks := ks) hT hd c2 c3 c5 c6 c7 hn (by simp; omega) hs (fun r m2 hq => by obtain ⟨rfl, rfl⟩ := hq; exact k) hp
theorem V_cNv {J : Inf} {index d2 n : Nat}  (As : List Value) (hT : T D d2 J As m 0 0 (Qv m1)) (hd : decode I.2.1 pc = .ok (.invokestatic index, 3)) (hL : MLn I.1.cls index J n) (hdd : d2 < d) (hn : As.length = n) (hs : ((st.map fun v => v.category).sum) ≤ 8) (k : V D d I pc2 L (st) m1 kc ks Q) (hst : As.reverse ++ st = st0 := by rfl) (hp : pc2 = pc + 3 := by rfl) : V D d I pc L st0 m kc ks Q := by
  subst hst
  obtain ⟨c2, c3, c5, c6, c7, c8⟩ := hL
  exact V_callSN (kc := kc) (ks := ks) hT hd c2 c3 c5 c6 c7 hn (by simp; omega) hs (fun r m2 hq => by obtain ⟨rfl, rfl⟩ := hq; exact k) hp
theorem V_cVq {J : Inf} {index d2 n b ci : Nat} {x : Option Nat} {fs : List Value} (As : List Value) (hb : m b = some (.inr (ci, fs))) (hT : T D d2 J (.ref b :: As) m 0 0 (Qq x m1)) (hd : decode I.2.1 pc = .ok (.invokevirtual index, 3)) (hL : MLv I.1.cls index ci J n) (hdd : d2 < d) (hn : As.length = n) (hs : ((st.map fun v => v.category).sum) ≤ 8) (k : V D d I pc2 L (va_rf x :: st) m1 kc ks Q) (hst : As.reverse ++ .ref b :: st = st0 := by rfl) (hp : pc2 = pc + 3 := by rfl) : V D d I pc L st0 m kc ks Q := by
  subst hst
  obtain ⟨C, c1, c2, c3, c4, c5, c6, c7, c8⟩ := hL
  exact V_callV (kc := kc) (ks := ks) hT hd hb c1 c2 c3 c4 c5 c6 c7 hn (by simp; omega) hs (fun r m2 hq => by obtain ⟨rfl, rfl⟩ := hq; exact k) hp
theorem V_cSq {J : Inf} {index d2 n : Nat} {x : Option Nat} (As : List Value) (hT : T D d2 J As m 0 0 (Qq x m1)) (hd : decode I.2.1 pc = .ok (.invokestatic index, 3)) (hL : MLs I.1.cls index J n) (hdd : d2 < d) (hn : As.length = n) (hs : ((st.map fun v => v.category).sum) ≤ 8) (k : V D d I pc2 L (va_rf x :: st) m1 kc ks Q) (hst : As.reverse ++ st = st0 := by rfl) (hp : pc2 = pc + 3 := by rfl) : V D d I pc L st0 m kc ks Q := by
  subst hst
  obtain ⟨c2, c3, c5, c6, c7, c8⟩ := hL
  exact V_callS (kc := kc) (ks := ks) hT hd c2 c3 c5 c6 c7 hn (by simp; omega) hs (fun r m2 hq => by obtain ⟨rfl, rfl⟩ := hq; exact k) hp
theorem V_cNq {J : Inf} {index d2 n : Nat} {x : Option Nat} (As : List Value) (hT : T D d2 J As m 0 0 (Qq x m1)) (hd : decode I.2.1 pc = .ok (.invokestatic index, 3)) (hL : MLn I.1.cls index J n) (hdd : d2 < d) (hn : As.length = n) (hs : ((st.map fun v => v.category).sum) ≤ 8) (k : V D d I pc2 L (va_rf x :: st) m1 kc ks Q) (hst : As.reverse ++ st = st0 := by rfl) (hp : pc2 = pc + 3 := by rfl) : V D d I pc L st0 m kc ks Q := by
  subst hst
  obtain ⟨c2, c3, c5, c6, c7, c8⟩ := hL
  exact V_callSN (kc := kc) (ks := ks) hT hd c2 c3 c5 c6 c7 hn (by simp; omega) hs (fun r m2 hq => by obtain ⟨rfl, rfl⟩ := hq; exact k) hp
end VQ
