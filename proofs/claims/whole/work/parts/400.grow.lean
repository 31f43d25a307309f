/-! MAKING: a memory that grows -/
def ins (K : Nat → Prop) (x : Nat) : Nat → Prop := fun k => K k ∨ k = x
theorem nins {K : Nat → Prop} {x y : Nat} (h : ¬ K y) (hn : y ≠ x) : ¬ ins K x y := fun z => z.elim h hn
theorem nb {B a b : Nat} (h : a ≠ b) : B + a ≠ B + b := by omega
theorem nb0 {B a : Nat} (h : a ≠ 0) : B + a ≠ B := by omega
theorem nb1 {B a : Nat} (h : a ≠ 0) : B ≠ B + a := by omega
theorem Lay.iff {nd : Nat → Option Nat} {ad : Nat → Nat} {K K2 : Nat → Prop} (h : Lay nd ad K) (hk : ∀ k, K k ↔ K2 k) : Lay nd ad K2 := ⟨fun k h2 => h.1 k ((hk k).mpr h2), fun q k h2 => ⟨(hk k).mp (h.2 q k h2).1, (h.2 q k h2).2⟩⟩
theorem MM_cg {nd : Nat → Option Nat} {ad : Nat → Nat} {K : Nat → Prop} {c e : Nat → pE} (h : Lay nd ad K) (hc : ∀ k, K k → c k = e k) : MM nd c = MM nd e := by
  funext q
  unfold MM
  cases hq : nd q with
  | none => rfl
  | some k => simp [hc k (h.2 q k hq).1]
section GR
variable {nd : Nat → Option Nat} {ad : Nat → Nat} {K : Nat → Prop} {c : Nat → pE} {x a : Nat} {e : pE}
theorem MM_a (hL : Lay nd ad K) (hx : K x) (ha : ad x = a) (hc : c x = e) : MM nd c a = some e := by rw [← ha, MM_at hL hx, hc]
theorem MM_put (hL : Lay nd ad K) (hx : K x) (ha : ad x = a) (e : pE) : ∃ c2, mup (MM nd c) a e = MM nd c2 ∧ c2 x = e ∧ ∀ k, k ≠ x → c2 k = c k := ⟨upC c x e, by rw [← ha]; exact MM_up hL hx e, upC_s, fun k hk => upC_n hk⟩
theorem MM_new (hL : Lay nd ad K) (hx : ¬ K x) {q : Nat} (hq : MM nd c q = none) (e : pE) : ∃ nd2 ad2 c2, mup (MM nd c) q e = MM nd2 c2 ∧ Lay nd2 ad2 (ins K x) ∧ ad2 x = q ∧ (∀ k, k ≠ x → ad2 k = ad k) ∧ c2 x = e ∧ (∀ k, k ≠ x → c2 k = c k) := by
  have hq0 : nd q = none := by
    unfold MM at hq
    cases h : nd q with
    | none => rfl
    | some k => rw [h] at hq; cases hq
  refine ⟨fun p => if p = q then some x else nd p, fun k => if k = x then q else ad k, upC c x e, ?_, ⟨?_, ?_⟩, by simp, fun k hk => by simp [hk], upC_s, fun k hk => upC_n hk⟩
  · funext p
    by_cases hp : p = q
    · subst hp; rw [mup_s]; unfold MM; simp [upC_s]
    · rw [mup_n hp]
      unfold MM
      simp only [if_neg hp]
      cases h : nd p with
      | none => rfl
      | some j =>
        have hj : ¬ j = x := fun z => hx (by rw [← z]; exact (hL.2 p j h).1)
        simp [upC_n hj]
  · rintro k (hk | rfl)
    · have hkx : ¬ k = x := fun z => hx (z ▸ hk)
      have : ¬ ad k = q := fun z => by have := hL.1 k hk; rw [z, hq0] at this; cases this
      simp [hkx, this, hL.1 k hk]
    · simp
  · intro p k h
    by_cases hp : p = q
    · subst hp
      simp at h
      subst h
      exact ⟨Or.inr rfl, by simp⟩
    · simp only [if_neg hp] at h
      obtain ⟨h1, h2⟩ := hL.2 p k h
      have hkx : ¬ k = x := fun z => hx (z ▸ h1)
      exact ⟨Or.inl h1, by simp [hkx, h2]⟩
end GR
def Qn (P : Mem → Prop) : Option Value → Mem → Prop := fun r m => r = none ∧ P m
/-- behind a constructor: new cells at the nodes N, the object's own cell at x is changed, all else stands -/
def Grw (ad : Nat → Nat) (c : Nat → pE) (K : Nat → Prop) (x : Nat) (N : Nat → Prop) (F : (Nat → Nat) → (Nat → pE) → Prop) (m1 : Mem) : Prop := ∃ nd' ad' c', m1 = MM nd' c' ∧ Lay nd' ad' (fun k => K k ∨ N k) ∧ (∀ k, K k → ad' k = ad k) ∧ (∀ k, K k → k ≠ x → c' k = c k) ∧ F ad' c'
def FQk (own : String) (index ci kf : Nat) : Prop := ∃ C : vw_C, cls[ci]? = some C ∧ kf < C.2.2 ∧ Cond.fieldLink own index (C.2.1 kf).1 (C.2.1 kf).2.1 (C.2.1 kf).2.2.1 ∈ GW ∧ (C.2.1 kf).2.2.2 = true ∧ (C.2.1 kf).1 = own
def CNk (own : String) (index ci N : Nat) : Prop := ∃ C : vw_C, cls[ci]? = some C ∧ C.2.2 = N ∧ Cond.classLink own index C.1 ∈ GW ∧ Cond.instantiable C.1 C.2.2 ∈ GW ∧ Cond.initialized C.1 ∈ GW
def AQk (own : String) (index t : Nat) : Prop := ∃ C : String, tyL[t]? = some (.object C) ∧ Cond.classLink own index C ∈ GW ∧ Cond.arrayOver (.object C) ∈ NestW
def MLi (own : String) (index : Nat) (J : Inf) (n : Nat) : Prop := J.2.2.2 = none ∧ J.1.name = "<init>" ∧ Cond.methodLink own index J.1 ∈ GW ∧ Cond.instanceMethod J.1 ∈ GW ∧ Cond.initialized J.1.cls ∈ GW ∧ wI J ∈ GW ∧ (J.1.cls ≠ "java/lang/invoke/MethodHandle" ∧ J.1.cls ≠ "java/lang/invoke/VarHandle" ∧ (parseMethodDescriptor J.1.desc).map (fun d => d.parameters.length) = some n) ∧ J.2.2.1 ≤ 21
def MLj (own : String) (index : Nat) (J : Inf) (n : Nat) : Prop := J.2.2.2 = none ∧ J.1.name = "<init>" ∧ Cond.methodLinkNest own index J.1 "ParcelRing" ∈ NestW ∧ Cond.instanceMethod J.1 ∈ GW ∧ Cond.initialized J.1.cls ∈ GW ∧ wI J ∈ GW ∧ (J.1.cls ≠ "java/lang/invoke/MethodHandle" ∧ J.1.cls ≠ "java/lang/invoke/VarHandle" ∧ (parseMethodDescriptor J.1.desc).map (fun d => d.parameters.length) = some n) ∧ J.2.2.1 ≤ 21
def OBk (own : String) (index : Nat) : Prop := Cond.methodLink own index Lib.objectInit ∈ GW ∧ Cond.instanceMethod Lib.objectInit ∈ GW ∧ Cond.code Lib.objectInit ⟨#[0xb1]⟩ 1 none ∈ GW
section VN
variable {D : Dat} {d : Nat} {I : Inf} {pc pc2 : Nat} {L : List (Nat × Value)} {st st0 : List Value} {m m1 : Mem} {kc ks kc0 ks0 : Nat} {Q : Option Value → Mem → Prop}
theorem V_m (h : m = m1) (k : V D d I pc L st m1 kc ks Q) : V D d I pc L st m kc ks Q := h ▸ k
theorem N_obj {a index : Nat} (hd : decode I.2.1 pc = .ok (.invokespecial index, 3)) (h1 : decide (1 ≤ d) = true) (hs : ((st.map fun v => v.category).sum) ≤ 8) (hO : OBk I.1.cls index) (k : V D d I pc2 L st m kc ks Q) (hp : pc2 = pc + 3 := by rfl) : V D d I pc L (.ref a :: st) m kc ks Q := V_obj hd h1 hs hO.1 hO.2.1 hO.2.2 k hp
theorem N_putF {a ci kf index : Nat} {fs : List Value} {v : Value} (hm : m a = some (.inr (ci, fs))) (hd : decode I.2.1 pc = .ok (.putfield index, 3)) (hF : FQk I.1.cls index ci kf) (hini : I.1.name = "<init>") (hn : narrow (tyF ci kf) v = v) (hfit : fits (tyF ci kf) v = true) (hlen : kf < fs.length) (k : V D d I pc2 L st (mup m a (.inr (ci, fs.set kf v))) kc ks Q) (hp : pc2 = pc + 3 := by rfl) : V D d I pc L (v :: .ref a :: st) m kc ks Q := by
  obtain ⟨C, c1, c2, c3, c4, c5⟩ := hF
  exact V_putF hd hm c1 c2 c3 c4 hini c5 hn hfit hlen k hp
theorem N_put {a ci kf index : Nat} {fs : List Value} {v : Value} (hm : m a = some (.inr (ci, fs))) (hd : decode I.2.1 pc = .ok (.putfield index, 3)) (hF : FPk I.1.cls index ci kf) (hn : narrow (tyF ci kf) v = v) (hfit : fits (tyF ci kf) v = true) (hlen : kf < fs.length) (k : V D d I pc2 L st (mup m a (.inr (ci, fs.set kf v))) kc ks Q) (hp : pc2 = pc + 3 := by rfl) : V D d I pc L (v :: .ref a :: st) m kc ks Q := by
  obtain ⟨C, c1, c2, c3, c4⟩ := hF
  exact V_put hd hm c1 c2 c3 c4 hn hfit hlen k hp
theorem N_get {a ci kf index : Nat} {fs : List Value} {v : Value} (hm : m a = some (.inr (ci, fs))) (hv : fs[kf]? = some v) (hd : decode I.2.1 pc = .ok (.getfield index, 3)) (hF : FLk I.1.cls index ci kf) (k : V D d I pc2 L (v :: st) m kc ks Q) (hp : pc2 = pc + 3 := by rfl) : V D d I pc L (.ref a :: st) m kc ks Q := by
  obtain ⟨C, c1, c2, c3⟩ := hF
  exact V_get hd hm c1 c2 c3 hv k hp
theorem N_new {ci index N : Nat} {fs : List Value} (hd : decode I.2.1 pc = .ok (.new index, 3)) (hC : CNk I.1.cls index ci N) (hfs : ∀ j, j < N → defaultValue (tyF ci j) = vp_V fs j) (k : ∀ q : Nat, m q = none → V D d I pc2 L (.ref q :: st) (mup m q (.inr (ci, fs))) kc ks Q) (h1 : kc0 = kc + 1) (h2 : ks0 = ks + N) (hp : pc2 = pc + 3 := by rfl) : V D d I pc L st m kc0 ks0 Q := by
  subst h1 h2
  obtain ⟨C, c1, c2, c3, c4, c5⟩ := hC
  subst c2
  exact V_new hd c1 c3 c4 c5 hfs k hp
theorem N_newa {n : Int32} {N : Nat} (hd : decode I.2.1 pc = .ok (.newarray .int, 2)) (hw : Cond.arrayClass .int ∈ GW) (hN : ¬ n < 0 ∧ n.toNatClampNeg = N ∧ N ≤ 100000) (k : ∀ q : Nat, m q = none → V D d I pc2 L (.ref q :: st) (mup m q (.inl (0, N, .inl (fun _ => 0)))) kc ks Q) (h1 : kc0 = kc + 1) (h2 : ks0 = ks + N) (hp : pc2 = pc + 2 := by rfl) : V D d I pc L (.int n :: st) m kc0 ks0 Q := by
  subst h1 h2
  exact V_newa hd hw hN.1 hN.2.1 (decide_eq_true hN.2.2) k hp
theorem N_newq {n : Int32} {N index t : Nat} (hd : decode I.2.1 pc = .ok (.anewarray index, 3)) (hA : AQk I.1.cls index t) (hN : ¬ n < 0 ∧ n.toNatClampNeg = N ∧ N ≤ 100000) (k : ∀ q : Nat, m q = none → V D d I pc2 L (.ref q :: st) (mup m q (.inl (t, N, .inr (.inr (.inr (.inr (fun _ => none))))))) kc ks Q) (h1 : kc0 = kc + 1) (h2 : ks0 = ks + N) (hp : pc2 = pc + 3 := by rfl) : V D d I pc L (.int n :: st) m kc0 ks0 Q := by
  subst h1 h2
  obtain ⟨C, c1, c2, c3⟩ := hA
  exact V_newq hd c2 c3 c1 hN.1 hN.2.1 (decide_eq_true hN.2.2) k hp
theorem N_cI {J : Inf} {index d2 n b mc2 ms2 : Nat} {P : Mem → Prop} (As : List Value) (hT : T D d2 J (.ref b :: As) m mc2 ms2 (Qn P)) (hd : decode I.2.1 pc = .ok (.invokespecial index, 3)) (hL : MLi I.1.cls index J n) (hdd : d2 < d) (hn : As.length = n) (hs : ((st.map fun v => v.category).sum) ≤ 8) (k : ∀ m1, P m1 → V D d I pc2 L st m1 kc ks Q) (h1 : kc0 = kc + mc2) (h2 : ks0 = ks + ms2) (hst : As.reverse ++ .ref b :: st = st0 := by rfl) (hp : pc2 = pc + 3 := by rfl) : V D d I pc L st0 m kc0 ks0 Q := by
  subst hst h1 h2
  obtain ⟨c1, c2, c3, c4, c5, c6, c7, c8⟩ := hL
  exact V_callI (kc := kc) (ks := ks) hT hd c1 c2 c3 c4 c5 c6 c7 hn (by simp; omega) hs (fun r m2 hq => by obtain ⟨rfl, h⟩ := hq; exact k m2 h) hp
theorem N_cJ {J : Inf} {index d2 n b mc2 ms2 : Nat} {P : Mem → Prop} (As : List Value) (hT : T D d2 J (.ref b :: As) m mc2 ms2 (Qn P)) (hd : decode I.2.1 pc = .ok (.invokespecial index, 3)) (hL : MLj I.1.cls index J n) (hdd : d2 < d) (hn : As.length = n) (hs : ((st.map fun v => v.category).sum) ≤ 8) (k : ∀ m1, P m1 → V D d I pc2 L st m1 kc ks Q) (h1 : kc0 = kc + mc2) (h2 : ks0 = ks + ms2) (hst : As.reverse ++ .ref b :: st = st0 := by rfl) (hp : pc2 = pc + 3 := by rfl) : V D d I pc L st0 m kc0 ks0 Q := by
  subst hst h1 h2
  obtain ⟨c1, c2, c3, c4, c5, c6, c7, c8⟩ := hL
  exact V_callIN (kc := kc) (ks := ks) hT hd c1 c2 c3 c4 c5 c6 c7 hn (by simp; omega) hs (fun r m2 hq => by obtain ⟨rfl, h⟩ := hq; exact k m2 h) hp
end VN
