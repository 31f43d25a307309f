theorem wV_7_237 : MLv "ParcelRing" 237 1 IX1_parse 0 := ⟨_, rfl, gw_of 576 (by decide +kernel) (by decide +kernel), gw_of 577 (by decide +kernel) (by decide +kernel), gw_of 578 (by decide +kernel) (by decide +kernel), gw_of 5 (by decide +kernel) (by decide +kernel), gw_of 579 (by decide +kernel) (by decide +kernel), ⟨by decide, by decide, by decide +kernel⟩, by decide⟩
theorem wV_7_243 : MLv "ParcelRing" 243 1 IX1_parsed 0 := ⟨_, rfl, gw_of 744 (by decide +kernel) (by decide +kernel), gw_of 745 (by decide +kernel) (by decide +kernel), gw_of 746 (by decide +kernel) (by decide +kernel), gw_of 5 (by decide +kernel) (by decide +kernel), gw_of 747 (by decide +kernel) (by decide +kernel), ⟨by decide, by decide, by decide +kernel⟩, by decide⟩
theorem wV_7_247 : MLv "ParcelRing" 247 2 IX2_addText 1 := ⟨_, rfl, gw_of 783 (by decide +kernel) (by decide +kernel), gw_of 784 (by decide +kernel) (by decide +kernel), gw_of 785 (by decide +kernel) (by decide +kernel), gw_of 2 (by decide +kernel) (by decide +kernel), gw_of 786 (by decide +kernel) (by decide +kernel), ⟨by decide, by decide, by decide +kernel⟩, by decide⟩
theorem wS_java_util_Arrays_304 : MLs "java/util/Arrays" 304 IJ9_min_7cf53 2 := ⟨gw_of 760 (by decide +kernel) (by decide +kernel), gw_of 307 (by decide +kernel) (by decide +kernel), gw_of 10 (by decide +kernel) (by decide +kernel), gw_of 308 (by decide +kernel) (by decide +kernel), ⟨by decide, by decide, by decide +kernel⟩, by decide⟩
theorem wS_1_55 : MLs "ParcelRing$Reader" 55 IJ7_copyOf_59c91 2 := ⟨gw_of 750 (by decide +kernel) (by decide +kernel), gw_of 751 (by decide +kernel) (by decide +kernel), gw_of 17 (by decide +kernel) (by decide +kernel), gw_of 752 (by decide +kernel) (by decide +kernel), ⟨by decide, by decide, by decide +kernel⟩, by decide⟩
theorem wM_CN_1_50 : CNk "ParcelRing$Reader" 50 6 4 := ⟨_, rfl, rfl, gw_of 748 (by decide +kernel) (by decide +kernel), gw_of 749 (by decide +kernel) (by decide +kernel), gw_of 9 (by decide +kernel) (by decide +kernel)⟩
theorem wM_MI_1_61 : MLi "ParcelRing$Reader" 61 IX6_init 3 := ⟨rfl, rfl, gw_of 762 (by decide +kernel) (by decide +kernel), gw_of 763 (by decide +kernel) (by decide +kernel), gw_of 9 (by decide +kernel) (by decide +kernel), gw_of 764 (by decide +kernel) (by decide +kernel), ⟨by decide, by decide, by decide +kernel⟩, by decide⟩
theorem wM_FL_1_52 : FLk "ParcelRing$Reader" 52 1 6 := ⟨_, rfl, by decide, gw_of 166 (by decide +kernel) (by decide +kernel)⟩
theorem wM_FL_1_25 : FLk "ParcelRing$Reader" 25 1 7 := ⟨_, rfl, by decide, gw_of 167 (by decide +kernel) (by decide +kernel)⟩
theorem wM_FL_1_15 : FLk "ParcelRing$Reader" 15 1 8 := ⟨_, rfl, by decide, gw_of 168 (by decide +kernel) (by decide +kernel)⟩
theorem wM_FL_1_28 : FLk "ParcelRing$Reader" 28 1 9 := ⟨_, rfl, by decide, gw_of 169 (by decide +kernel) (by decide +kernel)⟩
theorem wM_FL_7_25 : FLk "ParcelRing" 25 7 4 := ⟨_, rfl, by decide, gw_of 242 (by decide +kernel) (by decide +kernel)⟩
theorem wM_FL_7_10 : FLk "ParcelRing" 10 7 0 := ⟨_, rfl, by decide, gw_of 238 (by decide +kernel) (by decide +kernel)⟩
theorem wM_FL_7_240 : FLk "ParcelRing" 240 2 7 := ⟨_, rfl, by decide, gw_of 96 (by decide +kernel) (by decide +kernel)⟩
theorem wM_FP_7_233 : FPk "ParcelRing" 233 1 1 := ⟨_, rfl, by decide, gw_of 161 (by decide +kernel) (by decide +kernel), rfl⟩
theorem wM_cp150 : Cond.methodLink "java/util/Arrays" 150 arraycopyName ∈ GW := gw_of 761 (by decide +kernel) (by decide +kernel)
theorem wM_full : Cond.constant "ParcelRing" 56 (-1000000003) ∈ GW := gw_of 274 (by decide +kernel) (by decide +kernel)
/-! THE MAKING OF A TEXT, on the machine -/
theorem mup_2 {m : Mem} {a : Nat} {x y : pE} : mup (mup m a x) a y = mup m a y := by
  funext q
  by_cases h : q = a
  · subst h; rw [mup_s, mup_s]
  · rw [mup_n h, mup_n h, mup_n h]
theorem tJ7_copyOf {D : Dat} {a σ : Nat} {m : Mem} {p : Nat → Int32} (hm : m a = some (.inl (0, 96, .inl p))) (hσ : σ ≤ 92) : T D 2 IJ7_copyOf_59c91 [.ref a, .int (nI σ)] m 1 σ (fun r m1 => ∃ q g, m q = none ∧ r = some (.ref q) ∧ m1 = mup m q (.inl (0, σ, .inl g)) ∧ ∀ k, k < σ → g k = p k) := by
  have hal : alI m a = some (nI 96) := by unfold alI; rw [hm]; rfl
  refine T_of_V (by decide) (Nat.le_of_ble_eq_true rfl) ?_
  show V D 2 IJ7_copyOf_59c91 0 [(0, .ref a), (1, .int (nI σ))] [] m 1 σ _
  refine V_iload_n (pc2 := 1) dJ7_copyOf_59c91_0 1 rfl rfl ?_
  refine V_aload_n (pc2 := 2) dJ7_copyOf_59c91_1 0 rfl rfl ?_
  refine V_alI (pc2 := 3) hal dJ7_copyOf_59c91_2 ?_
  refine V_icmp_ne (pc2 := 6) (tgt := 14) dJ7_copyOf_59c91_3 (fun _ => ?_) (fun z => absurd ((nI_eq (a := σ) (b := 96) (by omega) (by omega)).mp z) (by omega))
  refine V_iload_n (pc2 := 15) dJ7_copyOf_59c91_14 1 rfl rfl ?_
  refine N_newa (N := σ) (kc := 0) (ks := 0) (pc2 := 17) dJ7_copyOf_59c91_15 wM_int ⟨nI_pos (by omega), nI_clamp (by omega), by omega⟩ (fun q hq => ?_) rfl (by omega)
  have hqa : ¬ a = q := fun z => by rw [z, hq] at hm; cases hm
  refine V_astore_n (pc2 := 18) (L2 := [(2, .ref q), (0, .ref a), (1, .int (nI σ))]) dJ7_copyOf_59c91_17 ?_ rfl rfl rfl
  refine V_aload_n (pc2 := 19) dJ7_copyOf_59c91_18 1 rfl rfl ?_
  refine V_iconst (v := 0) (pc2 := 20) dJ7_copyOf_59c91_19 (by decide) ?_
  refine V_aload_n (pc2 := 21) dJ7_copyOf_59c91_20 0 rfl rfl ?_
  refine V_iconst (v := 0) (pc2 := 22) dJ7_copyOf_59c91_21 (by decide) ?_
  refine V_aload_n (pc2 := 23) dJ7_copyOf_59c91_22 1 rfl rfl ?_
  have hal2 : alI (mup m q (.inl (0, σ, .inl (fun _ => 0)))) a = some (nI 96) := by unfold alI; rw [mup_n hqa, hm]; rfl
  refine V_alI (pc2 := 24) hal2 dJ7_copyOf_59c91_23 ?_
  refine V_iload_n (pc2 := 25) dJ7_copyOf_59c91_24 2 rfl rfl ?_
  have hmin : fJ9_min_7cf53 (nI 96) (nI σ) (mup m q (.inl (0, σ, .inl (fun _ => 0)))) = some (nI σ) := by
    unfold fJ9_min_7cf53
    rw [if_pos (nI_lt (by omega) (by omega))]
  refine V_cSi (pc2 := 28) [.int (nI 96), .int (nI σ)] (st := [.int 0, .ref q, .int 0, .ref a]) (tJ9_min_7cf53 hmin) dJ7_copyOf_59c91_25 wS_java_util_Arrays_304 (by decide) rfl (Nat.le_of_ble_eq_true rfl) ?_
  have hcp : cpI (mup m q (.inl (0, σ, .inl (fun _ => 0)))) a 0 q 0 (nI σ) = some (mup m q (.inl (0, σ, .inl (va_cpy p (fun _ => 0) 0 0 σ)))) := by
    unfold cpI
    rw [mup_n hqa, hm, mup_s]
    simp only [nI_clamp (show σ < 2 ^ 31 by omega)]
    rw [if_pos ⟨trivial, trivial, by decide, by decide, nI_pos (by omega), by show 0 + σ ≤ 96; omega, by show 0 + σ ≤ σ; omega⟩, mup_2]
    rfl
  refine V_cpI (pc2 := 31) hcp dJ7_copyOf_59c91_28 (by decide) (Nat.le_of_ble_eq_true rfl) wM_cp150 clk ?_
  refine V_aload_n (pc2 := 32) dJ7_copyOf_59c91_31 0 rfl rfl ?_
  refine V_aret (x := some q) dJ7_copyOf_59c91_32 rfl (Or.inr ⟨_, rfl⟩) ⟨q, _, hq, rfl, rfl, fun k hk => ?_⟩
  unfold va_cpy
  rw [if_pos ⟨Nat.zero_le _, by omega⟩]
  congr 1
  omega
theorem tX6_init {D : Dat} {nd : Nat → Option Nat} {ad : Nat → Nat} {K : Nat → Prop} {c : Nat → pE} {x y z σ : Nat} {g : Nat → Int32} {ky lv : Int32} (hL : Lay nd ad K) (hx : K x) (hy : K y) (hxy : x ≠ y) (hz : ¬ K z) (hc : c x = .inr (6, [.int 0, .int 0, .null, .null])) (hcy : c y = .inl (0, σ, .inl g)) (hσ : σ ≤ 92) : T D 1 IX6_init [.ref (ad x), .int ky, .int lv, .ref (ad y)] (MM nd c) 1 σ (Qn (Grw ad c K x (fun k => k = z) (fun ad' c' => c' x = .inr (6, [.int ky, .int lv, .ref (ad y), .ref (ad' z)]) ∧ c' z = .inl (0, σ, .inl (fun _ => 0))))) := by
  have nxz : x ≠ z := nk hz hx
  have nyz : y ≠ z := nk hz hy
  refine T_of_V (by decide) (Nat.le_of_ble_eq_true rfl) ?_
  show V D 1 IX6_init 0 [(0, .ref (ad x)), (1, .int ky), (2, .int lv), (3, .ref (ad y))] [] (MM nd c) 1 σ _
  refine V_aload_n (pc2 := 1) dX6_init_0 0 rfl rfl ?_
  refine N_obj (pc2 := 4) dX6_init_1 (by decide) (Nat.le_of_ble_eq_true rfl) wM_OB_6_1 ?_
  refine V_aload_n (pc2 := 5) dX6_init_4 0 rfl rfl ?_
  refine V_iload_n (pc2 := 6) dX6_init_5 1 rfl rfl ?_
  refine N_putF (kf := 0) (pc2 := 9) (MM_a hL hx rfl hc) dX6_init_6 wM_FQ_6_7 rfl rfl rfl (Nat.le_of_ble_eq_true rfl) ?_
  obtain ⟨c1, hm1, hc1, ho1⟩ := MM_put (c := c) hL hx rfl (.inr (6, [.int ky, .int 0, .null, .null]))
  refine V_m hm1 ?_
  refine V_aload_n (pc2 := 10) dX6_init_9 0 rfl rfl ?_
  refine V_iload_n (pc2 := 11) dX6_init_10 2 rfl rfl ?_
  refine N_putF (kf := 1) (pc2 := 14) (MM_a hL hx rfl hc1) dX6_init_11 wM_FQ_6_13 rfl rfl rfl (Nat.le_of_ble_eq_true rfl) ?_
  obtain ⟨c2, hm2, hc2, ho2⟩ := MM_put (c := c1) hL hx rfl (.inr (6, [.int ky, .int lv, .null, .null]))
  refine V_m hm2 ?_
  refine V_aload_n (pc2 := 15) dX6_init_14 0 rfl rfl ?_
  refine V_aload_n (pc2 := 16) dX6_init_15 3 rfl rfl ?_
  refine N_putF (kf := 2) (pc2 := 19) (MM_a hL hx rfl hc2) dX6_init_16 wM_FQ_6_16 rfl rfl rfl (Nat.le_of_ble_eq_true rfl) ?_
  obtain ⟨c3, hm3, hc3, ho3⟩ := MM_put (c := c2) hL hx rfl (.inr (6, [.int ky, .int lv, .ref (ad y), .null]))
  refine V_m hm3 ?_
  refine V_aload_n (pc2 := 20) dX6_init_19 0 rfl rfl ?_
  refine V_aload_n (pc2 := 21) dX6_init_20 3 rfl rfl ?_
  have hcy3 : c3 y = .inl (0, σ, .inl g) := (ho3 _ hxy.symm).trans ((ho2 _ hxy.symm).trans ((ho1 _ hxy.symm).trans hcy))
  refine V_alI (pc2 := 22) (alI_MM hL hy hcy3) dX6_init_21 ?_
  refine N_newa (N := σ) (kc := 0) (ks := 0) (pc2 := 24) dX6_init_22 wM_int ⟨nI_pos (by omega), nI_clamp (by omega), by omega⟩ (fun q hq => ?_) rfl (by omega)
  obtain ⟨nd4, ad4, c4, hm4, hL4, ha4, hn4, hc4, ho4⟩ := MM_new (c := c3) hL hz hq (.inl (0, σ, .inl (fun _ => 0)))
  refine V_m hm4 ?_
  refine N_putF (kf := 3) (pc2 := 27) (MM_a hL4 (Or.inl hx) (hn4 _ nxz) ((ho4 _ nxz).trans hc3)) dX6_init_24 wM_FQ_6_20 rfl rfl rfl (Nat.le_of_ble_eq_true rfl) ?_
  obtain ⟨c5, hm5, hc5, ho5⟩ := MM_put (c := c4) hL4 (Or.inl hx) (hn4 _ nxz) (.inr (6, [.int ky, .int lv, .ref (ad y), .ref q]))
  refine V_m hm5 ?_
  refine V_vret dX6_init_27 rfl ⟨rfl, nd4, ad4, c5, rfl, hL4, fun k hk => hn4 k (nk hz hk), fun k hk hx0 => ((ho5 k hx0).trans ((ho4 k (nk hz hk)).trans ((ho3 k hx0).trans ((ho2 k hx0).trans (ho1 k hx0))))), by rw [ha4]; exact hc5, (ho5 _ nxz.symm).trans hc4⟩
/-- behind the making of a text -/
def TxN (nT : Nat) (ad : Nat → Nat) (c : Nat → pE) (ky lv : Int32) (σ : Nat) (p : Nat → Int32) (nd' : Nat → Option Nat) (ad' : Nat → Nat) (c' : Nat → pE) : Prop :=
  Lay nd' ad' (KC (nT + 1)) ∧ (∀ k, KC nT k → ad' k = ad k) ∧ (∀ k, KC nT k → c' k = c k) ∧
  c' (1000 + 3 * nT) = .inr (6, [.int ky, .int lv, .ref (ad' (1000 + 3 * nT + 1)), .ref (ad' (1000 + 3 * nT + 2))]) ∧ (∃ g, c' (1000 + 3 * nT + 1) = .inl (0, σ, .inl g) ∧ ∀ k, k < σ → g k = p k) ∧ c' (1000 + 3 * nT + 2) = .inl (0, σ, .inl (fun _ => 0))
theorem txt_iff {nT : Nat} (k : Nat) : (ins (ins (KC nT) (1000 + 3 * nT)) (1000 + 3 * nT + 1) k ∨ k = 1000 + 3 * nT + 2) ↔ KC (nT + 1) k := by
  unfold ins KC
  omega
theorem tX1_parsed {D : Dat} {nT : Nat} {nd : Nat → Option Nat} {ad : Nat → Nat} {c : Nat → pE} {l t f u ft ky lv : Int32} {σ : Nat} {p : Nat → Int32} (hL : Lay nd ad (KC nT)) (h0 : c 400 = .inr (1, rdF ad l t f u ft ky lv (nI σ))) (h2 : c 402 = .inl (0, 96, .inl p)) (hσ : σ ≤ 92) : T D 3 IX1_parsed [.ref (ad 400)] (MM nd c) 3 188 (fun r m1 => ∃ nd' ad' c', r = some (.ref (ad' (1000 + 3 * nT))) ∧ m1 = MM nd' c' ∧ TxN nT ad c ky lv σ p nd' ad' c') := by
  refine T_of_V (by decide) (Nat.le_of_ble_eq_true rfl) ?_
  show V D 3 IX1_parsed 0 [(0, .ref (ad 400))] [] (MM nd c) 3 188 _
  refine V_kc (kc2 := 3) (ks2 := 4 + σ + σ) (Nat.le_refl _) (by omega) ?_
  have K4 : KC nT 400 := K400
  have K2 : KC nT 402 := K402
  have nX : ¬ KC nT (1000 + 3 * nT) := by unfold KC; omega
  have nX1 : ¬ KC nT (1000 + 3 * nT + 1) := by unfold KC; omega
  have nX2 : ¬ KC nT (1000 + 3 * nT + 2) := by unfold KC; omega
  refine N_new (ci := 6) (N := 4) (fs := [.int 0, .int 0, .null, .null]) (kc := 2) (ks := σ + σ) (pc2 := 3) dX1_parsed_0 wM_CN_1_50 dfl_6 (fun q1 hq1 => ?_) rfl (by omega)
  obtain ⟨nd1, ad1, c1, hm1, hL1, ha1, hn1, hc1, ho1⟩ := MM_new (c := c) hL nX hq1 (.inr (6, [.int 0, .int 0, .null, .null]))
  refine V_m hm1 ?_
  have e400 : ad1 400 = ad 400 := hn1 _ (by omega)
  have e402 : ad1 402 = ad 402 := hn1 _ (by omega)
  have f400 : c1 400 = .inr (1, rdF ad l t f u ft ky lv (nI σ)) := (ho1 _ (by omega)).trans h0
  have f402 : c1 402 = .inl (0, 96, .inl p) := (ho1 _ (by omega)).trans h2
  have m400 : MM nd1 c1 (ad 400) = some (.inr (1, rdF ad l t f u ft ky lv (nI σ))) := MM_a hL1 (Or.inl K4) e400 f400
  have m402 : MM nd1 c1 (ad 402) = some (.inl (0, 96, .inl p)) := MM_a hL1 (Or.inl K2) e402 f402
  refine V_dup (pc2 := 4) dX1_parsed_3 rfl ?_
  refine V_aload_n (pc2 := 5) dX1_parsed_4 0 rfl rfl ?_
  refine N_get (kf := 6) (v := .int ky) (pc2 := 8) m400 rfl dX1_parsed_5 wM_FL_1_52 ?_
  refine V_aload_n (pc2 := 9) dX1_parsed_8 0 rfl rfl ?_
  refine N_get (kf := 7) (v := .int lv) (pc2 := 12) m400 rfl dX1_parsed_9 wM_FL_1_25 ?_
  refine V_aload_n (pc2 := 13) dX1_parsed_12 0 rfl rfl ?_
  refine N_get (kf := 8) (v := .ref (ad 402)) (pc2 := 16) m400 rfl dX1_parsed_13 wM_FL_1_15 ?_
  refine V_aload_n (pc2 := 17) dX1_parsed_16 0 rfl rfl ?_
  refine N_get (kf := 9) (v := .int (nI σ)) (pc2 := 20) m400 rfl dX1_parsed_17 wM_FL_1_28 ?_
  obtain ⟨w1, w2, w3, w4, w5, w6⟩ := wS_1_55
  refine V_callS (As := [.ref (ad 402), .int (nI σ)]) (st := [.int lv, .int ky, .ref q1, .ref q1]) (kc := 1) (ks := σ) (pc2 := 23) (tJ7_copyOf m402 hσ) dX1_parsed_20 w1 w2 w3 w4 w5 rfl (by decide) (Nat.le_of_ble_eq_true rfl) (fun r m2 hr => ?_)
  obtain ⟨q2, g, hq2, rfl, rfl, hg⟩ := hr
  obtain ⟨nd2, ad2, c2, hm2, hL2, ha2, hn2, hc2, ho2⟩ := MM_new (c := c1) hL1 (nins nX1 (by omega)) hq2 (.inl (0, σ, .inl g))
  refine V_m hm2 ?_
  have hT := tX6_init (D := D) (nd := nd2) (ad := ad2) (c := c2) (x := 1000 + 3 * nT) (y := 1000 + 3 * nT + 1) (z := 1000 + 3 * nT + 2) (ky := ky) (lv := lv) hL2 (Or.inl (Or.inr rfl)) (Or.inr rfl) (by omega) (nins (nins nX2 (by omega)) (by omega)) ((ho2 _ (by omega)).trans hc1) hc2 hσ
  rw [hn2 _ (by omega), ha1, ha2] at hT
  refine N_cI (P := _) (kc := 0) (ks := 0) (pc2 := 26) [.int ky, .int lv, .ref q2] (st := [.ref q1]) hT dX1_parsed_23 wM_MI_1_61 (by decide) rfl (Nat.le_of_ble_eq_true rfl) (fun m3 hg3 => ?_) rfl (by omega)
  obtain ⟨nd3, ad3, c3, rfl, hL3, hn3, ho3, f1, f2⟩ := hg3
  have b1 : ad3 (1000 + 3 * nT) = q1 := by rw [hn3 _ (Or.inl (Or.inr rfl)), hn2 _ (by omega), ha1]
  have b2 : ad3 (1000 + 3 * nT + 1) = q2 := by rw [hn3 _ (Or.inr rfl), ha2]
  refine V_aret (x := some q1) dX1_parsed_26 rfl (Or.inl ⟨_, rfl⟩) ⟨nd3, ad3, c3, by rw [b1]; rfl, rfl, hL3.iff (fun k => ?_), fun k hk => ?_, fun k hk => ?_, ?_, ⟨g, ?_, hg⟩, f2⟩
  · exact txt_iff k
  · rw [hn3 k (Or.inl (Or.inl hk)), hn2 k (nk nX1 hk), hn1 k (nk nX hk)]
  · rw [ho3 k (Or.inl (Or.inl hk)) (nk nX hk), ho2 k (nk nX1 hk), ho1 k (nk nX hk)]
  · rw [f1, b2]
  · rw [ho3 _ (Or.inr rfl) (by omega)]
    exact hc2
section TT
variable {D : Dat} {nT : Nat} {nd : Nat → Option Nat} {ad : Nat → Nat} {c e1 : Nat → pE} {fi : Nat → Int32} {fa : Nat → Nat → Int32} {l t f u ft ky lv sc : Int32} {p : Nat → Int32} {F σ : Nat}
/-- what stands in the object when the reader has read -/
theorem rd_obj (hL : Lay nd ad (KC nT)) (h : Rest c ad fi fa) (l t f u ft ky lv sc : Int32) (p : Nat → Int32) : gR (MM nd (rdC ad c l t f u ft ky lv sc p)) (ad 0) 7 4 = some (ad 400) ∧ gR (MM nd (rdC ad c l t f u ft ky lv sc p)) (ad 0) 7 0 = some (ad 100) := by
  have : rdC ad c l t f u ft ky lv sc p 0 = .inr (7, objF ad (fi 3) (fi 29)) := by unfold rdC; rw [upC_n (by omega), upC_n (by omega)]; exact h.1
  exact ⟨gR_MM hL KC_0 this rfl, gR_MM hL KC_0 this rfl⟩
theorem rdp1 (hL : Lay nd ad (KC nT)) {l v : Int32} : pI (MM nd (rdC ad c l t f u ft ky lv sc p)) (ad 400) 1 1 v = some (MM nd (rdC ad c v t f u ft ky lv sc p)) := rdp hL (by decide) rfl
/-- a text that is refused -/
theorem tX7_textA (hL : Lay nd ad (KC nT)) (h : Rest c ad fi fa) (hF : F < 2 ^ 31) (hp : fX1_parse (ad 400) (MM nd c) = some (nI F, MM nd (rdC ad c l t f u (nI F) ky lv sc p))) : T D 132 IX7_text [.ref (ad 0)] (MM nd c) 3 188 (Qi (-100 - nI F) (MM nd (rdC ad c 0 t f u (nI F) ky lv sc p))) := by
  obtain ⟨fs, hfs⟩ : ∃ fs, MM nd c (ad 400) = some (.inr (1, fs)) := by
    obtain ⟨t, f, u, ft, ky, lv, sc, r⟩ := h.2.1.1
    exact ⟨_, MM_a hL K400 rfl r⟩
  obtain ⟨o1, o2⟩ := rd_obj hL h l t f u (nI F) ky lv sc p
  refine T_of_V (by decide) (Nat.le_of_ble_eq_true rfl) ?_
  show V D 132 IX7_text 0 [(0, .ref (ad 0))] [] (MM nd c) 3 188 _
  refine V_aload_n (pc2 := 1) dX7_text_0 0 rfl rfl ?_
  refine V_gR (pc2 := 4) (o_r hL h) dX7_text_1 wM_FL_7_25 ?_
  refine V_cVi (pc2 := 7) [] (st := []) hfs (tX1_parse hp) dX7_text_4 wV_7_237 (by decide) rfl (Nat.le_of_ble_eq_true rfl) ?_
  refine V_istore_n (pc2 := 8) (L2 := [(1, .int (nI F)), (0, .ref (ad 0))]) dX7_text_7 ?_ rfl rfl rfl
  refine V_aload_n (pc2 := 9) dX7_text_8 1 rfl rfl ?_
  refine V_gR (pc2 := 12) o1 dX7_text_9 wM_FL_7_25 ?_
  refine V_iconst (v := 0) (pc2 := 13) dX7_text_12 (by decide) ?_
  refine V_pI (pc2 := 16) (rdp1 hL) dX7_text_13 wM_FP_7_233 rfl rfl ?_
  refine V_iload_n (pc2 := 17) dX7_text_16 0 rfl rfl ?_
  refine V_if_lt (pc2 := 20) (tgt := 25) dX7_text_17 (fun z => absurd z (nI_pos hF)) (fun _ => ?_)
  refine V_bipush (v := -100) (pc2 := 22) dX7_text_20 (by decide) ?_
  refine V_iload_n (pc2 := 23) dX7_text_22 0 rfl rfl ?_
  refine V_isub (pc2 := 24) dX7_text_23 ?_
  exact V_iret dX7_text_24 rfl ⟨rfl, rfl⟩
/-- a text for which there is no room -/
theorem tX7_textB (hL : Lay nd ad (KC nT)) (h : Rest c ad fi fa) {tc : Int32} (htc : 14 ≤ tc) (hg : gI (MM nd (rdC ad c 0 t f u (-1) ky lv sc p)) (ad 100) 2 7 = some tc) (hp : fX1_parse (ad 400) (MM nd c) = some (-1, MM nd (rdC ad c l t f u (-1) ky lv sc p))) : T D 132 IX7_text [.ref (ad 0)] (MM nd c) 3 188 (Qi (-1000000003) (MM nd (rdC ad c 0 t f u (-1) ky lv sc p))) := by
  obtain ⟨fs, hfs⟩ : ∃ fs, MM nd c (ad 400) = some (.inr (1, fs)) := by
    obtain ⟨t, f, u, ft, ky, lv, sc, r⟩ := h.2.1.1
    exact ⟨_, MM_a hL K400 rfl r⟩
  obtain ⟨o1, -⟩ := rd_obj hL h l t f u (-1) ky lv sc p
  obtain ⟨-, o2⟩ := rd_obj hL h 0 t f u (-1) ky lv sc p
  refine T_of_V (by decide) (Nat.le_of_ble_eq_true rfl) ?_
  show V D 132 IX7_text 0 [(0, .ref (ad 0))] [] (MM nd c) 3 188 _
  refine V_aload_n (pc2 := 1) dX7_text_0 0 rfl rfl ?_
  refine V_gR (pc2 := 4) (o_r hL h) dX7_text_1 wM_FL_7_25 ?_
  refine V_cVi (pc2 := 7) [] (st := []) hfs (tX1_parse hp) dX7_text_4 wV_7_237 (by decide) rfl (Nat.le_of_ble_eq_true rfl) ?_
  refine V_istore_n (pc2 := 8) (L2 := [(1, .int (-1)), (0, .ref (ad 0))]) dX7_text_7 ?_ rfl rfl rfl
  refine V_aload_n (pc2 := 9) dX7_text_8 1 rfl rfl ?_
  refine V_gR (pc2 := 12) o1 dX7_text_9 wM_FL_7_25 ?_
  refine V_iconst (v := 0) (pc2 := 13) dX7_text_12 (by decide) ?_
  refine V_pI (pc2 := 16) (rdp1 hL) dX7_text_13 wM_FP_7_233 rfl rfl ?_
  refine V_iload_n (pc2 := 17) dX7_text_16 0 rfl rfl ?_
  refine V_if_lt (pc2 := 20) (tgt := 25) dX7_text_17 (fun _ => ?_) (fun z => absurd (show (-1 : Int32) < 0 by decide) z)
  refine V_aload_n (pc2 := 26) dX7_text_25 1 rfl rfl ?_
  refine V_gR (pc2 := 29) o2 dX7_text_26 wM_FL_7_10 ?_
  refine V_gI (pc2 := 32) hg dX7_text_29 wM_FL_7_240 ?_
  refine V_bipush (v := 14) (pc2 := 34) dX7_text_32 (by decide) ?_
  refine V_icmp_lt (pc2 := 37) (tgt := 40) dX7_text_34 (fun z => absurd htc (Int32.not_le.mpr z)) (fun _ => ?_)
  refine V_ldc (v := -1000000003) (pc2 := 39) dX7_text_37 wM_full ?_
  exact V_iret dX7_text_39 rfl ⟨rfl, rfl⟩
/-- a text that is taken in -/
theorem tX7_textC (hL : Lay nd ad (KC nT)) (h : Rest c ad fi fa) {tc tc2 : Int32} (htc : tc < 14) (hσ : σ ≤ 92) (hg : gI (MM nd (rdC ad c 0 t f u (-1) ky lv (nI σ) p)) (ad 100) 2 7 = some tc) (hp : fX1_parse (ad 400) (MM nd c) = some (-1, MM nd (rdC ad c l t f u (-1) ky lv (nI σ) p)))
    (hr : ∃ fs, rdC ad c 0 t f u (-1) ky lv (nI σ) p 100 = .inr (2, fs)) {P : (Nat → Option Nat) → (Nat → Nat) → (Nat → pE) → Prop}
    (hk : ∀ nd' ad' c', TxN nT ad (rdC ad c 0 t f u (-1) ky lv (nI σ) p) ky lv σ p nd' ad' c' → ∃ e, fX2_addText (ad' 100) (ad' (1000 + 3 * nT)) (MM nd' c') = some (MM nd' e) ∧ gR (MM nd' e) (ad' 0) 7 0 = some (ad' 100) ∧ gI (MM nd' e) (ad' 100) 2 7 = some tc2 ∧ P nd' ad' e) :
    T D 132 IX7_text [.ref (ad 0)] (MM nd c) 3 188 (fun r m1 => r = some (.int (tc2 - 1)) ∧ ∃ nd' ad' e, m1 = MM nd' e ∧ ad' 0 = ad 0 ∧ P nd' ad' e) := by
  obtain ⟨fs, hfs⟩ : ∃ fs, MM nd c (ad 400) = some (.inr (1, fs)) := by
    obtain ⟨t, f, u, ft, ky, lv, sc, r⟩ := h.2.1.1
    exact ⟨_, MM_a hL K400 rfl r⟩
  obtain ⟨o1, -⟩ := rd_obj hL h l t f u (-1) ky lv (nI σ) p
  obtain ⟨o3, o2⟩ := rd_obj hL h 0 t f u (-1) ky lv (nI σ) p
  refine T_of_V (by decide) (Nat.le_of_ble_eq_true rfl) ?_
  show V D 132 IX7_text 0 [(0, .ref (ad 0))] [] (MM nd c) 3 188 _
  refine V_aload_n (pc2 := 1) dX7_text_0 0 rfl rfl ?_
  refine V_gR (pc2 := 4) (o_r hL h) dX7_text_1 wM_FL_7_25 ?_
  refine V_cVi (pc2 := 7) [] (st := []) hfs (tX1_parse hp) dX7_text_4 wV_7_237 (by decide) rfl (Nat.le_of_ble_eq_true rfl) ?_
  refine V_istore_n (pc2 := 8) (L2 := [(1, .int (-1)), (0, .ref (ad 0))]) dX7_text_7 ?_ rfl rfl rfl
  refine V_aload_n (pc2 := 9) dX7_text_8 1 rfl rfl ?_
  refine V_gR (pc2 := 12) o1 dX7_text_9 wM_FL_7_25 ?_
  refine V_iconst (v := 0) (pc2 := 13) dX7_text_12 (by decide) ?_
  refine V_pI (pc2 := 16) (rdp1 hL) dX7_text_13 wM_FP_7_233 rfl rfl ?_
  refine V_iload_n (pc2 := 17) dX7_text_16 0 rfl rfl ?_
  refine V_if_lt (pc2 := 20) (tgt := 25) dX7_text_17 (fun _ => ?_) (fun z => absurd (show (-1 : Int32) < 0 by decide) z)
  refine V_aload_n (pc2 := 26) dX7_text_25 1 rfl rfl ?_
  refine V_gR (pc2 := 29) o2 dX7_text_26 wM_FL_7_10 ?_
  refine V_gI (pc2 := 32) hg dX7_text_29 wM_FL_7_240 ?_
  refine V_bipush (v := 14) (pc2 := 34) dX7_text_32 (by decide) ?_
  refine V_icmp_lt (pc2 := 37) (tgt := 40) dX7_text_34 (fun _ => ?_) (fun z => absurd htc z)
  refine V_aload_n (pc2 := 41) dX7_text_40 1 rfl rfl ?_
  refine V_gR (pc2 := 44) o2 dX7_text_41 wM_FL_7_10 ?_
  refine V_aload_n (pc2 := 45) dX7_text_44 1 rfl rfl ?_
  refine V_gR (pc2 := 48) o3 dX7_text_45 wM_FL_7_25 ?_
  have r400 : rdC ad c 0 t f u (-1) ky lv (nI σ) p 400 = .inr (1, rdF ad 0 t f u (-1) ky lv (nI σ)) := upC_s
  have r402 : rdC ad c 0 t f u (-1) ky lv (nI σ) p 402 = .inl (0, 96, .inl p) := by unfold rdC; rw [upC_n (by omega), upC_s]
  obtain ⟨C, w1, w2, w3, w4, w5, w6, w7, w8⟩ := wV_7_243
  refine V_callV (As := []) (st := [.ref (ad 100)]) (kc := 0) (ks := 0) (pc2 := 51) (tX1_parsed hL r400 r402 hσ) dX7_text_48 (MM_a hL K400 rfl r400) w1 w2 w3 w4 w5 w6 w7 rfl (by decide) (Nat.le_of_ble_eq_true rfl) (fun r m2 hr2 => ?_)
  obtain ⟨nd', ad', c', rfl, rfl, hN⟩ := hr2
  obtain ⟨e, k1, k2, k3, k4⟩ := hk nd' ad' c' hN
  obtain ⟨hL', ha', hc', -⟩ := hN
  obtain ⟨rf, hrf⟩ := hr
  have a0 : ad' 0 = ad 0 := ha' 0 KC_0
  have a100 : ad' 100 = ad 100 := ha' 100 (KC_B0 B1)
  have c100 : c' 100 = .inr (2, rf) := (hc' 100 (KC_B0 B1)).trans hrf
  have m100 : MM nd' c' (ad 100) = some (.inr (2, rf)) := MM_a hL' (KC_B0 B1) a100 c100
  rw [a100] at k1 k2 k3
  rw [a0] at k2
  refine V_cVv (pc2 := 54) [.ref (ad' (1000 + 3 * nT))] (st := []) m100 (tX2_addText k1) dX7_text_51 wV_7_247 (by decide) rfl (Nat.le_of_ble_eq_true rfl) ?_
  refine V_aload_n (pc2 := 55) dX7_text_54 1 rfl rfl ?_
  refine V_gR (pc2 := 58) k2 dX7_text_55 wM_FL_7_10 ?_
  refine V_gI (pc2 := 61) k3 dX7_text_58 wM_FL_7_240 ?_
  refine V_iconst (v := 1) (pc2 := 62) dX7_text_61 (by decide) ?_
  refine V_isub (pc2 := 63) dX7_text_62 ?_
  exact V_iret dX7_text_63 rfl ⟨rfl, nd', ad', e, rfl, a0, k4⟩
end TT
