theorem tX0_init {D : Dat} {a : Nat} {m : Mem} : T D 1 IX0_init [.ref a] m 0 0 (Qn (fun m1 => m1 = m)) := by
  refine T_of_V (by decide) (Nat.le_of_ble_eq_true rfl) ?_
  show V D 1 IX0_init 0 [(0, .ref a)] [] m 0 0 _
  refine V_aload_n (pc2 := 1) dX0_init_0 0 rfl rfl ?_
  refine N_obj (pc2 := 4) dX0_init_1 (by decide) (Nat.le_of_ble_eq_true rfl) wM_OB_0_1 ?_
  exact V_vret dX0_init_4 rfl ⟨rfl, rfl⟩
theorem tX5_init {D : Dat} {a : Nat} {m : Mem} : T D 1 IX5_init [.ref a] m 0 0 (Qn (fun m1 => m1 = m)) := by
  refine T_of_V (by decide) (Nat.le_of_ble_eq_true rfl) ?_
  show V D 1 IX5_init 0 [(0, .ref a)] [] m 0 0 _
  refine V_aload_n (pc2 := 1) dX5_init_0 0 rfl rfl ?_
  refine N_obj (pc2 := 4) dX5_init_1 (by decide) (Nat.le_of_ble_eq_true rfl) wM_OB_5_3 ?_
  exact V_vret dX5_init_4 rfl ⟨rfl, rfl⟩
theorem nk {K : Nat → Prop} {x k : Nat} (h : ¬ K x) (hk : K k) : k ≠ x := fun z => h (z ▸ hk)
theorem tX3_init {D : Dat} {nd : Nat → Option Nat} {ad : Nat → Nat} {K : Nat → Prop} {c : Nat → pE} {x y : Nat} (hL : Lay nd ad K) (hx : K x) (hc : c x = .inr (3, [.int 0, .int 0, .null])) (h_y : ¬ K y) : T D 1 IX3_init [.ref (ad x)] (MM nd c) 1 24 (Qn (Grw ad c K x (fun k => k = y) (fun ad' c' => c' x = .inr (3, [.int (-1), .int 0, .ref (ad' y)]) ∧ c' y = .inl (0, 24, .inl (fun _ => 0))))) := by
  refine T_of_V (by decide) (Nat.le_of_ble_eq_true rfl) ?_
  show V D 1 IX3_init 0 [(0, .ref (ad x))] [] (MM nd c) 1 24 _
  have nx_y : x ≠ y := nk h_y hx
  refine V_aload_n (pc2 := 1) dX3_init_0 0 rfl rfl ?_
  refine N_obj (pc2 := 4) dX3_init_1 (by decide) (Nat.le_of_ble_eq_true rfl) wM_OB_3_3 ?_
  refine V_aload_n (pc2 := 5) dX3_init_4 0 rfl rfl ?_
  refine V_iconst (v := -1) (pc2 := 6) dX3_init_5 (by decide) ?_
  refine N_put (kf := 0) (pc2 := 9) (MM_a hL hx rfl hc) dX3_init_6 wM_FP_3_9 rfl rfl (Nat.le_of_ble_eq_true rfl) ?_
  obtain ⟨c1, hm1, hc1, ho1⟩ := MM_put (c := c) hL hx rfl (.inr (3, [.int (-1), .int 0, .null]))
  refine V_m hm1 ?_
  refine V_aload_n (pc2 := 10) dX3_init_9 0 rfl rfl ?_
  refine V_bipush (v := 24) (pc2 := 12) dX3_init_10 (by decide) ?_
  refine N_newa (N := 24) (kc := 0) (ks := 0) (pc2 := 14) dX3_init_12 wM_int ⟨by decide, by decide, by decide⟩ (fun q2 hq2 => ?_) rfl rfl
  obtain ⟨nd2, ad2, c2, hm2, hL2, ha2, hn2, hc2, ho2⟩ := MM_new (c := c1) hL h_y hq2 (.inl (0, 24, .inl (fun _ => 0)))
  refine V_m hm2 ?_
  refine N_putF (kf := 2) (pc2 := 17) (MM_a hL2 (Or.inl hx) ((hn2 _ nx_y).trans rfl) ((ho2 _ nx_y).trans hc1)) dX3_init_14 wM_FQ_3_15 rfl rfl rfl (Nat.le_of_ble_eq_true rfl) ?_
  obtain ⟨c3, hm3, hc3, ho3⟩ := MM_put (c := c2) hL2 (Or.inl hx) ((hn2 _ nx_y).trans rfl) (.inr (3, [.int (-1), .int 0, .ref q2]))
  refine V_m hm3 ?_
  refine V_vret dX3_init_17 rfl ⟨rfl, nd2, ad2, c3, rfl, hL2.iff (fun k => ?_), fun k hk => (hn2 k (nk h_y hk)), fun k hk hx0 => ((ho3 k hx0).trans ((ho2 k (nk h_y hk)).trans (ho1 k hx0))), ?_⟩
  · unfold ins
    simp only [or_assoc]
  · exact ⟨by rw [show ad2 y = _ from ha2]; exact hc3, ((ho3 _ nx_y.symm).trans hc2)⟩
theorem tX1_init {D : Dat} {nd : Nat → Option Nat} {ad : Nat → Nat} {K : Nat → Prop} {c : Nat → pE} {x y z : Nat} (hL : Lay nd ad K) (hx : K x) (hc : c x = .inr (1, [.null, .int 0, .int 0, .int 0, .int 0, .int 0, .int 0, .int 0, .null, .int 0])) (h_y : ¬ K y) (h_z : ¬ K z) (nyz : y ≠ z) : T D 1 IX1_init [.ref (ad x)] (MM nd c) 2 192 (Qn (Grw ad c K x (fun k => k = y ∨ k = z) (fun ad' c' => c' x = .inr (1, [.ref (ad' y), .int 0, .int 0, .int 0, .int 0, .int 0, .int 0, .int 0, .ref (ad' z), .int 0]) ∧ c' y = .inl (0, 96, .inl (fun _ => 0)) ∧ c' z = .inl (0, 96, .inl (fun _ => 0))))) := by
  refine T_of_V (by decide) (Nat.le_of_ble_eq_true rfl) ?_
  show V D 1 IX1_init 0 [(0, .ref (ad x))] [] (MM nd c) 2 192 _
  have nx_y : x ≠ y := nk h_y hx
  have nx_z : x ≠ z := nk h_z hx
  refine V_aload_n (pc2 := 1) dX1_init_0 0 rfl rfl ?_
  refine N_obj (pc2 := 4) dX1_init_1 (by decide) (Nat.le_of_ble_eq_true rfl) wM_OB_1_3 ?_
  refine V_aload_n (pc2 := 5) dX1_init_4 0 rfl rfl ?_
  refine V_bipush (v := 96) (pc2 := 7) dX1_init_5 (by decide) ?_
  refine N_newa (N := 96) (kc := 1) (ks := 96) (pc2 := 9) dX1_init_7 wM_int ⟨by decide, by decide, by decide⟩ (fun q1 hq1 => ?_) rfl rfl
  obtain ⟨nd1, ad1, c1, hm1, hL1, ha1, hn1, hc1, ho1⟩ := MM_new (c := c) hL h_y hq1 (.inl (0, 96, .inl (fun _ => 0)))
  refine V_m hm1 ?_
  refine N_putF (kf := 0) (pc2 := 12) (MM_a hL1 (Or.inl hx) ((hn1 _ nx_y).trans rfl) ((ho1 _ nx_y).trans hc)) dX1_init_9 wM_FQ_1_9 rfl rfl rfl (Nat.le_of_ble_eq_true rfl) ?_
  obtain ⟨c2, hm2, hc2, ho2⟩ := MM_put (c := c1) hL1 (Or.inl hx) ((hn1 _ nx_y).trans rfl) (.inr (1, [.ref q1, .int 0, .int 0, .int 0, .int 0, .int 0, .int 0, .int 0, .null, .int 0]))
  refine V_m hm2 ?_
  refine V_aload_n (pc2 := 13) dX1_init_12 0 rfl rfl ?_
  refine V_bipush (v := 96) (pc2 := 15) dX1_init_13 (by decide) ?_
  refine N_newa (N := 96) (kc := 0) (ks := 0) (pc2 := 17) dX1_init_15 wM_int ⟨by decide, by decide, by decide⟩ (fun q3 hq3 => ?_) rfl rfl
  obtain ⟨nd3, ad3, c3, hm3, hL3, ha3, hn3, hc3, ho3⟩ := MM_new (c := c2) hL1 (nins h_z nyz.symm) hq3 (.inl (0, 96, .inl (fun _ => 0)))
  refine V_m hm3 ?_
  refine N_putF (kf := 8) (pc2 := 20) (MM_a hL3 (Or.inl (Or.inl hx)) ((hn3 _ nx_z).trans ((hn1 _ nx_y).trans rfl)) ((ho3 _ nx_z).trans hc2)) dX1_init_17 wM_FQ_1_15 rfl rfl rfl (Nat.le_of_ble_eq_true rfl) ?_
  obtain ⟨c4, hm4, hc4, ho4⟩ := MM_put (c := c3) hL3 (Or.inl (Or.inl hx)) ((hn3 _ nx_z).trans ((hn1 _ nx_y).trans rfl)) (.inr (1, [.ref q1, .int 0, .int 0, .int 0, .int 0, .int 0, .int 0, .int 0, .ref q3, .int 0]))
  refine V_m hm4 ?_
  refine V_vret dX1_init_20 rfl ⟨rfl, nd3, ad3, c4, rfl, hL3.iff (fun k => ?_), fun k hk => ((hn3 k (nk h_z hk)).trans (hn1 k (nk h_y hk))), fun k hk hx0 => ((ho4 k hx0).trans ((ho3 k (nk h_z hk)).trans ((ho2 k hx0).trans (ho1 k (nk h_y hk))))), ?_⟩
  · unfold ins
    simp only [or_assoc]
  · exact ⟨by rw [show ad3 y = _ from ((hn3 _ nyz).trans ha1), show ad3 z = _ from ha3]; exact hc4, ((ho4 _ nx_y.symm).trans ((ho3 _ nyz).trans ((ho2 _ nx_y.symm).trans hc1))), ((ho4 _ nx_z.symm).trans hc3)⟩
theorem tX4_init {D : Dat} {nd : Nat → Option Nat} {ad : Nat → Nat} {K : Nat → Prop} {c : Nat → pE} {x y z w : Nat} (hL : Lay nd ad K) (hx : K x) (hc : c x = .inr (4, [.int 0, .null, .null, .int 0])) (h_y : ¬ K y) (h_z : ¬ K z) (h_w : ¬ K w) (nyz : y ≠ z) (nyw : y ≠ w) (nzw : z ≠ w) : T D 2 IX4_init [.ref (ad x)] (MM nd c) 3 30 (Qn (Grw ad c K x (fun k => k = y ∨ k = z ∨ k = w) (fun ad' c' => c' x = .inr (4, [.int 0, .ref (ad' y), .ref (ad' z), .int 0]) ∧ c' y = .inr (5, [.int 0, .int 0, .int 0]) ∧ c' z = .inr (3, [.int (-1), .int 0, .ref (ad' w)]) ∧ c' w = .inl (0, 24, .inl (fun _ => 0))))) := by
  refine T_of_V (by decide) (Nat.le_of_ble_eq_true rfl) ?_
  show V D 2 IX4_init 0 [(0, .ref (ad x))] [] (MM nd c) 3 30 _
  have nx_y : x ≠ y := nk h_y hx
  have nx_z : x ≠ z := nk h_z hx
  have nx_w : x ≠ w := nk h_w hx
  refine V_aload_n (pc2 := 1) dX4_init_0 0 rfl rfl ?_
  refine N_obj (pc2 := 4) dX4_init_1 (by decide) (Nat.le_of_ble_eq_true rfl) wM_OB_4_3 ?_
  refine V_aload_n (pc2 := 5) dX4_init_4 0 rfl rfl ?_
  refine V_iconst (v := 0) (pc2 := 6) dX4_init_5 (by decide) ?_
  refine N_put (kf := 0) (pc2 := 9) (MM_a hL hx rfl hc) dX4_init_6 wM_FP_4_9 rfl rfl (Nat.le_of_ble_eq_true rfl) ?_
  obtain ⟨c1, hm1, hc1, ho1⟩ := MM_put (c := c) hL hx rfl (.inr (4, [.int 0, .null, .null, .int 0]))
  refine V_m hm1 ?_
  refine V_aload_n (pc2 := 10) dX4_init_9 0 rfl rfl ?_
  refine N_new (ci := 5) (N := 3) (fs := [.int 0, .int 0, .int 0]) (kc := 2) (ks := 27) (pc2 := 13) dX4_init_10 wM_CN_4_15 dfl_5 (fun q2 hq2 => ?_) rfl rfl
  obtain ⟨nd2, ad2, c2, hm2, hL2, ha2, hn2, hc2, ho2⟩ := MM_new (c := c1) hL h_y hq2 (.inr (5, [.int 0, .int 0, .int 0]))
  refine V_m hm2 ?_
  refine V_dup (pc2 := 14) dX4_init_13 rfl ?_
  refine N_cJ (d2 := 1) (kc := 2) (ks := 27) (pc2 := 17) [] (st := [.ref q2, .ref (ad x)]) tX5_init dX4_init_14 wM_MJ_4_17 (by decide) rfl (Nat.le_of_ble_eq_true rfl) (fun _ hz => ?_) rfl rfl
  subst hz
  refine N_putF (kf := 1) (pc2 := 20) (MM_a hL2 (Or.inl hx) ((hn2 _ nx_y).trans rfl) ((ho2 _ nx_y).trans hc1)) dX4_init_17 wM_FQ_4_18 rfl rfl rfl (Nat.le_of_ble_eq_true rfl) ?_
  obtain ⟨c3, hm3, hc3, ho3⟩ := MM_put (c := c2) hL2 (Or.inl hx) ((hn2 _ nx_y).trans rfl) (.inr (4, [.int 0, .ref q2, .null, .int 0]))
  refine V_m hm3 ?_
  refine V_aload_n (pc2 := 21) dX4_init_20 0 rfl rfl ?_
  refine N_new (ci := 3) (N := 3) (fs := [.int 0, .int 0, .null]) (kc := 1) (ks := 24) (pc2 := 24) dX4_init_21 wM_CN_4_22 dfl_3 (fun q4 hq4 => ?_) rfl rfl
  obtain ⟨nd4, ad4, c4, hm4, hL4, ha4, hn4, hc4, ho4⟩ := MM_new (c := c3) hL2 (nins h_z nyz.symm) hq4 (.inr (3, [.int 0, .int 0, .null]))
  refine V_m hm4 ?_
  refine V_dup (pc2 := 25) dX4_init_24 rfl ?_
  have hT5 := tX3_init (D := D) hL4 (Or.inr rfl) hc4 (nins (nins h_w nyw.symm) nzw.symm) 
  rw [show ad4 z = _ from ha4] at hT5
  refine N_cJ (d2 := 1) (kc := 0) (ks := 0) (pc2 := 28) [] (st := [.ref q4, .ref (ad x)]) hT5 dX4_init_25 wM_MJ_4_24 (by decide) rfl (Nat.le_of_ble_eq_true rfl) (fun m5 hg5 => ?_) rfl rfl
  obtain ⟨nd5, ad5, c5, rfl, hL5, hn5, ho5, f5a, f5b⟩ := hg5
  refine N_putF (kf := 2) (pc2 := 31) (MM_a hL5 (Or.inl (Or.inl (Or.inl hx))) ((hn5 _ (Or.inl (Or.inl hx))).trans ((hn4 _ nx_z).trans ((hn2 _ nx_y).trans rfl))) ((ho5 _ (Or.inl (Or.inl hx)) nx_z).trans ((ho4 _ nx_z).trans hc3))) dX4_init_28 wM_FQ_4_25 rfl rfl rfl (Nat.le_of_ble_eq_true rfl) ?_
  obtain ⟨c6, hm6, hc6, ho6⟩ := MM_put (c := c5) hL5 (Or.inl (Or.inl (Or.inl hx))) ((hn5 _ (Or.inl (Or.inl hx))).trans ((hn4 _ nx_z).trans ((hn2 _ nx_y).trans rfl))) (.inr (4, [.int 0, .ref q2, .ref q4, .int 0]))
  refine V_m hm6 ?_
  refine V_vret dX4_init_31 rfl ⟨rfl, nd5, ad5, c6, rfl, hL5.iff (fun k => ?_), fun k hk => ((hn5 k (Or.inl (Or.inl hk))).trans ((hn4 k (nk h_z hk)).trans (hn2 k (nk h_y hk)))), fun k hk hx0 => ((ho6 k hx0).trans ((ho5 k (Or.inl (Or.inl hk)) (nk h_z hk)).trans ((ho4 k (nk h_z hk)).trans ((ho3 k hx0).trans ((ho2 k (nk h_y hk)).trans (ho1 k hx0)))))), ?_⟩
  · unfold ins
    simp only [or_assoc]
  · exact ⟨by rw [show ad5 y = _ from ((hn5 _ (Or.inl (Or.inr rfl))).trans ((hn4 _ nyz).trans ha2)), show ad5 z = _ from ((hn5 _ (Or.inr rfl)).trans ha4)]; exact hc6, ((ho6 _ nx_y.symm).trans ((ho5 _ (Or.inl (Or.inr rfl)) nyz).trans ((ho4 _ nyz).trans ((ho3 _ nx_y.symm).trans hc2)))), by rw [show ad5 w = _ from rfl]; exact ((ho6 _ nx_z.symm).trans f5a), ((ho6 _ nx_w.symm).trans f5b)⟩
