/-! THE LAW FROM ITS BEGINNING -/
theorem mup_mun {m : Mem} {q : Nat} {e : pE} (h : m q = none) : mup m q e = mun m (mup (fun _ => none) q e) ∧ apart m (mup (fun _ => none) q e) := by
  refine ⟨?_, fun p => ?_⟩
  · funext p
    by_cases hp : p = q
    · subst hp; rw [mup_s, mun_r h, mup_s]
    · rw [mup_n hp]
      cases hm : m p with
      | none => rw [mun_r hm, mup_n hp]
      | some x => rw [mun_l hm]
  · by_cases hp : p = q
    · subst hp; exact Or.inl h
    · exact Or.inr (mup_n hp)
theorem Lay_0 : Lay (fun _ => none) (fun _ => 0) (fun _ => False) := ⟨fun _ h => h.elim, fun _ _ h => by cases h⟩
theorem law_all {nm : String} {D : Dat} (hN : sN D ≤ 384) : V D 140 (IL nm) 0 [(0, .ref (sB D))] [] (fun _ => none) 327 23136 LQ := by
  refine N_new (ci := 7) (N := 9) (fs := [.null, .null, .null, .int 0, .null, .null, .null, .null, .int 0]) (kc := 326) (ks := 23127) (pc2 := 3) dL_law_0 wM_CN_9_7 dfl_7 (fun q1 hq1 => ?_) rfl rfl
  obtain ⟨nd1, ad1, c1, hm1, hL1, ha1, -, hc1, -⟩ := MM_new (c := fun _ => .inr (0, [])) Lay_0 (x := 0) (fun z => z) (q := q1) rfl (.inr (7, [.null, .null, .null, .int 0, .null, .null, .null, .null, .int 0]))
  refine V_m hm1 ?_
  refine V_dup (pc2 := 4) dL_law_3 rfl ?_
  have hT1 := tX7_init (D := D) (hL1.iff (fun k => ⟨fun z => z.elim (fun z => z.elim) (fun z => z), Or.inr⟩)) hc1
  rw [ha1] at hT1
  refine N_cI (kc := 211) (ks := 22143) (pc2 := 7) [] (st := [.ref q1]) hT1 dL_law_4 wM_MI_9_9 (by decide) rfl (Nat.le_of_ble_eq_true rfl) (fun m2 hg2 => ?_) rfl rfl
  obtain ⟨nd2, ad2, c2, rfl, hL2, ha2, hO⟩ := hg2
  refine V_astore_n (pc2 := 8) (L2 := [(1, .ref q1), (0, .ref (sB D))]) dL_law_7 ?_ rfl rfl rfl
  refine N_new (ci := 8) (N := 31) (fs := [.null, .null, .null, .int 0, .null, .null, .null, .null, .null, .null, .null, .null, .null, .null, .int 0, .int 0, .int 0, .int 0, .int 0, .int 0, .int 0, .int 0, .int 0, .int 0, .int 0, .null, .null, .null, .null, .int 0, .null]) (kc := 210) (ks := 22112) (pc2 := 11) dL_law_8 wM_CN_9_10 dfl_8 (fun q3 hq3 => ?_) rfl rfl
  obtain ⟨hu, hap⟩ := mup_mun (e := .inr (8, [.null, .null, .null, .int 0, .null, .null, .null, .null, .null, .null, .null, .null, .null, .null, .int 0, .int 0, .int 0, .int 0, .int 0, .int 0, .int 0, .int 0, .int 0, .int 0, .int 0, .null, .null, .null, .null, .int 0, .null])) hq3
  obtain ⟨nd3, ad3, c3, hm3, hL3, ha3, -, hc3, -⟩ := MM_new (c := fun _ => .inr (0, [])) Lay_0 (x := 31) (fun z => z) (q := q3) rfl (.inr (8, [.null, .null, .null, .int 0, .null, .null, .null, .null, .null, .null, .null, .null, .null, .null, .int 0, .int 0, .int 0, .int 0, .int 0, .int 0, .int 0, .int 0, .int 0, .int 0, .int 0, .null, .null, .null, .null, .int 0, .null]))
  have hm3' : mup (fun _ => none) q3 (.inr (8, [.null, .null, .null, .int 0, .null, .null, .null, .null, .null, .null, .null, .null, .null, .null, .int 0, .int 0, .int 0, .int 0, .int 0, .int 0, .int 0, .int 0, .int 0, .int 0, .int 0, .null, .null, .null, .null, .int 0, .null])) = MM nd3 c3 := hm3
  rw [hm3'] at hu hap
  refine V_m (hu.trans (mun_comm hap)) ?_
  refine V_dup (pc2 := 12) dL_law_11 rfl ?_
  have hT3 := tX8_init (D := D) (hL3.iff (fun k => ⟨fun z => z.elim (fun z => z.elim) (fun z => z), Or.inr⟩)) hc3
  rw [ha3] at hT3
  obtain ⟨w1, w2, w3, w4, w5, w6, w7, w8⟩ := wM_MI_9_12
  refine V_callI (As := []) (st := [.ref q3]) (kc := 192) (ks := 12032) (pc2 := 15) (T_frame hap.symm hT3) dL_law_12 w1 w2 w3 w4 w5 w6 w7 rfl (by decide) (Nat.le_of_ble_eq_true rfl) (fun r m9 hq9 => ?_)
  obtain ⟨m4, ⟨rfl, nd4, ad4, rfl, hL4, ha4⟩, rfl, hap4⟩ := hq9
  refine V_m (mun_comm hap4) ?_
  refine V_astore_n (pc2 := 16) (L2 := [(2, .ref q3), (1, .ref q1), (0, .ref (sB D))]) dL_law_15 ?_ rfl rfl rfl
  refine V_iconst (v := 0) (pc2 := 17) dL_law_16 (by decide) ?_
  refine V_istore_n (pc2 := 18) (L2 := [(3, .int 0), (2, .ref q3), (1, .ref q1), (0, .ref (sB D))]) dL_law_17 ?_ rfl rfl rfl
  exact V_lv (law_loop (nm := nm) hN 64 0 0 nd2 ad2 c2 fi0 fa0 (by omega) (by omega) ⟨hL2, hL4, Inv_0 hO, hap4.symm, ha2, ha4⟩) [3, 2, 1, 0] rfl
