theorem lw_le {L i : Nat} (hL : L ≤ 384) (hi : i ≤ 384) (h : ¬ nI L - 6 < nI i) : i + 6 ≤ L := by
  by_cases h6 : 6 ≤ L
  · rw [show nI L - 6 = nI (L - 6) from pk_sub (b := 6) h6] at h
    have : ¬ L - 6 < i := fun z => h (nI_lt z (by omega))
    omega
  · exfalso
    apply h
    have hn : nI L - 6 < 0 := by
      rcases (show L = 0 ∨ L = 1 ∨ L = 2 ∨ L = 3 ∨ L = 4 ∨ L = 5 by omega) with e | e | e | e | e | e <;> subst e <;> decide
    exact Int32.lt_of_lt_of_le hn (nI_pos' (by omega))
def LQ : Option Value → Mem → Prop := fun r _ => r = some (.int 1)
set_option maxRecDepth 20000 in
theorem law_loop {nm : String} {D : Dat} {a1 a2 : Nat} {nd2 : Nat → Option Nat} {ad2 : Nat → Nat} (hN : sN D ≤ 384) : ∀ (r i nT : Nat) (nd : Nat → Option Nat) (ad : Nat → Nat) (c : Nat → pE) (fi : Nat → Int32) (fa : Nat → Nat → Int32), sN D ≤ i + 6 * r + 5 → i ≤ 384 → LwS nT nd nd2 ad ad2 c fi fa a1 a2 → V D 140 (IL nm) 18 (lwL D a1 a2 i) [] (mun (MM nd c) (MR nd2 ad2 fi fa)) (3 * r) (188 * r) LQ := by
  intro r
  induction r with
  | zero =>
    intro i nT nd ad c fi fa h1 h2 hS
    refine V_iload_n (pc2 := 19) dL_law_18 3 rfl rfl ?_
    refine V_aload_n (pc2 := 20) dL_law_19 0 rfl rfl ?_
    refine V_slen (pc2 := 21) dL_law_20 ?_
    refine V_bipush (v := 6) (pc2 := 23) dL_law_21 (by decide) ?_
    refine V_isub (pc2 := 24) dL_law_23 ?_
    refine V_icmp_gt (pc2 := 27) (tgt := 1569) dL_law_24 (fun _ => ?_) (fun z => absurd (lw_le hN h2 z) (by omega))
    refine V_iconst (v := 1) (pc2 := 1570) dL_law_1569 (by decide) ?_
    exact V_bret (b := true) dL_law_1570 rfl rfl
  | succ r ih =>
    intro i nT nd ad c fi fa h1 h2 hS
    refine V_iload_n (pc2 := 19) dL_law_18 3 rfl rfl ?_
    refine V_aload_n (pc2 := 20) dL_law_19 0 rfl rfl ?_
    refine V_slen (pc2 := 21) dL_law_20 ?_
    refine V_bipush (v := 6) (pc2 := 23) dL_law_21 (by decide) ?_
    refine V_isub (pc2 := 24) dL_law_23 ?_
    refine V_icmp_gt (pc2 := 27) (tgt := 1569) dL_law_24 (fun _ => ?_) (fun z => ?_)
    · refine V_iconst (v := 1) (pc2 := 1570) dL_law_1569 (by decide) ?_
      exact V_bret (b := true) dL_law_1570 rfl rfl
    have hi : i + 6 ≤ sN D := lw_le hN h2 z
    have hk : LwK D nm i a1 a2 nd2 ad2 (3 * r) (188 * r) LQ := by
      intro nT nd ad c fi fa hS
      refine V_iinc (pc2 := 1566) (v := nI (i + 6)) (L2 := [(3, .int (nI (i + 6))), (0, .ref (sB D)), (1, .ref a1), (2, .ref a2)]) dL_law_1563 3 rfl (nI_add (a := i) (b := 6)) ?_ rfl rfl
      refine V_goto (tgt := 18) dL_law_1566 ?_
      exact V_lv (ih (i + 6) nT nd ad c fi fa (by omega) (by omega) hS) [1, 2, 3, 0] rfl
    have s0 : sld D (nI i) = some (sX D i) := sld_0 (by omega) hN
    refine V_aload_n (pc2 := 28) dL_law_27 0 rfl rfl ?_
    refine V_iload_n (pc2 := 29) dL_law_28 3 rfl rfl ?_
    refine V_sld (pc2 := 30) s0 dL_law_29 ?_
    refine V_bipush (v := 63) (pc2 := 32) dL_law_30 (by decide) ?_
    refine V_iand (pc2 := 33) dL_law_32 ?_
    obtain ⟨w, hw, hw2⟩ : ∃ w, sX D i &&& 63 = nI w ∧ w < 64 := ⟨_, pk_and _ 6 (by decide), Nat.mod_lt _ (by decide)⟩
    rw [hw]
    rw [show 3 * (r + 1) = 3 * r + 3 from rfl, show 188 * (r + 1) = 188 * r + 188 from rfl]
    by_cases e0 : w = 0
    · subst e0
      exact V_table (off := 195) (tgt := 228) dL_law_33 (by decide) (LW_child hS hi hN hk)
    by_cases e1 : w = 1
    · subst e1
      exact V_table (off := 218) (tgt := 251) dL_law_33 (by decide) (LW_childTold hS hi hN hk)
    by_cases e2 : w = 2
    · subst e2
      exact V_table (off := 251) (tgt := 284) dL_law_33 (by decide) (LW_lays hS hi hN hk)
    by_cases e3 : w = 3
    · subst e3
      exact V_table (off := 294) (tgt := 327) dL_law_33 (by decide) (LW_paper hS hi hN hk)
    by_cases e4 : w = 4
    · subst e4
      exact V_table (off := 317) (tgt := 350) dL_law_33 (by decide) (LW_sorts hS hi hN hk)
    by_cases e5 : w = 5
    · subst e5
      exact V_table (off := 350) (tgt := 383) dL_law_33 (by decide) (LW_rule hS hi hN hk)
    by_cases e6 : w = 6
    · subst e6
      exact V_table (off := 383) (tgt := 416) dL_law_33 (by decide) (LW_stop hS hi hN hk)
    by_cases e7 : w = 7
    · subst e7
      exact V_table (off := 426) (tgt := 459) dL_law_33 (by decide) (LW_told hS hi hN hk)
    by_cases e8 : w = 8
    · subst e8
      exact V_table (off := 459) (tgt := 492) dL_law_33 (by decide) (LW_as hS hi hN hk)
    by_cases e9 : w = 9
    · subst e9
      exact V_table (off := 492) (tgt := 525) dL_law_33 (by decide) (LW_turns hS hi hN hk)
    by_cases e10 : w = 10
    · subst e10
      exact V_table (off := 525) (tgt := 558) dL_law_33 (by decide) (LW_set hS hi hN hk)
    by_cases e11 : w = 11
    · subst e11
      exact V_table (off := 568) (tgt := 601) dL_law_33 (by decide) (LW_deal hS hi hN hk)
    by_cases e12 : w = 12
    · subst e12
      exact V_table (off := 591) (tgt := 624) dL_law_33 (by decide) (LW_seed hS hi hN hk)
    by_cases e13 : w = 13
    · subst e13
      exact V_table (off := 614) (tgt := 647) dL_law_33 (by decide) (LW_lands hS hi hN hk)
    by_cases e14 : w = 14
    · subst e14
      exact V_table (off := 637) (tgt := 670) dL_law_33 (by decide) (LW_round hS hi hN hk)
    by_cases e15 : w = 15
    · subst e15
      exact V_table (off := 650) (tgt := 683) dL_law_33 (by decide) (LW_go hS hi hN hk)
    by_cases e16 : w = 16
    · subst e16
      exact V_table (off := 673) (tgt := 706) dL_law_33 (by decide) (LW_odds hS hi hN hk)
    by_cases e17 : w = 17
    · subst e17
      exact V_table (off := 696) (tgt := 729) dL_law_33 (by decide) (LW_behind hS hi hN hk)
    by_cases e18 : w = 18
    · subst e18
      exact V_table (off := 729) (tgt := 762) dL_law_33 (by decide) (LW_had hS hi hN hk)
    by_cases e19 : w = 19
    · subst e19
      exact V_table (off := 762) (tgt := 795) dL_law_33 (by decide) (LW_all hS hi hN hk)
    by_cases e20 : w = 20
    · subst e20
      exact V_table (off := 775) (tgt := 808) dL_law_33 (by decide) (LW_evens hS hi hN hk)
    by_cases e21 : w = 21
    · subst e21
      exact V_table (off := 798) (tgt := 831) dL_law_33 (by decide) (LW_steer hS hi hN hk)
    by_cases e22 : w = 22
    · subst e22
      exact V_table (off := 831) (tgt := 864) dL_law_33 (by decide) (LW_pays hS hi hN hk)
    by_cases e23 : w = 23
    · subst e23
      exact V_table (off := 874) (tgt := 907) dL_law_33 (by decide) (LW_worst hS hi hN hk)
    by_cases e24 : w = 24
    · subst e24
      exact V_table (off := 907) (tgt := 940) dL_law_33 (by decide) (LW_filmed hS hi hN hk)
    by_cases e25 : w = 25
    · subst e25
      exact V_table (off := 940) (tgt := 973) dL_law_33 (by decide) (LW_fine hS hi hN hk)
    by_cases e26 : w = 26
    · subst e26
      exact V_table (off := 963) (tgt := 996) dL_law_33 (by decide) (LW_feed hS hi hN hk)
    by_cases e27 : w = 27
    · subst e27
      exact V_table (off := 1006) (tgt := 1039) dL_law_33 (by decide) (LW_trim hS hi hN hk)
    by_cases e28 : w = 28
    · subst e28
      exact V_table (off := 1029) (tgt := 1062) dL_law_33 (by decide) (LW_text hS hi hN hk)
    by_cases e29 : w = 29
    · subst e29
      exact V_table (off := 1042) (tgt := 1075) dL_law_33 (by decide) (LW_textTold hS hi hN hk)
    by_cases e30 : w = 30
    · subst e30
      exact V_table (off := 1075) (tgt := 1108) dL_law_33 (by decide) (LW_why hS hi hN hk)
    by_cases e31 : w = 31
    · subst e31
      exact V_table (off := 1098) (tgt := 1131) dL_law_33 (by decide) (LW_sheet hS hi hN hk)
    by_cases e32 : w = 32
    · subst e32
      exact V_table (off := 1141) (tgt := 1174) dL_law_33 (by decide) (LW_mark hS hi hN hk)
    by_cases e33 : w = 33
    · subst e33
      exact V_table (off := 1184) (tgt := 1217) dL_law_33 (by decide) (LW_pour hS hi hN hk)
    by_cases e34 : w = 34
    · subst e34
      exact V_table (off := 1207) (tgt := 1240) dL_law_33 (by decide) (LW_reads hS hi hN hk)
    by_cases e35 : w = 35
    · subst e35
      exact V_table (off := 1230) (tgt := 1263) dL_law_33 (by decide) (LW_copy hS hi hN hk)
    by_cases e36 : w = 36
    · subst e36
      exact V_table (off := 1293) (tgt := 1326) dL_law_33 (by decide) (LW_lay hS hi hN hk)
    by_cases e37 : w = 37
    · subst e37
      exact V_table (off := 1336) (tgt := 1369) dL_law_33 (by decide) (LW_ask hS hi hN hk)
    by_cases e38 : w = 38
    · subst e38
      exact V_table (off := 1369) (tgt := 1402) dL_law_33 (by decide) (LW_item hS hi hN hk)
    by_cases e39 : w = 39
    · subst e39
      exact V_table (off := 1402) (tgt := 1435) dL_law_33 (by decide) (LW_rest hS hi hN hk)
    by_cases e40 : w = 40
    · subst e40
      exact V_table (off := 1435) (tgt := 1468) dL_law_33 (by decide) (LW_tell hS hi hN hk)
    by_cases e41 : w = 41
    · subst e41
      exact V_table (off := 1458) (tgt := 1491) dL_law_33 (by decide) (LW_check hS hi hN hk)
    by_cases e42 : w = 42
    · subst e42
      exact V_table (off := 1481) (tgt := 1514) dL_law_33 (by decide) (LW_keep hS hi hN hk)
    by_cases e43 : w = 43
    · subst e43
      exact V_table (off := 1494) (tgt := 1527) dL_law_33 (by decide) (LW_back hS hi hN hk)
    by_cases e44 : w = 44
    · subst e44
      exact V_table (off := 1507) (tgt := 1540) dL_law_33 (by decide) (LW_count hS hi hN hk)
    refine V_tableD (tgt := 1563) dL_law_33 (Or.inr ?_) ?_
    · rw [nI_toInt (by omega)]
      omega
    · exact V_kc (kc2 := 3 * r) (ks2 := 188 * r) (by omega) (by omega) (hk nT nd ad c fi fa hS)
