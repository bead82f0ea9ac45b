set_option maxRecDepth 100000 in
set_option maxHeartbeats 4000000 in
theorem law_permille {p : Program} {l : Launch} {e : Env} {s : State} {m : MethodId} {args : Array Value} {below : List Frame} {meth : Method} {c : Code} {Q : State → Prop} {K : wK} {A : Nat → Prop} {ad1 ad2 : Nat → Nat} {b L : Nat} {xs : Nat → Int32} {cells slots : Nat} (hst : l.stackTraces = false) (C : Cx p room_1 m c cells slots cL_law 7 s args RL K A) (T : tOK A s) (S : SX b L xs A s) {n i : Int} (hn : 0 ≤ n ∧ n ≤ 511) (hi : 0 ≤ i ∧ i + 7 ≤ L) (hc : cells + 4 ≤ room_1.cells) (hs : slots + 24 ≤ room_1.slots) {u1 u2 : List AC} (hg : LG n u1 u2) (ho1 : okW u1) (ho2 : okW u2) (kk : ∀ u1 u2, LG (n + 1) u1 u2 → okW u1 → okW u2 → WN p l e room_1 s m args below meth c (cells + 4) (slots + 24) Q K 7 A 1236 (lvL b ad1 ad2 i) [] (wG K ad1 u1 ++ wG K ad2 u2)) : WN p l e room_1 s m args below meth c cells slots Q K 7 A 1112 (lvL b ad1 ad2 i) [] (wG K ad1 u1 ++ wG K ad2 u2) := by
  obtain ⟨h0, h7⟩ := hi
  obtain ⟨D_hasBoard, D_beganBlank, F_mines, F_moves, F_changes, G_width, G_height, G_size, B_parts, B_longest, S_groups, S_askedGroup, S_taken, R_waitingCount, R_metCount, A_grade, A_cell, A_mined, A_withTotal, A_numbers, hg⟩ := hg
  obtain ⟨X_low, X_high, Y_low, Y_high, F_mined, F_number, F_state, F_cellsIn, F_unknownNear, F_hitNear, F_moveStart, F_changed, F_waiting, F_seen, G_near, G_nearEnd, B_chosen, B_partOf, B_rest, B_unknowns, hg⟩ := hg
  obtain ⟨B_partStart, B_cells, S_minedSet, S_safeSet, S_partSet, S_tally, S_askedTally, S_groupOf, S_groupSize, S_links, S_linkEnd, S_pick, S_groupMinedSet, S_groupSafeSet, O_sums, O_nextSums, R_found, R_openEnds, R_need, R_waiting, hg⟩ := hg
  obtain ⟨R_waits, R_common, R_met, A_number, Q_mined, Q_all, Q_choices, Q_term, Q_divisor, Q_spare, X_limbs, X_sum, Y_limbs, Y_sum, W_out, M_thrown, M_w, M_h, M_cells, M_shape, hg⟩ := hg
  obtain ⟨M_isBoard, M_isBlank, M_lives, M_moves, M_parts, M_numbers, M_grade, M_reasons, M_total, M_near, M_degree, M_mine, M_state, M_history, M_oldLives, M_safe, M_mined, M_used, M_partOf, M_placeOf, hg⟩ := hg
  obtain ⟨M_partSize, M_ways, M_with, M_masks, M_rests, M_bits, M_reach, M_more, M_reason, M_big, M_region, rfl, rfl, g⟩ := hg
  obtain ⟨pn, px, hP, hpn, hpx⟩ := g_permille (x1 := (sv xs (i + 1))) (x2 := (sv xs (i + 2))) (n := n) (D_hasBoard := D_hasBoard) (D_beganBlank := D_beganBlank) (F_mines := F_mines) (F_moves := F_moves) (F_changes := F_changes) (G_width := G_width) (G_height := G_height) (G_size := G_size) (B_parts := B_parts) (B_longest := B_longest) (S_groups := S_groups) (S_askedGroup := S_askedGroup) (S_taken := S_taken) (R_waitingCount := R_waitingCount) (R_metCount := R_metCount) (A_grade := A_grade) (A_cell := A_cell) (A_mined := A_mined) (A_withTotal := A_withTotal) (A_numbers := A_numbers) (X_low := X_low) (X_high := X_high) (Y_low := Y_low) (Y_high := Y_high) (F_mined := F_mined) (F_number := F_number) (F_state := F_state) (F_cellsIn := F_cellsIn) (F_unknownNear := F_unknownNear) (F_hitNear := F_hitNear) (F_moveStart := F_moveStart) (F_changed := F_changed) (F_waiting := F_waiting) (F_seen := F_seen) (G_near := G_near) (G_nearEnd := G_nearEnd) (B_chosen := B_chosen) (B_partOf := B_partOf) (B_rest := B_rest) (B_unknowns := B_unknowns) (B_partStart := B_partStart) (B_cells := B_cells) (S_minedSet := S_minedSet) (S_safeSet := S_safeSet) (S_partSet := S_partSet) (S_tally := S_tally) (S_askedTally := S_askedTally) (S_groupOf := S_groupOf) (S_groupSize := S_groupSize) (S_links := S_links) (S_linkEnd := S_linkEnd) (S_pick := S_pick) (S_groupMinedSet := S_groupMinedSet) (S_groupSafeSet := S_groupSafeSet) (O_sums := O_sums) (O_nextSums := O_nextSums) (R_found := R_found) (R_openEnds := R_openEnds) (R_need := R_need) (R_waiting := R_waiting) (R_waits := R_waits) (R_common := R_common) (R_met := R_met) (A_number := A_number) (Q_mined := Q_mined) (Q_all := Q_all) (Q_choices := Q_choices) (Q_term := Q_term) (Q_divisor := Q_divisor) (Q_spare := Q_spare) (X_limbs := X_limbs) (X_sum := X_sum) (Y_limbs := Y_limbs) (Y_sum := Y_sum) (M_thrown := M_thrown) (M_w := M_w) (M_h := M_h) (M_cells := M_cells) (M_shape := M_shape) (M_isBoard := M_isBoard) (M_isBlank := M_isBlank) (M_lives := M_lives) (M_moves := M_moves) (M_parts := M_parts) (M_numbers := M_numbers) (M_grade := M_grade) (M_reasons := M_reasons) (M_total := M_total) (M_near := M_near) (M_degree := M_degree) (M_mine := M_mine) (M_state := M_state) (M_history := M_history) (M_oldLives := M_oldLives) (M_safe := M_safe) (M_mined := M_mined) (M_used := M_used) (M_partOf := M_partOf) (M_placeOf := M_placeOf) (M_partSize := M_partSize) (M_ways := M_ways) (M_with := M_with) (M_masks := M_masks) (M_rests := M_rests) (M_bits := M_bits) (M_reach := M_reach) (M_more := M_more) (M_reason := M_reason) (M_big := M_big) (M_region := M_region) (sv_r xs (i + 1)) (sv_r xs (i + 2)) hn g
  refine wn_aload_n C 3 rfl dL_law_1112 rfl ?_
  refine wn_aload_n C 4 rfl dL_law_1113 rfl ?_
  refine wn_iload C 0 rfl dL_law_1114 ?_
  refine wn_iconst C (z := 1) dL_law_1116 rfl ?_
  refine wn_iadd C dL_law_1117 ?_
  refine wn_scr C S (i := i + 1) (by omega) (by omega) dL_law_1118 ?_
  refine wn_aload_n C 4 rfl dL_law_1119 rfl ?_
  refine wn_iload C 0 rfl dL_law_1120 ?_
  refine wn_iconst C (z := 2) dL_law_1122 rfl ?_
  refine wn_iadd C dL_law_1123 ?_
  refine wn_scr C S (i := i + 2) (by omega) (by omega) dL_law_1124 ?_
  refine wn_aload_n C 1 rfl dL_law_1125 rfl ?_
  refine wn_callE C T (n := 4) (As := [.ref (ad1 0), .int (iI (sv xs (i + 1))), .int (iI (sv xs (i + 2))), .ref (ad1 62)]) (rest := []) (e_permille l hst K ad1 (sv xs (i + 1)) (sv xs (i + 2)) (sv_r xs (i + 1)) (sv_r xs (i + 2)) pn px hP) ho1 (gt_5 231 (by decide +kernel) rfl) gw_1189 gw_1190 gw_0 ⟨by decide, by decide, by decide +kernel⟩ rfl rfl rfl ⟨by decide, by decide⟩ rfl (Nat.le_of_ble_eq_true rfl) dL_law_1126 ⟨Nat.le_trans (by omega) hc, Nat.le_trans (by omega) hs⟩ (fun z9 u9 rz9 ho9 hp => ?_)
  replace C := C.more (cells' := cells + 3) (slots' := slots + 18) (Nat.le_trans (by omega) hc) (Nat.le_trans (by omega) hs)
  refine wn_istore C (lv' := [(5, .int (iI z9)), (4, .int (iI i)), (3, .ref (ad1 62)), (2, .ref (ad2 0)), (1, .ref (ad1 0)), (0, .ref b)]) dL_law_1129 (by decide) rfl ?_
  rcases hp with hp | hp
  · skip
    obtain ⟨rfl, r9, w0, w1, w2, w3, w4, w5, w6, w7, w8, w9, w10, w11, w12, w13, w14, w15, w16, w17, hp⟩ := hp
    obtain ⟨w18, w19, w20, w21, w22, w23, w24, w25, w26, w27, w28, w29, w30, w31, w32, w33, w34, w35, hr9, rfl, hq9⟩ := hp
    obtain ⟨pm, hPm, hm⟩ := hpn r9 w0 w1 w2 w3 w4 w5 w6 w7 w8 w9 w10 w11 w12 w13 w14 w15 w16 w17 w18 w19 w20 w21 w22 w23 w24 w25 w26 w27 w28 w29 w30 w31 w32 w33 w34 w35 hq9
    refine wn_aload_n C 3 rfl dL_law_1131 rfl ?_
    refine wn_aload_n C 5 rfl dL_law_1132 rfl ?_
    refine wn_iload C 1 rfl dL_law_1133 ?_
    refine wn_iconst C (z := 1) dL_law_1135 rfl ?_
    refine wn_iadd C dL_law_1136 ?_
    refine wn_scr C S (i := i + 1) (by omega) (by omega) dL_law_1137 ?_
    refine wn_aload_n C 5 rfl dL_law_1138 rfl ?_
    refine wn_iload C 1 rfl dL_law_1139 ?_
    refine wn_iconst C (z := 2) dL_law_1141 rfl ?_
    refine wn_iadd C dL_law_1142 ?_
    refine wn_scr C S (i := i + 2) (by omega) (by omega) dL_law_1143 ?_
    refine wn_callMi C (As := [.int (iI (sv xs (i + 1))), .int (iI (sv xs (i + 2)))]) (rest := []) (c_X12_permille l K ad2 (sv xs (i + 1)) (sv xs (i + 2)) (sv_r xs (i + 1)) (sv_r xs (i + 2)) pm hPm) ho2 gw_1685 gw_1682 mW_0 rfl gw_1683 gw_1684 gw_12 q_X12_permille rfl rfl rfl ⟨by decide, by decide⟩ rfl (Nat.le_of_ble_eq_true rfl) dL_law_1144 (fun b9 v9 rb9 ho8 hp2 => ?_)
    obtain ⟨m0, m1, m2, m3, m4, m5, m6, m7, m8, m9, m10, m11, rfl, hq8⟩ := hp2
    obtain ⟨t9, eb, g9⟩ := hm b9 m0 m1 m2 m3 m4 m5 m6 m7 m8 m9 m10 m11 hq8
    refine wn_istore C (lv' := [(6, .int (iI b9)), (5, .int (iI 0)), (4, .int (iI i)), (3, .ref (ad1 62)), (2, .ref (ad2 0)), (1, .ref (ad1 0)), (0, .ref b)]) dL_law_1147 (by decide) rfl ?_
    refine wn_aload_n C 4 rfl dL_law_1149 rfl ?_
    refine wn_callMi C (As := []) (rest := []) (c_X12_thrown l K ad2 (fun z => z = m0) (show P_X12_thrown (fun z => z = m0) m0 from rfl)) ho8 gw_1344 gw_1341 mW_0 rfl gw_1342 gw_1343 gw_12 q_X12_thrown rfl rfl rfl ⟨by decide, by decide⟩ rfl (Nat.le_of_ble_eq_true rfl) dL_law_1150 (fun t7 v7 rt7 ho7 hp3 => ?_)
    obtain ⟨rfl, e7⟩ := hp3
    refine wn_iload C 1 rfl dL_law_1153 ?_
    refine wn_icmp_eq C (tgt := 1160) rt7 rz9 dL_law_1155 (by decide) (fun _ => ?_) (fun h => absurd (e7.trans t9) h)
    refine wn_iload C 1 rfl dL_law_1160 ?_
    refine wn_if_ne C (tgt := 1177) rz9 dL_law_1162 (by decide) (fun h => absurd rfl h) (fun _ => ?_)
    refine wn_aload_n C 3 rfl dL_law_1165 rfl ?_
    refine wn_iconst C (z := 0) dL_law_1166 rfl ?_
    refine wn_lald C 62 el_62 (by decide) dL_law_1167 (by decide) (by decide) ?_
    refine wn_iload C 0 rfl dL_law_1168 ?_
    refine wn_i2l C rb9 dL_law_1170 ?_
    refine wn_lcmp C dL_law_1171 ?_
    refine wn_if_eq C (tgt := 1177) (lcI_r _ _) dL_law_1172 (by decide) (fun _ => ?_) (fun h => absurd (lc_out eb) h)
    refine wn_goto C (tgt := 1236) dL_law_1177 (by decide) ?_
    refine wn_sub C (lv' := (lvL b ad1 ad2 i)) [2, 3, 4, 5, 6] rfl ?_
    refine wn_widen (c2 := cells + 4) (s2 := slots + 24) (by omega) (by omega) ?_
    exact kk _ _ ⟨_, _, _, _, _, _, _, _, _, _, _, _, _, _, _, _, _, _, _, _, _, _, _, _, _, _, _, _, _, _, _, _, _, _, _, _, _, _, _, _, _, _, _, _, _, _, _, _, _, _, _, _, _, _, _, _, _, _, _, _, _, _, _, _, _, _, _, _, _, _, _, _, _, _, _, _, _, _, _, _, _, _, _, _, _, _, _, _, _, _, _, _, _, _, _, _, _, _, _, _, _, _, _, _, _, _, _, _, _, _, _, rfl, rfl, g9⟩ ho9 ho7
  · skip
    obtain ⟨k9, w0, w1, w2, w3, w4, w5, w6, w7, w8, w9, w10, w11, w12, w13, w14, w15, w16, w17, w18, hp⟩ := hp
    obtain ⟨w19, w20, w21, w22, w23, w24, w25, w26, w27, w28, w29, w30, w31, w32, w33, w34, w35, rfl, hq9, hz9⟩ := hp
    obtain ⟨pm, hPm, hm⟩ := hpx k9 w0 w1 w2 w3 w4 w5 w6 w7 w8 w9 w10 w11 w12 w13 w14 w15 w16 w17 w18 w19 w20 w21 w22 w23 w24 w25 w26 w27 w28 w29 w30 w31 w32 w33 w34 w35 hq9
    refine wn_aload_n C 3 rfl dL_law_1131 rfl ?_
    refine wn_aload_n C 5 rfl dL_law_1132 rfl ?_
    refine wn_iload C 1 rfl dL_law_1133 ?_
    refine wn_iconst C (z := 1) dL_law_1135 rfl ?_
    refine wn_iadd C dL_law_1136 ?_
    refine wn_scr C S (i := i + 1) (by omega) (by omega) dL_law_1137 ?_
    refine wn_aload_n C 5 rfl dL_law_1138 rfl ?_
    refine wn_iload C 1 rfl dL_law_1139 ?_
    refine wn_iconst C (z := 2) dL_law_1141 rfl ?_
    refine wn_iadd C dL_law_1142 ?_
    refine wn_scr C S (i := i + 2) (by omega) (by omega) dL_law_1143 ?_
    refine wn_callMi C (As := [.int (iI (sv xs (i + 1))), .int (iI (sv xs (i + 2)))]) (rest := []) (c_X12_permille l K ad2 (sv xs (i + 1)) (sv xs (i + 2)) (sv_r xs (i + 1)) (sv_r xs (i + 2)) pm hPm) ho2 gw_1685 gw_1682 mW_0 rfl gw_1683 gw_1684 gw_12 q_X12_permille rfl rfl rfl ⟨by decide, by decide⟩ rfl (Nat.le_of_ble_eq_true rfl) dL_law_1144 (fun b9 v9 rb9 ho8 hp2 => ?_)
    obtain ⟨m0, m1, m2, m3, m4, m5, m6, m7, m8, m9, m10, m11, rfl, hq8⟩ := hp2
    obtain ⟨t8, g9⟩ := hm b9 m0 m1 m2 m3 m4 m5 m6 m7 m8 m9 m10 m11 hq8
    have t9 := t8 _ hz9
    refine wn_istore C (lv' := [(6, .int (iI b9)), (5, .int (iI z9)), (4, .int (iI i)), (3, .ref (ad1 62)), (2, .ref (ad2 0)), (1, .ref (ad1 0)), (0, .ref b)]) dL_law_1147 (by decide) rfl ?_
    refine wn_aload_n C 4 rfl dL_law_1149 rfl ?_
    refine wn_callMi C (As := []) (rest := []) (c_X12_thrown l K ad2 (fun z => z = m0) (show P_X12_thrown (fun z => z = m0) m0 from rfl)) ho8 gw_1344 gw_1341 mW_0 rfl gw_1342 gw_1343 gw_12 q_X12_thrown rfl rfl rfl ⟨by decide, by decide⟩ rfl (Nat.le_of_ble_eq_true rfl) dL_law_1150 (fun t7 v7 rt7 ho7 hp3 => ?_)
    obtain ⟨rfl, e7⟩ := hp3
    refine wn_iload C 1 rfl dL_law_1153 ?_
    refine wn_icmp_eq C (tgt := 1160) rt7 rz9 dL_law_1155 (by decide) (fun _ => ?_) (fun h => absurd (e7.trans t9) h)
    refine wn_iload C 1 rfl dL_law_1160 ?_
    refine wn_if_ne C (tgt := 1177) rz9 dL_law_1162 (by decide) (fun _ => ?_) (fun h => absurd h (by omega))
    refine wn_goto C (tgt := 1236) dL_law_1177 (by decide) ?_
    refine wn_sub C (lv' := (lvL b ad1 ad2 i)) [2, 3, 4, 5, 6] rfl ?_
    refine wn_widen (c2 := cells + 4) (s2 := slots + 24) (by omega) (by omega) ?_
    exact kk _ _ ⟨_, _, _, _, _, _, _, _, _, _, _, _, _, _, _, _, _, _, _, _, _, _, _, _, _, _, _, _, _, _, _, _, _, _, _, _, _, _, _, _, _, _, _, _, _, _, _, _, _, _, _, _, _, _, _, _, _, _, _, _, _, _, _, _, _, _, _, _, _, _, _, _, _, _, _, _, _, _, _, _, _, _, _, _, _, _, _, _, _, _, _, _, _, _, _, _, _, _, _, _, _, _, _, _, _, _, _, _, _, _, _, rfl, rfl, g9⟩ ho9 ho7
