set_option maxRecDepth 100000 in
set_option maxHeartbeats 4000000 in
theorem law_make {p : Program} {l : Launch} {e : Env} {s : State} {m : MethodId} {args : Array Value} {below : List Frame} {meth : Method} {c : Code} {Q : State → Prop} {K : wK} {A : Nat → Prop} {ad1 ad2 : Nat → Nat} {b L : Nat} {xs : Nat → Int32} {cells slots : Nat} (hst : l.stackTraces = false) (C : Cx p room_1 m c cells slots cL_law 7 s args RL K A) (T : tOK A s) (S : SX b L xs A s) {n i : Int} (hn : 0 ≤ n ∧ n ≤ 511) (hi : 0 ≤ i ∧ i + 7 ≤ L) (hc : cells + 4 ≤ room_1.cells) (hs : slots + 24 ≤ room_1.slots) {u1 u2 : List AC} (hg : LG n u1 u2) (ho1 : okW u1) (ho2 : okW u2) (kk : ∀ u1 u2, LG (n + 1) u1 u2 → okW u1 → okW u2 → WN p l e room_1 s m args below meth c (cells + 4) (slots + 24) Q K 7 A 1236 (lvL b ad1 ad2 i) [] (wG K ad1 u1 ++ wG K ad2 u2)) : WN p l e room_1 s m args below meth c cells slots Q K 7 A 120 (lvL b ad1 ad2 i) [] (wG K ad1 u1 ++ wG K ad2 u2) := by
  obtain ⟨h0, h7⟩ := hi
  obtain ⟨D_hasBoard, D_beganBlank, F_mines, F_moves, F_changes, G_width, G_height, G_size, B_parts, B_longest, S_groups, S_askedGroup, S_taken, R_waitingCount, R_metCount, A_grade, A_cell, A_mined, A_withTotal, A_numbers, hg⟩ := hg
  obtain ⟨X_low, X_high, Y_low, Y_high, F_mined, F_number, F_state, F_cellsIn, F_unknownNear, F_hitNear, F_moveStart, F_changed, F_waiting, F_seen, G_near, G_nearEnd, B_chosen, B_partOf, B_rest, B_unknowns, hg⟩ := hg
  obtain ⟨B_partStart, B_cells, S_minedSet, S_safeSet, S_partSet, S_tally, S_askedTally, S_groupOf, S_groupSize, S_links, S_linkEnd, S_pick, S_groupMinedSet, S_groupSafeSet, O_sums, O_nextSums, R_found, R_openEnds, R_need, R_waiting, hg⟩ := hg
  obtain ⟨R_waits, R_common, R_met, A_number, Q_mined, Q_all, Q_choices, Q_term, Q_divisor, Q_spare, X_limbs, X_sum, Y_limbs, Y_sum, W_out, M_thrown, M_w, M_h, M_cells, M_shape, hg⟩ := hg
  obtain ⟨M_isBoard, M_isBlank, M_lives, M_moves, M_parts, M_numbers, M_grade, M_reasons, M_total, M_near, M_degree, M_mine, M_state, M_history, M_oldLives, M_safe, M_mined, M_used, M_partOf, M_placeOf, hg⟩ := hg
  obtain ⟨M_partSize, M_ways, M_with, M_masks, M_rests, M_bits, M_reach, M_more, M_reason, M_big, M_region, rfl, rfl, g⟩ := hg
  obtain ⟨pn, px, hP, hpn, hpx⟩ := g_make (x1 := (sv xs (i + 1))) (x2 := (sv xs (i + 2))) (x3 := (sv xs (i + 3))) (x4 := (sv xs (i + 4))) (x5 := (sv xs (i + 5))) (x6 := (sv xs (i + 6))) (n := n) (D_hasBoard := D_hasBoard) (D_beganBlank := D_beganBlank) (F_mines := F_mines) (F_moves := F_moves) (F_changes := F_changes) (G_width := G_width) (G_height := G_height) (G_size := G_size) (B_parts := B_parts) (B_longest := B_longest) (S_groups := S_groups) (S_askedGroup := S_askedGroup) (S_taken := S_taken) (R_waitingCount := R_waitingCount) (R_metCount := R_metCount) (A_grade := A_grade) (A_cell := A_cell) (A_mined := A_mined) (A_withTotal := A_withTotal) (A_numbers := A_numbers) (X_low := X_low) (X_high := X_high) (Y_low := Y_low) (Y_high := Y_high) (F_mined := F_mined) (F_number := F_number) (F_state := F_state) (F_cellsIn := F_cellsIn) (F_unknownNear := F_unknownNear) (F_hitNear := F_hitNear) (F_moveStart := F_moveStart) (F_changed := F_changed) (F_waiting := F_waiting) (F_seen := F_seen) (G_near := G_near) (G_nearEnd := G_nearEnd) (B_chosen := B_chosen) (B_partOf := B_partOf) (B_rest := B_rest) (B_unknowns := B_unknowns) (B_partStart := B_partStart) (B_cells := B_cells) (S_minedSet := S_minedSet) (S_safeSet := S_safeSet) (S_partSet := S_partSet) (S_tally := S_tally) (S_askedTally := S_askedTally) (S_groupOf := S_groupOf) (S_groupSize := S_groupSize) (S_links := S_links) (S_linkEnd := S_linkEnd) (S_pick := S_pick) (S_groupMinedSet := S_groupMinedSet) (S_groupSafeSet := S_groupSafeSet) (O_sums := O_sums) (O_nextSums := O_nextSums) (R_found := R_found) (R_openEnds := R_openEnds) (R_need := R_need) (R_waiting := R_waiting) (R_waits := R_waits) (R_common := R_common) (R_met := R_met) (A_number := A_number) (Q_mined := Q_mined) (Q_all := Q_all) (Q_choices := Q_choices) (Q_term := Q_term) (Q_divisor := Q_divisor) (Q_spare := Q_spare) (X_limbs := X_limbs) (X_sum := X_sum) (Y_limbs := Y_limbs) (Y_sum := Y_sum) (M_thrown := M_thrown) (M_w := M_w) (M_h := M_h) (M_cells := M_cells) (M_shape := M_shape) (M_isBoard := M_isBoard) (M_isBlank := M_isBlank) (M_lives := M_lives) (M_moves := M_moves) (M_parts := M_parts) (M_numbers := M_numbers) (M_grade := M_grade) (M_reasons := M_reasons) (M_total := M_total) (M_near := M_near) (M_degree := M_degree) (M_mine := M_mine) (M_state := M_state) (M_history := M_history) (M_oldLives := M_oldLives) (M_safe := M_safe) (M_mined := M_mined) (M_used := M_used) (M_partOf := M_partOf) (M_placeOf := M_placeOf) (M_partSize := M_partSize) (M_ways := M_ways) (M_with := M_with) (M_masks := M_masks) (M_rests := M_rests) (M_bits := M_bits) (M_reach := M_reach) (M_more := M_more) (M_reason := M_reason) (M_big := M_big) (M_region := M_region) (sv_r xs (i + 1)) (sv_r xs (i + 2)) (sv_r xs (i + 3)) (sv_r xs (i + 4)) (sv_r xs (i + 5)) (sv_r xs (i + 6)) hn g
  refine wn_aload_n C 3 rfl dL_law_120 rfl ?_
  refine wn_aload_n C 4 rfl dL_law_121 rfl ?_
  refine wn_iload C 0 rfl dL_law_122 ?_
  refine wn_iconst C (z := 1) dL_law_124 rfl ?_
  refine wn_iadd C dL_law_125 ?_
  refine wn_scr C S (i := i + 1) (by omega) (by omega) dL_law_126 ?_
  refine wn_aload_n C 4 rfl dL_law_127 rfl ?_
  refine wn_iload C 0 rfl dL_law_128 ?_
  refine wn_iconst C (z := 2) dL_law_130 rfl ?_
  refine wn_iadd C dL_law_131 ?_
  refine wn_scr C S (i := i + 2) (by omega) (by omega) dL_law_132 ?_
  refine wn_aload_n C 4 rfl dL_law_133 rfl ?_
  refine wn_iload C 0 rfl dL_law_134 ?_
  refine wn_iconst C (z := 3) dL_law_136 rfl ?_
  refine wn_iadd C dL_law_137 ?_
  refine wn_scr C S (i := i + 3) (by omega) (by omega) dL_law_138 ?_
  refine wn_aload_n C 4 rfl dL_law_139 rfl ?_
  refine wn_iload C 0 rfl dL_law_140 ?_
  refine wn_iconst C (z := 4) dL_law_142 rfl ?_
  refine wn_iadd C dL_law_143 ?_
  refine wn_scr C S (i := i + 4) (by omega) (by omega) dL_law_144 ?_
  refine wn_aload_n C 4 rfl dL_law_145 rfl ?_
  refine wn_iload C 0 rfl dL_law_146 ?_
  refine wn_iconst C (z := 5) dL_law_148 rfl ?_
  refine wn_iadd C dL_law_149 ?_
  refine wn_scr C S (i := i + 5) (by omega) (by omega) dL_law_150 ?_
  refine wn_aload_n C 4 rfl dL_law_151 rfl ?_
  refine wn_iload C 0 rfl dL_law_152 ?_
  refine wn_bipush C (z := 6) dL_law_154 (by decide) ?_
  refine wn_iadd C dL_law_156 ?_
  refine wn_scr C S (i := i + 6) (by omega) (by omega) dL_law_157 ?_
  refine wn_aload_n C 1 rfl dL_law_158 rfl ?_
  refine wn_callE C T (n := 8) (As := [.ref (ad1 0), .int (iI (sv xs (i + 1))), .int (iI (sv xs (i + 2))), .int (iI (sv xs (i + 3))), .int (iI (sv xs (i + 4))), .int (iI (sv xs (i + 5))), .int (iI (sv xs (i + 6))), .ref (ad1 62)]) (rest := []) (e_make l hst K ad1 (sv xs (i + 1)) (sv xs (i + 2)) (sv xs (i + 3)) (sv xs (i + 4)) (sv xs (i + 5)) (sv xs (i + 6)) (sv_r xs (i + 1)) (sv_r xs (i + 2)) (sv_r xs (i + 3)) (sv_r xs (i + 4)) (sv_r xs (i + 5)) (sv_r xs (i + 6)) pn px hP) ho1 (gt_3 5 (by decide +kernel) rfl) gw_483 gw_484 gw_0 ⟨by decide, by decide, by decide +kernel⟩ rfl rfl rfl ⟨by decide, by decide⟩ rfl (Nat.le_of_ble_eq_true rfl) dL_law_159 ⟨Nat.le_trans (by omega) hc, Nat.le_trans (by omega) hs⟩ (fun z9 u9 rz9 ho9 hp => ?_)
  replace C := C.more (cells' := cells + 1) (slots' := slots + 6) (Nat.le_trans (by omega) hc) (Nat.le_trans (by omega) hs)
  refine wn_istore C (lv' := [(5, .int (iI z9)), (4, .int (iI i)), (3, .ref (ad1 62)), (2, .ref (ad2 0)), (1, .ref (ad1 0)), (0, .ref b)]) dL_law_162 (by decide) rfl ?_
  rcases hp with hp | hp
  · skip
    obtain ⟨rfl, r9, w0, w1, w2, w3, w4, w5, w6, w7, w8, w9, w10, w11, w12, w13, w14, w15, w16, w17, hp⟩ := hp
    obtain ⟨w18, w19, w20, w21, w22, w23, w24, w25, w26, w27, w28, w29, w30, w31, w32, w33, w34, w35, w36, w37, hp⟩ := hp
    obtain ⟨w38, w39, w40, w41, w42, w43, w44, w45, w46, w47, w48, w49, w50, w51, w52, w53, w54, w55, w56, hr9, rfl, hq9⟩ := hp
    obtain ⟨pm, hPm, hm⟩ := hpn r9 w0 w1 w2 w3 w4 w5 w6 w7 w8 w9 w10 w11 w12 w13 w14 w15 w16 w17 w18 w19 w20 w21 w22 w23 w24 w25 w26 w27 w28 w29 w30 w31 w32 w33 w34 w35 w36 w37 w38 w39 w40 w41 w42 w43 w44 w45 w46 w47 w48 w49 w50 w51 w52 w53 w54 w55 w56 hq9
    refine wn_aload_n C 3 rfl dL_law_164 rfl ?_
    refine wn_aload_n C 5 rfl dL_law_165 rfl ?_
    refine wn_iload C 1 rfl dL_law_166 ?_
    refine wn_iconst C (z := 1) dL_law_168 rfl ?_
    refine wn_iadd C dL_law_169 ?_
    refine wn_scr C S (i := i + 1) (by omega) (by omega) dL_law_170 ?_
    refine wn_aload_n C 5 rfl dL_law_171 rfl ?_
    refine wn_iload C 1 rfl dL_law_172 ?_
    refine wn_iconst C (z := 2) dL_law_174 rfl ?_
    refine wn_iadd C dL_law_175 ?_
    refine wn_scr C S (i := i + 2) (by omega) (by omega) dL_law_176 ?_
    refine wn_aload_n C 5 rfl dL_law_177 rfl ?_
    refine wn_iload C 1 rfl dL_law_178 ?_
    refine wn_iconst C (z := 3) dL_law_180 rfl ?_
    refine wn_iadd C dL_law_181 ?_
    refine wn_scr C S (i := i + 3) (by omega) (by omega) dL_law_182 ?_
    refine wn_aload_n C 5 rfl dL_law_183 rfl ?_
    refine wn_iload C 1 rfl dL_law_184 ?_
    refine wn_iconst C (z := 4) dL_law_186 rfl ?_
    refine wn_iadd C dL_law_187 ?_
    refine wn_scr C S (i := i + 4) (by omega) (by omega) dL_law_188 ?_
    refine wn_aload_n C 5 rfl dL_law_189 rfl ?_
    refine wn_iload C 1 rfl dL_law_190 ?_
    refine wn_iconst C (z := 5) dL_law_192 rfl ?_
    refine wn_iadd C dL_law_193 ?_
    refine wn_scr C S (i := i + 5) (by omega) (by omega) dL_law_194 ?_
    refine wn_aload_n C 5 rfl dL_law_195 rfl ?_
    refine wn_iload C 1 rfl dL_law_196 ?_
    refine wn_bipush C (z := 6) dL_law_198 (by decide) ?_
    refine wn_iadd C dL_law_200 ?_
    refine wn_scr C S (i := i + 6) (by omega) (by omega) dL_law_201 ?_
    refine wn_callMi C (As := [.int (iI (sv xs (i + 1))), .int (iI (sv xs (i + 2))), .int (iI (sv xs (i + 3))), .int (iI (sv xs (i + 4))), .int (iI (sv xs (i + 5))), .int (iI (sv xs (i + 6)))]) (rest := []) (c_X12_make l K ad2 (sv xs (i + 1)) (sv xs (i + 2)) (sv xs (i + 3)) (sv xs (i + 4)) (sv xs (i + 5)) (sv xs (i + 6)) (sv_r xs (i + 1)) (sv_r xs (i + 2)) (sv_r xs (i + 3)) (sv_r xs (i + 4)) (sv_r xs (i + 5)) (sv_r xs (i + 6)) pm hPm) ho2 gw_1348 gw_1345 mW_0 rfl gw_1346 gw_1347 gw_12 q_X12_make rfl rfl rfl ⟨by decide, by decide⟩ rfl (Nat.le_of_ble_eq_true rfl) dL_law_202 (fun b9 v9 rb9 ho8 hp2 => ?_)
    obtain ⟨m0, m1, m2, m3, m4, m5, m6, m7, m8, m9, m10, m11, m12, m13, m14, m15, m16, m17, m18, m19, m20, m21, m22, m23, m24, m25, m26, m27, m28, m29, rfl, hq8⟩ := hp2
    obtain ⟨t9, eb, g9⟩ := hm b9 m0 m1 m2 m3 m4 m5 m6 m7 m8 m9 m10 m11 m12 m13 m14 m15 m16 m17 m18 m19 m20 m21 m22 m23 m24 m25 m26 m27 m28 m29 hq8
    refine wn_istore C (lv' := [(6, .int (iI b9)), (5, .int (iI 0)), (4, .int (iI i)), (3, .ref (ad1 62)), (2, .ref (ad2 0)), (1, .ref (ad1 0)), (0, .ref b)]) dL_law_205 (by decide) rfl ?_
    refine wn_aload_n C 4 rfl dL_law_207 rfl ?_
    refine wn_callMi C (As := []) (rest := []) (c_X12_thrown l K ad2 (fun z => z = m0) (show P_X12_thrown (fun z => z = m0) m0 from rfl)) ho8 gw_1344 gw_1341 mW_0 rfl gw_1342 gw_1343 gw_12 q_X12_thrown rfl rfl rfl ⟨by decide, by decide⟩ rfl (Nat.le_of_ble_eq_true rfl) dL_law_208 (fun t7 v7 rt7 ho7 hp3 => ?_)
    obtain ⟨rfl, e7⟩ := hp3
    refine wn_iload C 1 rfl dL_law_211 ?_
    refine wn_icmp_eq C (tgt := 218) rt7 rz9 dL_law_213 (by decide) (fun _ => ?_) (fun h => absurd (e7.trans t9) h)
    refine wn_iload C 1 rfl dL_law_218 ?_
    refine wn_if_ne C (tgt := 235) rz9 dL_law_220 (by decide) (fun h => absurd rfl h) (fun _ => ?_)
    refine wn_aload_n C 3 rfl dL_law_223 rfl ?_
    refine wn_iconst C (z := 0) dL_law_224 rfl ?_
    refine wn_lald C 62 el_62 (by decide) dL_law_225 (by decide) (by decide) ?_
    refine wn_iload C 0 rfl dL_law_226 ?_
    refine wn_i2l C rb9 dL_law_228 ?_
    refine wn_lcmp C dL_law_229 ?_
    refine wn_if_eq C (tgt := 235) (lcI_r _ _) dL_law_230 (by decide) (fun _ => ?_) (fun h => absurd (lc_out eb) h)
    refine wn_goto C (tgt := 1236) dL_law_235 (by decide) ?_
    refine wn_sub C (lv' := (lvL b ad1 ad2 i)) [2, 3, 4, 5, 6] rfl ?_
    refine wn_widen (c2 := cells + 4) (s2 := slots + 24) (by omega) (by omega) ?_
    exact kk _ _ ⟨_, _, _, _, _, _, _, _, _, _, _, _, _, _, _, _, _, _, _, _, _, _, _, _, _, _, _, _, _, _, _, _, _, _, _, _, _, _, _, _, _, _, _, _, _, _, _, _, _, _, _, _, _, _, _, _, _, _, _, _, _, _, _, _, _, _, _, _, _, _, _, _, _, _, _, _, _, _, _, _, _, _, _, _, _, _, _, _, _, _, _, _, _, _, _, _, _, _, _, _, _, _, _, _, _, _, _, _, _, _, _, rfl, rfl, g9⟩ ho9 ho7
  · skip
    obtain ⟨k9, w0, w1, w2, w3, w4, w5, w6, w7, w8, w9, w10, w11, w12, w13, w14, w15, w16, w17, w18, hp⟩ := hp
    obtain ⟨w19, w20, w21, w22, w23, w24, w25, w26, w27, w28, w29, w30, w31, w32, w33, w34, w35, w36, w37, w38, hp⟩ := hp
    obtain ⟨w39, w40, w41, w42, w43, w44, w45, w46, w47, w48, w49, w50, w51, w52, w53, w54, w55, w56, rfl, hq9, hz9⟩ := hp
    obtain ⟨pm, hPm, hm⟩ := hpx k9 w0 w1 w2 w3 w4 w5 w6 w7 w8 w9 w10 w11 w12 w13 w14 w15 w16 w17 w18 w19 w20 w21 w22 w23 w24 w25 w26 w27 w28 w29 w30 w31 w32 w33 w34 w35 w36 w37 w38 w39 w40 w41 w42 w43 w44 w45 w46 w47 w48 w49 w50 w51 w52 w53 w54 w55 w56 hq9
    refine wn_aload_n C 3 rfl dL_law_164 rfl ?_
    refine wn_aload_n C 5 rfl dL_law_165 rfl ?_
    refine wn_iload C 1 rfl dL_law_166 ?_
    refine wn_iconst C (z := 1) dL_law_168 rfl ?_
    refine wn_iadd C dL_law_169 ?_
    refine wn_scr C S (i := i + 1) (by omega) (by omega) dL_law_170 ?_
    refine wn_aload_n C 5 rfl dL_law_171 rfl ?_
    refine wn_iload C 1 rfl dL_law_172 ?_
    refine wn_iconst C (z := 2) dL_law_174 rfl ?_
    refine wn_iadd C dL_law_175 ?_
    refine wn_scr C S (i := i + 2) (by omega) (by omega) dL_law_176 ?_
    refine wn_aload_n C 5 rfl dL_law_177 rfl ?_
    refine wn_iload C 1 rfl dL_law_178 ?_
    refine wn_iconst C (z := 3) dL_law_180 rfl ?_
    refine wn_iadd C dL_law_181 ?_
    refine wn_scr C S (i := i + 3) (by omega) (by omega) dL_law_182 ?_
    refine wn_aload_n C 5 rfl dL_law_183 rfl ?_
    refine wn_iload C 1 rfl dL_law_184 ?_
    refine wn_iconst C (z := 4) dL_law_186 rfl ?_
    refine wn_iadd C dL_law_187 ?_
    refine wn_scr C S (i := i + 4) (by omega) (by omega) dL_law_188 ?_
    refine wn_aload_n C 5 rfl dL_law_189 rfl ?_
    refine wn_iload C 1 rfl dL_law_190 ?_
    refine wn_iconst C (z := 5) dL_law_192 rfl ?_
    refine wn_iadd C dL_law_193 ?_
    refine wn_scr C S (i := i + 5) (by omega) (by omega) dL_law_194 ?_
    refine wn_aload_n C 5 rfl dL_law_195 rfl ?_
    refine wn_iload C 1 rfl dL_law_196 ?_
    refine wn_bipush C (z := 6) dL_law_198 (by decide) ?_
    refine wn_iadd C dL_law_200 ?_
    refine wn_scr C S (i := i + 6) (by omega) (by omega) dL_law_201 ?_
    refine wn_callMi C (As := [.int (iI (sv xs (i + 1))), .int (iI (sv xs (i + 2))), .int (iI (sv xs (i + 3))), .int (iI (sv xs (i + 4))), .int (iI (sv xs (i + 5))), .int (iI (sv xs (i + 6)))]) (rest := []) (c_X12_make l K ad2 (sv xs (i + 1)) (sv xs (i + 2)) (sv xs (i + 3)) (sv xs (i + 4)) (sv xs (i + 5)) (sv xs (i + 6)) (sv_r xs (i + 1)) (sv_r xs (i + 2)) (sv_r xs (i + 3)) (sv_r xs (i + 4)) (sv_r xs (i + 5)) (sv_r xs (i + 6)) pm hPm) ho2 gw_1348 gw_1345 mW_0 rfl gw_1346 gw_1347 gw_12 q_X12_make rfl rfl rfl ⟨by decide, by decide⟩ rfl (Nat.le_of_ble_eq_true rfl) dL_law_202 (fun b9 v9 rb9 ho8 hp2 => ?_)
    obtain ⟨m0, m1, m2, m3, m4, m5, m6, m7, m8, m9, m10, m11, m12, m13, m14, m15, m16, m17, m18, m19, m20, m21, m22, m23, m24, m25, m26, m27, m28, m29, rfl, hq8⟩ := hp2
    obtain ⟨t8, g9⟩ := hm b9 m0 m1 m2 m3 m4 m5 m6 m7 m8 m9 m10 m11 m12 m13 m14 m15 m16 m17 m18 m19 m20 m21 m22 m23 m24 m25 m26 m27 m28 m29 hq8
    have t9 := t8 _ hz9
    refine wn_istore C (lv' := [(6, .int (iI b9)), (5, .int (iI z9)), (4, .int (iI i)), (3, .ref (ad1 62)), (2, .ref (ad2 0)), (1, .ref (ad1 0)), (0, .ref b)]) dL_law_205 (by decide) rfl ?_
    refine wn_aload_n C 4 rfl dL_law_207 rfl ?_
    refine wn_callMi C (As := []) (rest := []) (c_X12_thrown l K ad2 (fun z => z = m0) (show P_X12_thrown (fun z => z = m0) m0 from rfl)) ho8 gw_1344 gw_1341 mW_0 rfl gw_1342 gw_1343 gw_12 q_X12_thrown rfl rfl rfl ⟨by decide, by decide⟩ rfl (Nat.le_of_ble_eq_true rfl) dL_law_208 (fun t7 v7 rt7 ho7 hp3 => ?_)
    obtain ⟨rfl, e7⟩ := hp3
    refine wn_iload C 1 rfl dL_law_211 ?_
    refine wn_icmp_eq C (tgt := 218) rt7 rz9 dL_law_213 (by decide) (fun _ => ?_) (fun h => absurd (e7.trans t9) h)
    refine wn_iload C 1 rfl dL_law_218 ?_
    refine wn_if_ne C (tgt := 235) rz9 dL_law_220 (by decide) (fun _ => ?_) (fun h => absurd h (by omega))
    refine wn_goto C (tgt := 1236) dL_law_235 (by decide) ?_
    refine wn_sub C (lv' := (lvL b ad1 ad2 i)) [2, 3, 4, 5, 6] rfl ?_
    refine wn_widen (c2 := cells + 4) (s2 := slots + 24) (by omega) (by omega) ?_
    exact kk _ _ ⟨_, _, _, _, _, _, _, _, _, _, _, _, _, _, _, _, _, _, _, _, _, _, _, _, _, _, _, _, _, _, _, _, _, _, _, _, _, _, _, _, _, _, _, _, _, _, _, _, _, _, _, _, _, _, _, _, _, _, _, _, _, _, _, _, _, _, _, _, _, _, _, _, _, _, _, _, _, _, _, _, _, _, _, _, _, _, _, _, _, _, _, _, _, _, _, _, _, _, _, _, _, _, _, _, _, _, _, _, _, _, _, rfl, rfl, g9⟩ ho9 ho7
