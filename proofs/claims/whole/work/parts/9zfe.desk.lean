theorem dX11_follows_12 : decode cX11_follows 12 = .ok (.iload 4, 2) := by decide +kernel
theorem dX11_follows_14 : decode cX11_follows 14 = .ok (.invokevirtual 147, 3) := by decide +kernel
theorem dX11_follows_17 : decode cX11_follows 17 = .ok (.ifCond .ne 11, 3) := by decide +kernel
theorem dX11_follows_20 : decode cX11_follows 20 = .ok (.new 115, 3) := by decide +kernel
theorem dX11_follows_23 : decode cX11_follows 23 = .ok (.dup, 1) := by decide +kernel
theorem dX11_follows_24 : decode cX11_follows 24 = .ok (.invokespecial 117, 3) := by decide +kernel
theorem dX11_follows_27 : decode cX11_follows 27 = .ok (.athrow, 1) := by decide +kernel
theorem dX11_follows_28 : decode cX11_follows 28 = .ok (.aload_n 0, 1) := by decide +kernel
theorem dX11_follows_29 : decode cX11_follows 29 = .ok (.getfield 49, 3) := by decide +kernel
theorem dX11_follows_32 : decode cX11_follows 32 = .ok (.invokevirtual 193, 3) := by decide +kernel
theorem dX11_follows_35 : decode cX11_follows 35 = .ok (.aload_n 0, 1) := by decide +kernel
theorem dX11_follows_36 : decode cX11_follows 36 = .ok (.getfield 21, 3) := by decide +kernel
theorem dX11_follows_39 : decode cX11_follows 39 = .ok (.invokevirtual 196, 3) := by decide +kernel
theorem dX11_follows_42 : decode cX11_follows 42 = .ok (.aload_n 0, 1) := by decide +kernel
theorem dX11_follows_43 : decode cX11_follows 43 = .ok (.getfield 21, 3) := by decide +kernel
theorem dX11_follows_46 : decode cX11_follows 46 = .ok (.invokevirtual 199, 3) := by decide +kernel
theorem dX11_follows_49 : decode cX11_follows 49 = .ok (.ifCond .eq 11, 3) := by decide +kernel
theorem dX11_follows_52 : decode cX11_follows 52 = .ok (.new 115, 3) := by decide +kernel
theorem dX11_follows_55 : decode cX11_follows 55 = .ok (.dup, 1) := by decide +kernel
theorem dX11_follows_56 : decode cX11_follows 56 = .ok (.invokespecial 117, 3) := by decide +kernel
theorem dX11_follows_59 : decode cX11_follows 59 = .ok (.athrow, 1) := by decide +kernel
theorem dX11_follows_60 : decode cX11_follows 60 = .ok (.aload_n 0, 1) := by decide +kernel
theorem dX11_follows_61 : decode cX11_follows 61 = .ok (.getfield 35, 3) := by decide +kernel
theorem dX11_follows_64 : decode cX11_follows 64 = .ok (.iload 4, 2) := by decide +kernel
theorem dX11_follows_66 : decode cX11_follows 66 = .ok (.iload_n 3, 1) := by decide +kernel
theorem dX11_follows_67 : decode cX11_follows 67 = .ok (.aload_n 0, 1) := by decide +kernel
theorem dX11_follows_68 : decode cX11_follows 68 = .ok (.getfield 49, 3) := by decide +kernel
theorem dX11_follows_71 : decode cX11_follows 71 = .ok (.getfield 186, 3) := by decide +kernel
theorem dX11_follows_74 : decode cX11_follows 74 = .ok (.invokevirtual 202, 3) := by decide +kernel
theorem dX11_follows_77 : decode cX11_follows 77 = .ok (.ireturn, 1) := by decide +kernel
theorem q_X11_follows : yX11_follows.cls = RX11 ∧ yX11_follows.cls ≠ "java/lang/invoke/MethodHandle" ∧ yX11_follows.cls ≠ "java/lang/invoke/VarHandle" ∧ (parseMethodDescriptor yX11_follows.desc).map (fun d => d.parameters.length) = some 3 := ⟨rfl, by decide, by decide, by decide +kernel⟩
set_option maxRecDepth 100000 in
set_option maxHeartbeats 4000000 in
theorem c_X11_follows (l : Launch) (hst : l.stackTraces = false) (K : wK) (ad : Nat → Nat) {D_hasBoard : Int} {D_beganBlank : Int} {F_mines : Int} {F_moves : Int} {F_changes : Int} {G_width : Int} {G_height : Int} {G_size : Int} {B_parts : Int} {B_longest : Int} {S_groups : Int} {S_askedGroup : Int} {S_taken : Int} {R_waitingCount : Int} {R_metCount : Int} {A_grade : Int} {A_cell : Int} {A_mined : Int} {A_withTotal : Int} {A_numbers : Int} {X_low : Int} {X_high : Int} {Y_low : Int} {Y_high : Int} {F_mined : Int → Int} {F_number : Int → Int} {F_state : Int → Int} {F_cellsIn : Int → Int} {F_unknownNear : Int → Int} {F_hitNear : Int → Int} {F_moveStart : Int → Int} {F_changed : Int → Int} {F_waiting : Int → Int} {F_seen : Int → Int} {G_near : Int → Int} {G_nearEnd : Int → Int} {B_chosen : Int → Int} {B_partOf : Int → Int} {B_rest : Int → Int} {B_unknowns : Int → Int} {B_partStart : Int → Int} {B_cells : Int → Int} {S_minedSet : Int → Int} {S_safeSet : Int → Int} {S_partSet : Int → Int} {S_tally : Int → Int} {S_askedTally : Int → Int} {S_groupOf : Int → Int} {S_groupSize : Int → Int} {S_links : Int → Int} {S_linkEnd : Int → Int} {S_pick : Int → Int} {S_groupMinedSet : Int → Int} {S_groupSafeSet : Int → Int} {O_sums : Int → Int64} {O_nextSums : Int → Int64} {R_found : Int → Int} {R_openEnds : Int → Int} {R_need : Int → Int} {R_waiting : Int → Int} {R_waits : Int → Int} {R_common : Int → Int} {R_met : Int → Int} {A_number : Int → Int} {Q_mined : Int → Int64} {Q_all : Int → Int64} {Q_choices : Int → Int64} {Q_term : Int → Int64} {Q_divisor : Int → Int64} {Q_spare : Int → Int64} {X_limbs : Int → Int64} {X_sum : Int → Int64} {Y_limbs : Int → Int64} {Y_sum : Int → Int64} (x1 : Int) (x2 : Int) (x3 : Int) (rx1 : inR x1) (rx2 : inR x2) (bx3 : x3 = 0 ∨ x3 = 1) (post : Int → (Int) → (Int) → (Int) → (Int) → (Int) → (Int → Int) → (Int → Int) → (Int → Int) → (Int → Int) → (Int → Int) → (Int → Int) → (Int → Int) → (Int → Int) → (Int → Int) → (Int → Int) → (Int → Int) → (Int → Int) → (Int → Int) → (Int → Int) → (Int → Int) → (Int → Int) → (Int → Int) → (Int → Int) → (Int → Int64) → (Int → Int64) → Prop) (px : Int → (Int) → (Int) → (Int) → (Int) → (Int) → (Int → Int) → (Int → Int) → (Int → Int) → (Int → Int) → (Int → Int) → (Int → Int) → (Int → Int) → (Int → Int) → (Int → Int) → (Int → Int) → (Int → Int) → (Int → Int) → (Int → Int) → (Int → Int) → (Int → Int) → (Int → Int) → (Int → Int) → (Int → Int) → (Int → Int64) → (Int → Int64) → Prop) (h : P_X11_follows post px D_hasBoard F_mines G_width G_height G_size B_parts B_longest S_groups S_askedGroup S_taken A_withTotal A_numbers F_number F_state F_cellsIn F_unknownNear F_hitNear G_near G_nearEnd B_chosen B_partOf B_rest B_unknowns B_partStart B_cells S_minedSet S_safeSet S_partSet S_tally S_askedTally S_groupOf S_groupSize S_links S_linkEnd S_pick S_groupMinedSet S_groupSafeSet O_sums O_nextSums A_number x1 x2 x3) : xI l yX11_follows (Cond.code yX11_follows cX11_follows 5 (some .boolean) :: GT) ({ frames := 26, cells := 3, slots := 18, locals := 1560 } : Room) 3 18 [.ref (ad 0), .int (iI x1), .int (iI x2), .int (iI x3)] K ad (dW D_hasBoard D_beganBlank F_mines F_moves F_changes G_width G_height G_size B_parts B_longest S_groups S_askedGroup S_taken R_waitingCount R_metCount A_grade A_cell A_mined A_withTotal A_numbers X_low X_high Y_low Y_high F_mined F_number F_state F_cellsIn F_unknownNear F_hitNear F_moveStart F_changed F_waiting F_seen G_near G_nearEnd B_chosen B_partOf B_rest B_unknowns B_partStart B_cells S_minedSet S_safeSet S_partSet S_tally S_askedTally S_groupOf S_groupSize S_links S_linkEnd S_pick S_groupMinedSet S_groupSafeSet O_sums O_nextSums R_found R_openEnds R_need R_waiting R_waits R_common R_met A_number Q_mined Q_all Q_choices Q_term Q_divisor Q_spare X_limbs X_sum Y_limbs Y_sum) (fun z9 u9 => (z9 = 0 ∨ z9 = 1) ∧ ∃ B_parts9 B_longest9 S_groups9 S_askedGroup9 S_taken9 B_chosen9 B_partOf9 B_rest9 B_unknowns9 B_partStart9 B_cells9 S_minedSet9 S_safeSet9 S_partSet9 S_tally9 S_askedTally9 S_groupOf9 S_groupSize9 S_links9 S_linkEnd9 S_pick9 S_groupMinedSet9 S_groupSafeSet9 O_sums9 O_nextSums9, u9 = (dW D_hasBoard D_beganBlank F_mines F_moves F_changes G_width G_height G_size B_parts9 B_longest9 S_groups9 S_askedGroup9 S_taken9 R_waitingCount R_metCount A_grade A_cell A_mined A_withTotal A_numbers X_low X_high Y_low Y_high F_mined F_number F_state F_cellsIn F_unknownNear F_hitNear F_moveStart F_changed F_waiting F_seen G_near G_nearEnd B_chosen9 B_partOf9 B_rest9 B_unknowns9 B_partStart9 B_cells9 S_minedSet9 S_safeSet9 S_partSet9 S_tally9 S_askedTally9 S_groupOf9 S_groupSize9 S_links9 S_linkEnd9 S_pick9 S_groupMinedSet9 S_groupSafeSet9 O_sums9 O_nextSums9 R_found R_openEnds R_need R_waiting R_waits R_common R_met A_number Q_mined Q_all Q_choices Q_term Q_divisor Q_spare X_limbs X_sum Y_limbs Y_sum) ∧ post z9 B_parts9 B_longest9 S_groups9 S_askedGroup9 S_taken9 B_chosen9 B_partOf9 B_rest9 B_unknowns9 B_partStart9 B_cells9 S_minedSet9 S_safeSet9 S_partSet9 S_tally9 S_askedTally9 S_groupOf9 S_groupSize9 S_links9 S_linkEnd9 S_pick9 S_groupMinedSet9 S_groupSafeSet9 O_sums9 O_nextSums9) (fun k9 u9 => (k9 = 1 ∨ k9 = 2 ∨ k9 = 3) ∧ ∃ B_parts9 B_longest9 S_groups9 S_askedGroup9 S_taken9 B_chosen9 B_partOf9 B_rest9 B_unknowns9 B_partStart9 B_cells9 S_minedSet9 S_safeSet9 S_partSet9 S_tally9 S_askedTally9 S_groupOf9 S_groupSize9 S_links9 S_linkEnd9 S_pick9 S_groupMinedSet9 S_groupSafeSet9 O_sums9 O_nextSums9, u9 = (dW D_hasBoard D_beganBlank F_mines F_moves F_changes G_width G_height G_size B_parts9 B_longest9 S_groups9 S_askedGroup9 S_taken9 R_waitingCount R_metCount A_grade A_cell A_mined A_withTotal A_numbers X_low X_high Y_low Y_high F_mined F_number F_state F_cellsIn F_unknownNear F_hitNear F_moveStart F_changed F_waiting F_seen G_near G_nearEnd B_chosen9 B_partOf9 B_rest9 B_unknowns9 B_partStart9 B_cells9 S_minedSet9 S_safeSet9 S_partSet9 S_tally9 S_askedTally9 S_groupOf9 S_groupSize9 S_links9 S_linkEnd9 S_pick9 S_groupMinedSet9 S_groupSafeSet9 O_sums9 O_nextSums9 R_found R_openEnds R_need R_waiting R_waits R_common R_met A_number Q_mined Q_all Q_choices Q_term Q_divisor Q_spare X_limbs X_sum Y_limbs Y_sum) ∧ px k9 B_parts9 B_longest9 S_groups9 S_askedGroup9 S_taken9 B_chosen9 B_partOf9 B_rest9 B_unknowns9 B_partStart9 B_cells9 S_minedSet9 S_safeSet9 S_partSet9 S_tally9 S_askedTally9 S_groupOf9 S_groupSize9 S_links9 S_linkEnd9 S_pick9 S_groupMinedSet9 S_groupSafeSet9 O_sums9 O_nextSums9) := by
  refine xZ_of (lv0 := [(0, .ref (ad 0)), (1, .int (iI x1)), (2, .int (iI x2)), (3, .int (iI x3))]) hst (by decide) (Nat.le_of_ble_eq_true rfl) rfl (Nat.le_of_ble_eq_true rfl) rfl rfl ?_
  intro p e s m args below meth c Q A C T ret XO thr
  replace C : Cx p ({ frames := 26, cells := 3, slots := 18, locals := 1560 } : Room) m c 0 0 cX11_follows 5 s args RX11 K A := C
  unfold P_X11_follows at h
  refine wa_aload_n C 0 rfl dX11_follows_0 rfl ?_
  refine wa_iload_n C 1 rfl dX11_follows_1 rfl ?_
  refine wa_iload_n C 2 rfl dX11_follows_2 rfl ?_
  refine wa_xVi C T XO (k := 0) (As := [.int (iI x1), .int (iI x2)]) (rest := []) (c_X11_cellAt l hst K ad x1 x2 rx1 rx2 _ _ h) gw_880 gw_877 dW_0 rfl gw_879 gs_38 gw_1 q_X11_cellAt rfl rfl rfl ⟨by decide, by decide⟩ rfl (Nat.le_of_ble_eq_true rfl) dX11_follows_3 ⟨Nat.le_of_ble_eq_true rfl, Nat.le_of_ble_eq_true rfl⟩ ⟨Nat.le_of_ble_eq_true rfl, Nat.le_of_ble_eq_true rfl⟩ (fun z9 u9 hx9 => by obtain ⟨hk9, rfl, h9⟩ := hx9; exact ⟨by omega, _, _, _, _, _, _, _, _, _, _, _, _, _, _, _, _, _, _, _, _, _, _, _, _, _, rfl, h9⟩) (fun c_1 u9 rc_1 hp => ?_)
  replace C := C.more (cells' := 2) (slots' := 12) (Nat.le_of_ble_eq_true rfl) (Nat.le_of_ble_eq_true rfl)
  obtain ⟨rfl, h⟩ := hp
  replace h := h rc_1
  refine wa_istore C dX11_follows_6 (by decide) rfl ?_
  refine wa_aload_n C 1 rfl dX11_follows_8 rfl ?_
  refine wa_getR C 0 0 dW_0 rfl rfl (by decide) okX11 gw_458 dX11_follows_9 ?_
  refine wa_iload C 0 rfl dX11_follows_12 ?_
  refine wa_callVi C (k := 1) (As := [.int (iI c_1)]) (rest := []) (c_X2_isUnknown l K ad c_1 rc_1 _ h) gw_665 gw_960 dW_1 rfl gw_663 gw_664 gw_2 q_X2_isUnknown rfl rfl rfl ⟨by decide, by decide⟩ rfl (Nat.le_of_ble_eq_true rfl) dX11_follows_14 (fun c_3 u9 rc_3 hp => ?_)
  obtain ⟨bc_3, rfl, h⟩ := hp
  replace h := h bc_3
  refine wa_if_ne C (tgt := 28) (inR_b bc_3) dX11_follows_17 (by decide) (fun c_4 => ?_) (fun c_4 => ?_)
  · replace h := h.1 c_4
    refine wa_aload_n C 1 rfl dX11_follows_28 rfl ?_
    refine wa_getR C 0 3 dW_0 rfl rfl (by decide) okX11 gw_461 dX11_follows_29 ?_
    refine wa_callVv C (k := 7) (As := []) (rest := []) (c_X0_chooseNumbers l K ad  _ h) gw_1061 gw_1058 dW_7 rfl gw_1059 gw_1060 gw_8 q_X0_chooseNumbers rfl rfl rfl ⟨by decide, by decide⟩ rfl (Nat.le_of_ble_eq_true rfl) dX11_follows_32 (fun u9 hp => ?_)
    obtain ⟨B_chosen_5, rfl, h⟩ := hp
    refine wa_aload_n C 1 rfl dX11_follows_35 rfl ?_
    refine wa_getR C 0 1 dW_0 rfl rfl (by decide) okX11 gw_459 dX11_follows_36 ?_
    refine wa_callVv C (k := 3) (As := []) (rest := []) (c_X1_split l K ad  _ h) gw_732 gw_1067 dW_3 rfl gw_730 gw_731 gw_4 q_X1_split rfl rfl rfl ⟨by decide, by decide⟩ rfl (Nat.le_of_ble_eq_true rfl) dX11_follows_39 (fun u9 hp => ?_)
    obtain ⟨B_parts_6, B_longest_7, B_partOf_8, B_rest_9, B_unknowns_10, B_partStart_11, B_cells_12, rfl, h⟩ := hp
    refine wa_aload_n C 1 rfl dX11_follows_42 rfl ?_
    refine wa_getR C 0 1 dW_0 rfl rfl (by decide) okX11 gw_459 dX11_follows_43 ?_
    refine wa_callVi C (k := 3) (As := []) (rest := []) (c_X1_isTooLong l K ad  _ h) gw_749 gw_1068 dW_3 rfl gw_747 gw_748 gw_4 q_X1_isTooLong rfl rfl rfl ⟨by decide, by decide⟩ rfl (Nat.le_of_ble_eq_true rfl) dX11_follows_46 (fun c_13 u9 rc_13 hp => ?_)
    obtain ⟨bc_13, rfl, h⟩ := hp
    replace h := h bc_13
    refine wa_if_eq C (tgt := 60) (inR_b bc_13) dX11_follows_49 (by decide) (fun c_14 => ?_) (fun c_14 => ?_)
    · replace h := h.1 c_14
      refine wa_aload_n C 1 rfl dX11_follows_60 rfl ?_
      refine wa_getR C 0 2 dW_0 rfl rfl (by decide) okX11 gw_460 dX11_follows_61 ?_
      refine wa_iload C 0 rfl dX11_follows_64 ?_
      refine wa_iload_n C 4 rfl dX11_follows_66 rfl ?_
      refine wa_aload_n C 1 rfl dX11_follows_67 rfl ?_
      refine wa_getR C 0 3 dW_0 rfl rfl (by decide) okX11 gw_461 dX11_follows_68 ?_
      refine wa_getZ C 7 3 dW_7 rfl rfl (by decide) okX0 gw_348 dX11_follows_71 (fun r_15 => ?_)
      refine wa_callVi C (k := 5) (As := [.int (iI c_1), .int (iI x3), .int (iI A_withTotal)]) (rest := []) (c_X6_isSure l K ad c_1 x3 A_withTotal rc_1 bx3 r_15 _ h) gw_1024 gw_1069 dW_5 rfl gw_1022 gw_1023 gw_6 q_X6_isSure rfl rfl rfl ⟨by decide, by decide⟩ rfl (Nat.le_of_ble_eq_true rfl) dX11_follows_74 (fun c_16 u9 rc_16 hp => ?_)
      obtain ⟨bc_16, S_groups_17, S_askedGroup_18, S_taken_19, B_rest_20, B_unknowns_21, S_minedSet_22, S_safeSet_23, S_partSet_24, S_tally_25, S_askedTally_26, S_groupOf_27, S_groupSize_28, S_links_29, S_linkEnd_30, S_pick_31, S_groupMinedSet_32, S_groupSafeSet_33, O_sums_34, O_nextSums_35, rfl, h⟩ := hp
      replace h := h bc_16
      exact ret (Nat.le_of_ble_eq_true rfl) (Nat.le_of_ble_eq_true rfl) dX11_follows_77 bc_16 ⟨bc_16, _, _, _, _, _, _, _, _, _, _, _, _, _, _, _, _, _, _, _, _, _, _, _, _, _, rfl, h⟩
    · replace h := h.2 c_14
      exact thr 3 (Nat.le_of_ble_eq_true rfl) (Nat.le_of_ble_eq_true rfl) xcl_3 xin_3 xat_3 (Nat.le_of_ble_eq_true rfl) dX11_follows_52 dX11_follows_55 dX11_follows_56 dX11_follows_59 ⟨by decide, _, _, _, _, _, _, _, _, _, _, _, _, _, _, _, _, _, _, _, _, _, _, _, _, _, rfl, h⟩
  · replace h := h.2 c_4
    exact thr 3 (Nat.le_of_ble_eq_true rfl) (Nat.le_of_ble_eq_true rfl) xcl_3 xin_3 xat_3 (Nat.le_of_ble_eq_true rfl) dX11_follows_20 dX11_follows_23 dX11_follows_24 dX11_follows_27 ⟨by decide, _, _, _, _, _, _, _, _, _, _, _, _, _, _, _, _, _, _, _, _, _, _, _, _, _, rfl, h⟩
theorem dX11_isBorderTooLong_0 : decode cX11_isBorderTooLong 0 = .ok (.aload_n 0, 1) := by decide +kernel
theorem dX11_isBorderTooLong_1 : decode cX11_isBorderTooLong 1 = .ok (.getfield 21, 3) := by decide +kernel
theorem dX11_isBorderTooLong_4 : decode cX11_isBorderTooLong 4 = .ok (.invokevirtual 265, 3) := by decide +kernel
theorem dX11_isBorderTooLong_7 : decode cX11_isBorderTooLong 7 = .ok (.aload_n 0, 1) := by decide +kernel
theorem dX11_isBorderTooLong_8 : decode cX11_isBorderTooLong 8 = .ok (.getfield 21, 3) := by decide +kernel
theorem dX11_isBorderTooLong_11 : decode cX11_isBorderTooLong 11 = .ok (.invokevirtual 196, 3) := by decide +kernel
theorem dX11_isBorderTooLong_14 : decode cX11_isBorderTooLong 14 = .ok (.aload_n 0, 1) := by decide +kernel
theorem dX11_isBorderTooLong_15 : decode cX11_isBorderTooLong 15 = .ok (.getfield 21, 3) := by decide +kernel
theorem dX11_isBorderTooLong_18 : decode cX11_isBorderTooLong 18 = .ok (.invokevirtual 199, 3) := by decide +kernel
theorem dX11_isBorderTooLong_21 : decode cX11_isBorderTooLong 21 = .ok (.ireturn, 1) := by decide +kernel
theorem q_X11_isBorderTooLong : yX11_isBorderTooLong.cls = RX11 ∧ yX11_isBorderTooLong.cls ≠ "java/lang/invoke/MethodHandle" ∧ yX11_isBorderTooLong.cls ≠ "java/lang/invoke/VarHandle" ∧ (parseMethodDescriptor yX11_isBorderTooLong.desc).map (fun d => d.parameters.length) = some 0 := ⟨rfl, by decide, by decide, by decide +kernel⟩
set_option maxRecDepth 100000 in
set_option maxHeartbeats 4000000 in
theorem c_X11_isBorderTooLong (l : Launch) (K : wK) (ad : Nat → Nat) {D_hasBoard : Int} {D_beganBlank : Int} {F_mines : Int} {F_moves : Int} {F_changes : Int} {G_width : Int} {G_height : Int} {G_size : Int} {B_parts : Int} {B_longest : Int} {S_groups : Int} {S_askedGroup : Int} {S_taken : Int} {R_waitingCount : Int} {R_metCount : Int} {A_grade : Int} {A_cell : Int} {A_mined : Int} {A_withTotal : Int} {A_numbers : Int} {X_low : Int} {X_high : Int} {Y_low : Int} {Y_high : Int} {F_mined : Int → Int} {F_number : Int → Int} {F_state : Int → Int} {F_cellsIn : Int → Int} {F_unknownNear : Int → Int} {F_hitNear : Int → Int} {F_moveStart : Int → Int} {F_changed : Int → Int} {F_waiting : Int → Int} {F_seen : Int → Int} {G_near : Int → Int} {G_nearEnd : Int → Int} {B_chosen : Int → Int} {B_partOf : Int → Int} {B_rest : Int → Int} {B_unknowns : Int → Int} {B_partStart : Int → Int} {B_cells : Int → Int} {S_minedSet : Int → Int} {S_safeSet : Int → Int} {S_partSet : Int → Int} {S_tally : Int → Int} {S_askedTally : Int → Int} {S_groupOf : Int → Int} {S_groupSize : Int → Int} {S_links : Int → Int} {S_linkEnd : Int → Int} {S_pick : Int → Int} {S_groupMinedSet : Int → Int} {S_groupSafeSet : Int → Int} {O_sums : Int → Int64} {O_nextSums : Int → Int64} {R_found : Int → Int} {R_openEnds : Int → Int} {R_need : Int → Int} {R_waiting : Int → Int} {R_waits : Int → Int} {R_common : Int → Int} {R_met : Int → Int} {A_number : Int → Int} {Q_mined : Int → Int64} {Q_all : Int → Int64} {Q_choices : Int → Int64} {Q_term : Int → Int64} {Q_divisor : Int → Int64} {Q_spare : Int → Int64} {X_limbs : Int → Int64} {X_sum : Int → Int64} {Y_limbs : Int → Int64} {Y_sum : Int → Int64}   (post : Int → (Int) → (Int) → (Int → Int) → (Int → Int) → (Int → Int) → (Int → Int) → (Int → Int) → (Int → Int) → Prop) (h : P_X11_isBorderTooLong post G_size B_parts B_longest F_number F_state F_unknownNear F_hitNear G_near G_nearEnd B_chosen B_partOf B_rest B_unknowns B_partStart B_cells) : mI l yX11_isBorderTooLong (Cond.code yX11_isBorderTooLong cX11_isBorderTooLong 1 (some .boolean) :: GT) ({ frames := 6, cells := 0, slots := 0, locals := 360 } : Room) [.ref (ad 0)] K ad (dW D_hasBoard D_beganBlank F_mines F_moves F_changes G_width G_height G_size B_parts B_longest S_groups S_askedGroup S_taken R_waitingCount R_metCount A_grade A_cell A_mined A_withTotal A_numbers X_low X_high Y_low Y_high F_mined F_number F_state F_cellsIn F_unknownNear F_hitNear F_moveStart F_changed F_waiting F_seen G_near G_nearEnd B_chosen B_partOf B_rest B_unknowns B_partStart B_cells S_minedSet S_safeSet S_partSet S_tally S_askedTally S_groupOf S_groupSize S_links S_linkEnd S_pick S_groupMinedSet S_groupSafeSet O_sums O_nextSums R_found R_openEnds R_need R_waiting R_waits R_common R_met A_number Q_mined Q_all Q_choices Q_term Q_divisor Q_spare X_limbs X_sum Y_limbs Y_sum) (fun z9 u9 => (z9 = 0 ∨ z9 = 1) ∧ ∃ B_parts9 B_longest9 B_chosen9 B_partOf9 B_rest9 B_unknowns9 B_partStart9 B_cells9, u9 = (dW D_hasBoard D_beganBlank F_mines F_moves F_changes G_width G_height G_size B_parts9 B_longest9 S_groups S_askedGroup S_taken R_waitingCount R_metCount A_grade A_cell A_mined A_withTotal A_numbers X_low X_high Y_low Y_high F_mined F_number F_state F_cellsIn F_unknownNear F_hitNear F_moveStart F_changed F_waiting F_seen G_near G_nearEnd B_chosen9 B_partOf9 B_rest9 B_unknowns9 B_partStart9 B_cells9 S_minedSet S_safeSet S_partSet S_tally S_askedTally S_groupOf S_groupSize S_links S_linkEnd S_pick S_groupMinedSet S_groupSafeSet O_sums O_nextSums R_found R_openEnds R_need R_waiting R_waits R_common R_met A_number Q_mined Q_all Q_choices Q_term Q_divisor Q_spare X_limbs X_sum Y_limbs Y_sum) ∧ post z9 B_parts9 B_longest9 B_chosen9 B_partOf9 B_rest9 B_unknowns9 B_partStart9 B_cells9) := by
  refine mZ_of (lv0 := [(0, .ref (ad 0))]) (by decide) (Nat.le_of_ble_eq_true rfl) rfl ?_
  intro p e s m args below meth c Q A C ret
  replace C : Cx p ({ frames := 6, cells := 0, slots := 0, locals := 360 } : Room) m c 0 0 cX11_isBorderTooLong 1 s args RX11 K A := C
  unfold P_X11_isBorderTooLong at h
  refine wa_aload_n C 0 rfl dX11_isBorderTooLong_0 rfl ?_
  refine wa_getR C 0 1 dW_0 rfl rfl (by decide) okX11 gw_459 dX11_isBorderTooLong_1 ?_
  refine wa_callVv C (k := 3) (As := []) (rest := []) (c_X1_chooseAll l K ad  _ h) gw_724 gw_1081 dW_3 rfl gw_722 gw_723 gw_4 q_X1_chooseAll rfl rfl rfl ⟨by decide, by decide⟩ rfl (Nat.le_of_ble_eq_true rfl) dX11_isBorderTooLong_4 (fun u9 hp => ?_)
  obtain ⟨B_chosen_1, rfl, h⟩ := hp
  refine wa_aload_n C 0 rfl dX11_isBorderTooLong_7 rfl ?_
  refine wa_getR C 0 1 dW_0 rfl rfl (by decide) okX11 gw_459 dX11_isBorderTooLong_8 ?_
  refine wa_callVv C (k := 3) (As := []) (rest := []) (c_X1_split l K ad  _ h) gw_732 gw_1067 dW_3 rfl gw_730 gw_731 gw_4 q_X1_split rfl rfl rfl ⟨by decide, by decide⟩ rfl (Nat.le_of_ble_eq_true rfl) dX11_isBorderTooLong_11 (fun u9 hp => ?_)
  obtain ⟨B_parts_2, B_longest_3, B_partOf_4, B_rest_5, B_unknowns_6, B_partStart_7, B_cells_8, rfl, h⟩ := hp
  refine wa_aload_n C 0 rfl dX11_isBorderTooLong_14 rfl ?_
  refine wa_getR C 0 1 dW_0 rfl rfl (by decide) okX11 gw_459 dX11_isBorderTooLong_15 ?_
  refine wa_callVi C (k := 3) (As := []) (rest := []) (c_X1_isTooLong l K ad  _ h) gw_749 gw_1068 dW_3 rfl gw_747 gw_748 gw_4 q_X1_isTooLong rfl rfl rfl ⟨by decide, by decide⟩ rfl (Nat.le_of_ble_eq_true rfl) dX11_isBorderTooLong_18 (fun c_9 u9 rc_9 hp => ?_)
  obtain ⟨bc_9, rfl, h⟩ := hp
  replace h := h bc_9
  exact ret dX11_isBorderTooLong_21 bc_9 ⟨bc_9, _, _, _, _, _, _, _, _, rfl, h⟩
theorem dX11_ways_0 : decode cX11_ways 0 = .ok (.aload_n 0, 1) := by decide +kernel
theorem dX11_ways_1 : decode cX11_ways 1 = .ok (.invokevirtual 163, 3) := by decide +kernel
theorem dX11_ways_4 : decode cX11_ways 4 = .ok (.aload_n 0, 1) := by decide +kernel
theorem dX11_ways_5 : decode cX11_ways 5 = .ok (.invokevirtual 206, 3) := by decide +kernel
theorem dX11_ways_8 : decode cX11_ways 8 = .ok (.ifCond .eq 5, 3) := by decide +kernel
theorem dX11_ways_11 : decode cX11_ways 11 = .ok (.iconst (-1), 1) := by decide +kernel
theorem dX11_ways_12 : decode cX11_ways 12 = .ok (.ireturn, 1) := by decide +kernel
theorem dX11_ways_13 : decode cX11_ways 13 = .ok (.aload_n 0, 1) := by decide +kernel
theorem dX11_ways_14 : decode cX11_ways 14 = .ok (.getfield 56, 3) := by decide +kernel
theorem dX11_ways_17 : decode cX11_ways 17 = .ok (.iconst (-1), 1) := by decide +kernel
theorem dX11_ways_18 : decode cX11_ways 18 = .ok (.invokevirtual 209, 3) := by decide +kernel
theorem dX11_ways_21 : decode cX11_ways 21 = .ok (.aload_n 0, 1) := by decide +kernel
theorem dX11_ways_22 : decode cX11_ways 22 = .ok (.getfield 56, 3) := by decide +kernel
theorem dX11_ways_25 : decode cX11_ways 25 = .ok (.getfield 212, 3) := by decide +kernel
theorem dX11_ways_28 : decode cX11_ways 28 = .ok (.ldc 216, 2) := by decide +kernel
theorem dX11_ways_30 : decode cX11_ways 30 = .ok (.invokestatic 217, 3) := by decide +kernel
theorem dX11_ways_33 : decode cX11_ways 33 = .ok (.l2i, 1) := by decide +kernel
theorem dX11_ways_34 : decode cX11_ways 34 = .ok (.ireturn, 1) := by decide +kernel
theorem q_X11_ways : yX11_ways.cls = RX11 ∧ yX11_ways.cls ≠ "java/lang/invoke/MethodHandle" ∧ yX11_ways.cls ≠ "java/lang/invoke/VarHandle" ∧ (parseMethodDescriptor yX11_ways.desc).map (fun d => d.parameters.length) = some 0 := ⟨rfl, by decide, by decide, by decide +kernel⟩
set_option maxRecDepth 100000 in
set_option maxHeartbeats 4000000 in
theorem c_X11_ways (l : Launch) (hst : l.stackTraces = false) (K : wK) (ad : Nat → Nat) {D_hasBoard : Int} {D_beganBlank : Int} {F_mines : Int} {F_moves : Int} {F_changes : Int} {G_width : Int} {G_height : Int} {G_size : Int} {B_parts : Int} {B_longest : Int} {S_groups : Int} {S_askedGroup : Int} {S_taken : Int} {R_waitingCount : Int} {R_metCount : Int} {A_grade : Int} {A_cell : Int} {A_mined : Int} {A_withTotal : Int} {A_numbers : Int} {X_low : Int} {X_high : Int} {Y_low : Int} {Y_high : Int} {F_mined : Int → Int} {F_number : Int → Int} {F_state : Int → Int} {F_cellsIn : Int → Int} {F_unknownNear : Int → Int} {F_hitNear : Int → Int} {F_moveStart : Int → Int} {F_changed : Int → Int} {F_waiting : Int → Int} {F_seen : Int → Int} {G_near : Int → Int} {G_nearEnd : Int → Int} {B_chosen : Int → Int} {B_partOf : Int → Int} {B_rest : Int → Int} {B_unknowns : Int → Int} {B_partStart : Int → Int} {B_cells : Int → Int} {S_minedSet : Int → Int} {S_safeSet : Int → Int} {S_partSet : Int → Int} {S_tally : Int → Int} {S_askedTally : Int → Int} {S_groupOf : Int → Int} {S_groupSize : Int → Int} {S_links : Int → Int} {S_linkEnd : Int → Int} {S_pick : Int → Int} {S_groupMinedSet : Int → Int} {S_groupSafeSet : Int → Int} {O_sums : Int → Int64} {O_nextSums : Int → Int64} {R_found : Int → Int} {R_openEnds : Int → Int} {R_need : Int → Int} {R_waiting : Int → Int} {R_waits : Int → Int} {R_common : Int → Int} {R_met : Int → Int} {A_number : Int → Int} {Q_mined : Int → Int64} {Q_all : Int → Int64} {Q_choices : Int → Int64} {Q_term : Int → Int64} {Q_divisor : Int → Int64} {Q_spare : Int → Int64} {X_limbs : Int → Int64} {X_sum : Int → Int64} {Y_limbs : Int → Int64} {Y_sum : Int → Int64}   (post : Int → (Int) → (Int) → (Int) → (Int) → (Int) → (Int) → (Int) → (Int) → (Int) → (Int → Int) → (Int → Int) → (Int → Int) → (Int → Int) → (Int → Int) → (Int → Int) → (Int → Int) → (Int → Int) → (Int → Int) → (Int → Int) → (Int → Int) → (Int → Int) → (Int → Int) → (Int → Int) → (Int → Int) → (Int → Int) → (Int → Int) → (Int → Int) → (Int → Int64) → (Int → Int64) → (Int → Int64) → (Int → Int64) → (Int → Int64) → (Int → Int64) → (Int → Int64) → (Int → Int64) → Prop) (px : Int → (Int) → (Int) → (Int) → (Int) → (Int) → (Int) → (Int) → (Int) → (Int) → (Int → Int) → (Int → Int) → (Int → Int) → (Int → Int) → (Int → Int) → (Int → Int) → (Int → Int) → (Int → Int) → (Int → Int) → (Int → Int) → (Int → Int) → (Int → Int) → (Int → Int) → (Int → Int) → (Int → Int) → (Int → Int) → (Int → Int) → (Int → Int) → (Int → Int64) → (Int → Int64) → (Int → Int64) → (Int → Int64) → (Int → Int64) → (Int → Int64) → (Int → Int64) → (Int → Int64) → Prop) (h : P_X11_ways post px D_hasBoard F_mines G_size B_parts B_longest S_groups S_askedGroup S_taken X_low X_high Y_low Y_high F_number F_state F_cellsIn F_unknownNear F_hitNear G_near G_nearEnd B_chosen B_partOf B_rest B_unknowns B_partStart B_cells S_minedSet S_safeSet S_partSet S_tally S_askedTally S_groupOf S_groupSize S_links S_linkEnd S_pick S_groupMinedSet S_groupSafeSet Q_mined Q_all Q_choices Q_term X_limbs X_sum Y_limbs Y_sum) : xI l yX11_ways (Cond.code yX11_ways cX11_ways 1 (some .int) :: GT) ({ frames := 25, cells := 1, slots := 6, locals := 1500 } : Room) 1 6 [.ref (ad 0)] K ad (dW D_hasBoard D_beganBlank F_mines F_moves F_changes G_width G_height G_size B_parts B_longest S_groups S_askedGroup S_taken R_waitingCount R_metCount A_grade A_cell A_mined A_withTotal A_numbers X_low X_high Y_low Y_high F_mined F_number F_state F_cellsIn F_unknownNear F_hitNear F_moveStart F_changed F_waiting F_seen G_near G_nearEnd B_chosen B_partOf B_rest B_unknowns B_partStart B_cells S_minedSet S_safeSet S_partSet S_tally S_askedTally S_groupOf S_groupSize S_links S_linkEnd S_pick S_groupMinedSet S_groupSafeSet O_sums O_nextSums R_found R_openEnds R_need R_waiting R_waits R_common R_met A_number Q_mined Q_all Q_choices Q_term Q_divisor Q_spare X_limbs X_sum Y_limbs Y_sum) (fun z9 u9 => ∃ B_parts9 B_longest9 S_groups9 S_askedGroup9 S_taken9 X_low9 X_high9 Y_low9 Y_high9 B_chosen9 B_partOf9 B_rest9 B_unknowns9 B_partStart9 B_cells9 S_minedSet9 S_safeSet9 S_partSet9 S_tally9 S_askedTally9 S_groupOf9 S_groupSize9 S_links9 S_linkEnd9 S_pick9 S_groupMinedSet9 S_groupSafeSet9 Q_mined9 Q_all9 Q_choices9 Q_term9 X_limbs9 X_sum9 Y_limbs9 Y_sum9, u9 = (dW D_hasBoard D_beganBlank F_mines F_moves F_changes G_width G_height G_size B_parts9 B_longest9 S_groups9 S_askedGroup9 S_taken9 R_waitingCount R_metCount A_grade A_cell A_mined A_withTotal A_numbers X_low9 X_high9 Y_low9 Y_high9 F_mined F_number F_state F_cellsIn F_unknownNear F_hitNear F_moveStart F_changed F_waiting F_seen G_near G_nearEnd B_chosen9 B_partOf9 B_rest9 B_unknowns9 B_partStart9 B_cells9 S_minedSet9 S_safeSet9 S_partSet9 S_tally9 S_askedTally9 S_groupOf9 S_groupSize9 S_links9 S_linkEnd9 S_pick9 S_groupMinedSet9 S_groupSafeSet9 O_sums O_nextSums R_found R_openEnds R_need R_waiting R_waits R_common R_met A_number Q_mined9 Q_all9 Q_choices9 Q_term9 Q_divisor Q_spare X_limbs9 X_sum9 Y_limbs9 Y_sum9) ∧ post z9 B_parts9 B_longest9 S_groups9 S_askedGroup9 S_taken9 X_low9 X_high9 Y_low9 Y_high9 B_chosen9 B_partOf9 B_rest9 B_unknowns9 B_partStart9 B_cells9 S_minedSet9 S_safeSet9 S_partSet9 S_tally9 S_askedTally9 S_groupOf9 S_groupSize9 S_links9 S_linkEnd9 S_pick9 S_groupMinedSet9 S_groupSafeSet9 Q_mined9 Q_all9 Q_choices9 Q_term9 X_limbs9 X_sum9 Y_limbs9 Y_sum9) (fun k9 u9 => (k9 = 1) ∧ ∃ B_parts9 B_longest9 S_groups9 S_askedGroup9 S_taken9 X_low9 X_high9 Y_low9 Y_high9 B_chosen9 B_partOf9 B_rest9 B_unknowns9 B_partStart9 B_cells9 S_minedSet9 S_safeSet9 S_partSet9 S_tally9 S_askedTally9 S_groupOf9 S_groupSize9 S_links9 S_linkEnd9 S_pick9 S_groupMinedSet9 S_groupSafeSet9 Q_mined9 Q_all9 Q_choices9 Q_term9 X_limbs9 X_sum9 Y_limbs9 Y_sum9, u9 = (dW D_hasBoard D_beganBlank F_mines F_moves F_changes G_width G_height G_size B_parts9 B_longest9 S_groups9 S_askedGroup9 S_taken9 R_waitingCount R_metCount A_grade A_cell A_mined A_withTotal A_numbers X_low9 X_high9 Y_low9 Y_high9 F_mined F_number F_state F_cellsIn F_unknownNear F_hitNear F_moveStart F_changed F_waiting F_seen G_near G_nearEnd B_chosen9 B_partOf9 B_rest9 B_unknowns9 B_partStart9 B_cells9 S_minedSet9 S_safeSet9 S_partSet9 S_tally9 S_askedTally9 S_groupOf9 S_groupSize9 S_links9 S_linkEnd9 S_pick9 S_groupMinedSet9 S_groupSafeSet9 O_sums O_nextSums R_found R_openEnds R_need R_waiting R_waits R_common R_met A_number Q_mined9 Q_all9 Q_choices9 Q_term9 Q_divisor Q_spare X_limbs9 X_sum9 Y_limbs9 Y_sum9) ∧ px k9 B_parts9 B_longest9 S_groups9 S_askedGroup9 S_taken9 X_low9 X_high9 Y_low9 Y_high9 B_chosen9 B_partOf9 B_rest9 B_unknowns9 B_partStart9 B_cells9 S_minedSet9 S_safeSet9 S_partSet9 S_tally9 S_askedTally9 S_groupOf9 S_groupSize9 S_links9 S_linkEnd9 S_pick9 S_groupMinedSet9 S_groupSafeSet9 Q_mined9 Q_all9 Q_choices9 Q_term9 X_limbs9 X_sum9 Y_limbs9 Y_sum9) := by
  refine xI_of (lv0 := [(0, .ref (ad 0))]) hst (by decide) (Nat.le_of_ble_eq_true rfl) rfl (Nat.le_of_ble_eq_true rfl) rfl rfl ?_
  intro p e s m args below meth c Q A C T ret XO thr
  replace C : Cx p ({ frames := 25, cells := 1, slots := 6, locals := 1500 } : Room) m c 0 0 cX11_ways 1 s args RX11 K A := C
  unfold P_X11_ways at h
  refine wa_aload_n C 0 rfl dX11_ways_0 rfl ?_
  refine wa_xVv C T XO (k := 0) (As := []) (rest := []) (c_X11_needBoard l hst K ad  _ _ h) gw_884 gw_881 dW_0 rfl gw_883 gs_39 gw_1 q_X11_needBoard rfl rfl rfl ⟨by decide, by decide⟩ rfl (Nat.le_of_ble_eq_true rfl) dX11_ways_1 ⟨Nat.le_of_ble_eq_true rfl, Nat.le_of_ble_eq_true rfl⟩ ⟨Nat.le_of_ble_eq_true rfl, Nat.le_of_ble_eq_true rfl⟩ (fun z9 u9 hx9 => by obtain ⟨hk9, rfl, h9⟩ := hx9; exact ⟨by omega, _, _, _, _, _, _, _, _, _, _, _, _, _, _, _, _, _, _, _, _, _, _, _, _, _, _, _, _, _, _, _, _, _, _, _, rfl, h9⟩) (fun u9 hp => ?_)
  replace C := C.more (cells' := 1) (slots' := 6) (Nat.le_of_ble_eq_true rfl) (Nat.le_of_ble_eq_true rfl)
  obtain ⟨rfl, h⟩ := hp
  refine wa_aload_n C 0 rfl dX11_ways_4 rfl ?_
  refine wa_callVi C (k := 0) (As := []) (rest := []) (c_X11_isBorderTooLong l K ad  _ h) gw_1080 gw_1077 dW_0 rfl gw_1079 gs_43 gw_1 q_X11_isBorderTooLong rfl rfl rfl ⟨by decide, by decide⟩ rfl (Nat.le_of_ble_eq_true rfl) dX11_ways_5 (fun c_2 u9 rc_2 hp => ?_)
  obtain ⟨bc_2, B_parts_3, B_longest_4, B_chosen_5, B_partOf_6, B_rest_7, B_unknowns_8, B_partStart_9, B_cells_10, rfl, h⟩ := hp
  replace h := h bc_2
  refine wa_if_eq C (tgt := 13) (inR_b bc_2) dX11_ways_8 (by decide) (fun c_11 => ?_) (fun c_11 => ?_)
  · replace h := h.1 c_11
    refine wa_aload_n C 0 rfl dX11_ways_13 rfl ?_
    refine wa_getR C 0 4 dW_0 rfl rfl (by decide) okX11 gw_462 dX11_ways_14 ?_
    refine wa_iconst C (z := -1) dX11_ways_17 rfl ?_
    refine wa_callVv C (k := 8) (As := [.int (iI (-1))]) (rest := []) (c_X5_weigh l K ad (-1) (inR_k (-1) rfl) _ h) gw_1085 gw_1082 dW_8 rfl gw_1083 gw_1084 gw_9 q_X5_weigh rfl rfl rfl ⟨by decide, by decide⟩ rfl (Nat.le_of_ble_eq_true rfl) dX11_ways_18 (fun u9 hp => ?_)
    obtain ⟨S_groups_12, S_askedGroup_13, S_taken_14, X_low_15, X_high_16, Y_low_17, Y_high_18, B_rest_19, B_unknowns_20, S_minedSet_21, S_safeSet_22, S_partSet_23, S_tally_24, S_askedTally_25, S_groupOf_26, S_groupSize_27, S_links_28, S_linkEnd_29, S_pick_30, S_groupMinedSet_31, S_groupSafeSet_32, Q_mined_33, Q_all_34, Q_choices_35, Q_term_36, X_limbs_37, X_sum_38, Y_limbs_39, Y_sum_40, rfl, h⟩ := hp
    refine wa_aload_n C 0 rfl dX11_ways_21 rfl ?_
    refine wa_getR C 0 4 dW_0 rfl rfl (by decide) okX11 gw_462 dX11_ways_22 ?_
    refine wa_getR C 8 1 dW_8 rfl rfl (by decide) okX5 gw_409 dX11_ways_25 ?_
    refine wa_ldc C (z := 1000000007) gw_1134 rfl dX11_ways_28 ?_
    refine wa_callSl C (As := [.ref (ad 53), .int (iI 1000000007)]) (rest := []) (c_X10_remainder_53 l K ad 1000000007 (inR_k 1000000007 rfl) _ h) gw_1137 gw_1135 gw_1136 gw_23 q_X10_remainder rfl rfl rfl ⟨by decide, by decide⟩ rfl (Nat.le_of_ble_eq_true rfl) dX11_ways_30 (fun c_41 u9 hp => ?_)
    obtain ⟨rfl, h⟩ := hp
    refine wa_l2i C dX11_ways_33 ?_
    exact ret (Nat.le_of_ble_eq_true rfl) (Nat.le_of_ble_eq_true rfl) dX11_ways_34 (l2I_r _) ⟨_, _, _, _, _, _, _, _, _, _, _, _, _, _, _, _, _, _, _, _, _, _, _, _, _, _, _, _, _, _, _, _, _, _, _, rfl, h⟩
  · replace h := h.2 c_11
    refine wa_iconst C (z := -1) dX11_ways_11 rfl ?_
    exact ret (Nat.le_of_ble_eq_true rfl) (Nat.le_of_ble_eq_true rfl) dX11_ways_12 (inR_k (-1) rfl) ⟨_, _, _, _, _, _, _, _, _, _, _, _, _, _, _, _, _, _, _, _, _, _, _, _, _, _, _, _, _, _, _, _, _, _, _, rfl, h⟩
theorem dX11_weighUnknown_0 : decode cX11_weighUnknown 0 = .ok (.aload_n 0, 1) := by decide +kernel
theorem dX11_weighUnknown_1 : decode cX11_weighUnknown 1 = .ok (.getfield 12, 3) := by decide +kernel
theorem dX11_weighUnknown_4 : decode cX11_weighUnknown 4 = .ok (.iload_n 1, 1) := by decide +kernel
theorem dX11_weighUnknown_5 : decode cX11_weighUnknown 5 = .ok (.invokevirtual 147, 3) := by decide +kernel
theorem dX11_weighUnknown_8 : decode cX11_weighUnknown 8 = .ok (.ifCond .eq 10, 3) := by decide +kernel
theorem dX11_weighUnknown_11 : decode cX11_weighUnknown 11 = .ok (.aload_n 0, 1) := by decide +kernel
theorem dX11_weighUnknown_12 : decode cX11_weighUnknown 12 = .ok (.invokevirtual 206, 3) := by decide +kernel
theorem dX11_weighUnknown_15 : decode cX11_weighUnknown 15 = .ok (.ifCond .eq 11, 3) := by decide +kernel
theorem dX11_weighUnknown_18 : decode cX11_weighUnknown 18 = .ok (.new 115, 3) := by decide +kernel
theorem dX11_weighUnknown_21 : decode cX11_weighUnknown 21 = .ok (.dup, 1) := by decide +kernel
theorem dX11_weighUnknown_22 : decode cX11_weighUnknown 22 = .ok (.invokespecial 117, 3) := by decide +kernel
theorem dX11_weighUnknown_25 : decode cX11_weighUnknown 25 = .ok (.athrow, 1) := by decide +kernel
theorem dX11_weighUnknown_26 : decode cX11_weighUnknown 26 = .ok (.aload_n 0, 1) := by decide +kernel
theorem dX11_weighUnknown_27 : decode cX11_weighUnknown 27 = .ok (.getfield 56, 3) := by decide +kernel
theorem dX11_weighUnknown_30 : decode cX11_weighUnknown 30 = .ok (.iload_n 1, 1) := by decide +kernel
theorem dX11_weighUnknown_31 : decode cX11_weighUnknown 31 = .ok (.invokevirtual 209, 3) := by decide +kernel
theorem dX11_weighUnknown_34 : decode cX11_weighUnknown 34 = .ok (.aload_n 0, 1) := by decide +kernel
theorem dX11_weighUnknown_35 : decode cX11_weighUnknown 35 = .ok (.getfield 56, 3) := by decide +kernel
theorem dX11_weighUnknown_38 : decode cX11_weighUnknown 38 = .ok (.getfield 212, 3) := by decide +kernel
theorem dX11_weighUnknown_41 : decode cX11_weighUnknown 41 = .ok (.invokestatic 268, 3) := by decide +kernel
theorem dX11_weighUnknown_44 : decode cX11_weighUnknown 44 = .ok (.ifCond .eq 11, 3) := by decide +kernel
theorem dX11_weighUnknown_47 : decode cX11_weighUnknown 47 = .ok (.new 115, 3) := by decide +kernel
theorem dX11_weighUnknown_50 : decode cX11_weighUnknown 50 = .ok (.dup, 1) := by decide +kernel
theorem dX11_weighUnknown_51 : decode cX11_weighUnknown 51 = .ok (.invokespecial 117, 3) := by decide +kernel
theorem dX11_weighUnknown_54 : decode cX11_weighUnknown 54 = .ok (.athrow, 1) := by decide +kernel
theorem dX11_weighUnknown_55 : decode cX11_weighUnknown 55 = .ok (.return_, 1) := by decide +kernel
theorem q_X11_weighUnknown : yX11_weighUnknown.cls = RX11 ∧ yX11_weighUnknown.cls ≠ "java/lang/invoke/MethodHandle" ∧ yX11_weighUnknown.cls ≠ "java/lang/invoke/VarHandle" ∧ (parseMethodDescriptor yX11_weighUnknown.desc).map (fun d => d.parameters.length) = some 1 := ⟨rfl, by decide, by decide, by decide +kernel⟩
