set_option maxRecDepth 100000 in
set_option maxHeartbeats 4000000 in
theorem c_X11_needBoard (l : Launch) (hst : l.stackTraces = false) (K : wK) (ad : Nat → Nat) {D_hasBoard : Int} {D_beganBlank : Int} {F_mines : Int} {F_moves : Int} {F_changes : Int} {G_width : Int} {G_height : Int} {G_size : Int} {B_parts : Int} {B_longest : Int} {S_groups : Int} {S_askedGroup : Int} {S_taken : Int} {R_waitingCount : Int} {R_metCount : Int} {A_grade : Int} {A_cell : Int} {A_mined : Int} {A_withTotal : Int} {A_numbers : Int} {X_low : Int} {X_high : Int} {Y_low : Int} {Y_high : Int} {F_mined : Int → Int} {F_number : Int → Int} {F_state : Int → Int} {F_cellsIn : Int → Int} {F_unknownNear : Int → Int} {F_hitNear : Int → Int} {F_moveStart : Int → Int} {F_changed : Int → Int} {F_waiting : Int → Int} {F_seen : Int → Int} {G_near : Int → Int} {G_nearEnd : Int → Int} {B_chosen : Int → Int} {B_partOf : Int → Int} {B_rest : Int → Int} {B_unknowns : Int → Int} {B_partStart : Int → Int} {B_cells : Int → Int} {S_minedSet : Int → Int} {S_safeSet : Int → Int} {S_partSet : Int → Int} {S_tally : Int → Int} {S_askedTally : Int → Int} {S_groupOf : Int → Int} {S_groupSize : Int → Int} {S_links : Int → Int} {S_linkEnd : Int → Int} {S_pick : Int → Int} {S_groupMinedSet : Int → Int} {S_groupSafeSet : Int → Int} {O_sums : Int → Int64} {O_nextSums : Int → Int64} {R_found : Int → Int} {R_openEnds : Int → Int} {R_need : Int → Int} {R_waiting : Int → Int} {R_waits : Int → Int} {R_common : Int → Int} {R_met : Int → Int} {A_number : Int → Int} {Q_mined : Int → Int64} {Q_all : Int → Int64} {Q_choices : Int → Int64} {Q_term : Int → Int64} {Q_divisor : Int → Int64} {Q_spare : Int → Int64} {X_limbs : Int → Int64} {X_sum : Int → Int64} {Y_limbs : Int → Int64} {Y_sum : Int → Int64}   (post : Prop) (px : Int → Prop) (h : P_X11_needBoard post px D_hasBoard) : xV l yX11_needBoard (Cond.code yX11_needBoard cX11_needBoard 1 none :: GT) ({ frames := 7, cells := 1, slots := 6, locals := 420 } : Room) 1 6 [.ref (ad 0)] K ad (dW D_hasBoard D_beganBlank F_mines F_moves F_changes G_width G_height G_size B_parts B_longest S_groups S_askedGroup S_taken R_waitingCount R_metCount A_grade A_cell A_mined A_withTotal A_numbers X_low X_high Y_low Y_high F_mined F_number F_state F_cellsIn F_unknownNear F_hitNear F_moveStart F_changed F_waiting F_seen G_near G_nearEnd B_chosen B_partOf B_rest B_unknowns B_partStart B_cells S_minedSet S_safeSet S_partSet S_tally S_askedTally S_groupOf S_groupSize S_links S_linkEnd S_pick S_groupMinedSet S_groupSafeSet O_sums O_nextSums R_found R_openEnds R_need R_waiting R_waits R_common R_met A_number Q_mined Q_all Q_choices Q_term Q_divisor Q_spare X_limbs X_sum Y_limbs Y_sum) (fun u9 => u9 = (dW D_hasBoard D_beganBlank F_mines F_moves F_changes G_width G_height G_size B_parts B_longest S_groups S_askedGroup S_taken R_waitingCount R_metCount A_grade A_cell A_mined A_withTotal A_numbers X_low X_high Y_low Y_high F_mined F_number F_state F_cellsIn F_unknownNear F_hitNear F_moveStart F_changed F_waiting F_seen G_near G_nearEnd B_chosen B_partOf B_rest B_unknowns B_partStart B_cells S_minedSet S_safeSet S_partSet S_tally S_askedTally S_groupOf S_groupSize S_links S_linkEnd S_pick S_groupMinedSet S_groupSafeSet O_sums O_nextSums R_found R_openEnds R_need R_waiting R_waits R_common R_met A_number Q_mined Q_all Q_choices Q_term Q_divisor Q_spare X_limbs X_sum Y_limbs Y_sum) ∧ post) (fun k9 u9 => (k9 = 1) ∧ u9 = (dW D_hasBoard D_beganBlank F_mines F_moves F_changes G_width G_height G_size B_parts B_longest S_groups S_askedGroup S_taken R_waitingCount R_metCount A_grade A_cell A_mined A_withTotal A_numbers X_low X_high Y_low Y_high F_mined F_number F_state F_cellsIn F_unknownNear F_hitNear F_moveStart F_changed F_waiting F_seen G_near G_nearEnd B_chosen B_partOf B_rest B_unknowns B_partStart B_cells S_minedSet S_safeSet S_partSet S_tally S_askedTally S_groupOf S_groupSize S_links S_linkEnd S_pick S_groupMinedSet S_groupSafeSet O_sums O_nextSums R_found R_openEnds R_need R_waiting R_waits R_common R_met A_number Q_mined Q_all Q_choices Q_term Q_divisor Q_spare X_limbs X_sum Y_limbs Y_sum) ∧ px k9) := by
  refine xV_of (lv0 := [(0, .ref (ad 0))]) hst (by decide) (Nat.le_of_ble_eq_true rfl) rfl (Nat.le_of_ble_eq_true rfl) rfl rfl ?_
  intro p e s m args below meth c Q A C T ret XO thr
  replace C : Cx p ({ frames := 7, cells := 1, slots := 6, locals := 420 } : Room) m c 0 0 cX11_needBoard 1 s args RX11 K A := C
  unfold P_X11_needBoard at h
  refine wa_aload_n C 0 rfl dX11_needBoard_0 rfl ?_
  refine wa_getZ C 0 6 dW_0 rfl rfl (by decide) okX11 gw_464 dX11_needBoard_1 (fun r_1 => ?_)
  refine wa_if_ne C (tgt := 15) (inR_b r_1) dX11_needBoard_4 (by decide) (fun c_2 => ?_) (fun c_2 => ?_)
  · replace h := h.1 c_2
    exact ret (Nat.le_of_ble_eq_true rfl) (Nat.le_of_ble_eq_true rfl) dX11_needBoard_15 ⟨rfl, h⟩
  · replace h := h.2 c_2
    exact thr 1 (Nat.le_of_ble_eq_true rfl) (Nat.le_of_ble_eq_true rfl) xcl_1 xin_1 xat_1 (Nat.le_of_ble_eq_true rfl) dX11_needBoard_7 dX11_needBoard_10 dX11_needBoard_11 dX11_needBoard_14 ⟨by decide, rfl, h⟩
theorem dX11_cellAt_0 : decode cX11_cellAt 0 = .ok (.aload_n 0, 1) := by decide +kernel
theorem dX11_cellAt_1 : decode cX11_cellAt 1 = .ok (.invokevirtual 163, 3) := by decide +kernel
theorem dX11_cellAt_4 : decode cX11_cellAt 4 = .ok (.aload_n 0, 1) := by decide +kernel
theorem dX11_cellAt_5 : decode cX11_cellAt 5 = .ok (.getfield 12, 3) := by decide +kernel
theorem dX11_cellAt_8 : decode cX11_cellAt 8 = .ok (.getfield 234, 3) := by decide +kernel
theorem dX11_cellAt_11 : decode cX11_cellAt 11 = .ok (.iload_n 1, 1) := by decide +kernel
theorem dX11_cellAt_12 : decode cX11_cellAt 12 = .ok (.iload_n 2, 1) := by decide +kernel
theorem dX11_cellAt_13 : decode cX11_cellAt 13 = .ok (.invokevirtual 259, 3) := by decide +kernel
theorem dX11_cellAt_16 : decode cX11_cellAt 16 = .ok (.ifCond .ne 11, 3) := by decide +kernel
theorem dX11_cellAt_19 : decode cX11_cellAt 19 = .ok (.new 189, 3) := by decide +kernel
theorem dX11_cellAt_22 : decode cX11_cellAt 22 = .ok (.dup, 1) := by decide +kernel
theorem dX11_cellAt_23 : decode cX11_cellAt 23 = .ok (.invokespecial 191, 3) := by decide +kernel
theorem dX11_cellAt_26 : decode cX11_cellAt 26 = .ok (.athrow, 1) := by decide +kernel
theorem dX11_cellAt_27 : decode cX11_cellAt 27 = .ok (.aload_n 0, 1) := by decide +kernel
theorem dX11_cellAt_28 : decode cX11_cellAt 28 = .ok (.getfield 12, 3) := by decide +kernel
theorem dX11_cellAt_31 : decode cX11_cellAt 31 = .ok (.getfield 234, 3) := by decide +kernel
theorem dX11_cellAt_34 : decode cX11_cellAt 34 = .ok (.iload_n 1, 1) := by decide +kernel
theorem dX11_cellAt_35 : decode cX11_cellAt 35 = .ok (.iload_n 2, 1) := by decide +kernel
theorem dX11_cellAt_36 : decode cX11_cellAt 36 = .ok (.invokevirtual 263, 3) := by decide +kernel
theorem dX11_cellAt_39 : decode cX11_cellAt 39 = .ok (.ireturn, 1) := by decide +kernel
theorem q_X11_cellAt : yX11_cellAt.cls = RX11 ∧ yX11_cellAt.cls ≠ "java/lang/invoke/MethodHandle" ∧ yX11_cellAt.cls ≠ "java/lang/invoke/VarHandle" ∧ (parseMethodDescriptor yX11_cellAt.desc).map (fun d => d.parameters.length) = some 2 := ⟨rfl, by decide, by decide, by decide +kernel⟩
set_option maxRecDepth 100000 in
set_option maxHeartbeats 4000000 in
theorem c_X11_cellAt (l : Launch) (hst : l.stackTraces = false) (K : wK) (ad : Nat → Nat) {D_hasBoard : Int} {D_beganBlank : Int} {F_mines : Int} {F_moves : Int} {F_changes : Int} {G_width : Int} {G_height : Int} {G_size : Int} {B_parts : Int} {B_longest : Int} {S_groups : Int} {S_askedGroup : Int} {S_taken : Int} {R_waitingCount : Int} {R_metCount : Int} {A_grade : Int} {A_cell : Int} {A_mined : Int} {A_withTotal : Int} {A_numbers : Int} {X_low : Int} {X_high : Int} {Y_low : Int} {Y_high : Int} {F_mined : Int → Int} {F_number : Int → Int} {F_state : Int → Int} {F_cellsIn : Int → Int} {F_unknownNear : Int → Int} {F_hitNear : Int → Int} {F_moveStart : Int → Int} {F_changed : Int → Int} {F_waiting : Int → Int} {F_seen : Int → Int} {G_near : Int → Int} {G_nearEnd : Int → Int} {B_chosen : Int → Int} {B_partOf : Int → Int} {B_rest : Int → Int} {B_unknowns : Int → Int} {B_partStart : Int → Int} {B_cells : Int → Int} {S_minedSet : Int → Int} {S_safeSet : Int → Int} {S_partSet : Int → Int} {S_tally : Int → Int} {S_askedTally : Int → Int} {S_groupOf : Int → Int} {S_groupSize : Int → Int} {S_links : Int → Int} {S_linkEnd : Int → Int} {S_pick : Int → Int} {S_groupMinedSet : Int → Int} {S_groupSafeSet : Int → Int} {O_sums : Int → Int64} {O_nextSums : Int → Int64} {R_found : Int → Int} {R_openEnds : Int → Int} {R_need : Int → Int} {R_waiting : Int → Int} {R_waits : Int → Int} {R_common : Int → Int} {R_met : Int → Int} {A_number : Int → Int} {Q_mined : Int → Int64} {Q_all : Int → Int64} {Q_choices : Int → Int64} {Q_term : Int → Int64} {Q_divisor : Int → Int64} {Q_spare : Int → Int64} {X_limbs : Int → Int64} {X_sum : Int → Int64} {Y_limbs : Int → Int64} {Y_sum : Int → Int64} (x1 : Int) (x2 : Int) (rx1 : inR x1) (rx2 : inR x2) (post : Int → Prop) (px : Int → Prop) (h : P_X11_cellAt post px D_hasBoard G_width G_height x1 x2) : xI l yX11_cellAt (Cond.code yX11_cellAt cX11_cellAt 3 (some .int) :: GT) ({ frames := 8, cells := 2, slots := 12, locals := 480 } : Room) 2 12 [.ref (ad 0), .int (iI x1), .int (iI x2)] K ad (dW D_hasBoard D_beganBlank F_mines F_moves F_changes G_width G_height G_size B_parts B_longest S_groups S_askedGroup S_taken R_waitingCount R_metCount A_grade A_cell A_mined A_withTotal A_numbers X_low X_high Y_low Y_high F_mined F_number F_state F_cellsIn F_unknownNear F_hitNear F_moveStart F_changed F_waiting F_seen G_near G_nearEnd B_chosen B_partOf B_rest B_unknowns B_partStart B_cells S_minedSet S_safeSet S_partSet S_tally S_askedTally S_groupOf S_groupSize S_links S_linkEnd S_pick S_groupMinedSet S_groupSafeSet O_sums O_nextSums R_found R_openEnds R_need R_waiting R_waits R_common R_met A_number Q_mined Q_all Q_choices Q_term Q_divisor Q_spare X_limbs X_sum Y_limbs Y_sum) (fun z9 u9 => u9 = (dW D_hasBoard D_beganBlank F_mines F_moves F_changes G_width G_height G_size B_parts B_longest S_groups S_askedGroup S_taken R_waitingCount R_metCount A_grade A_cell A_mined A_withTotal A_numbers X_low X_high Y_low Y_high F_mined F_number F_state F_cellsIn F_unknownNear F_hitNear F_moveStart F_changed F_waiting F_seen G_near G_nearEnd B_chosen B_partOf B_rest B_unknowns B_partStart B_cells S_minedSet S_safeSet S_partSet S_tally S_askedTally S_groupOf S_groupSize S_links S_linkEnd S_pick S_groupMinedSet S_groupSafeSet O_sums O_nextSums R_found R_openEnds R_need R_waiting R_waits R_common R_met A_number Q_mined Q_all Q_choices Q_term Q_divisor Q_spare X_limbs X_sum Y_limbs Y_sum) ∧ post z9) (fun k9 u9 => (k9 = 1 ∨ k9 = 2) ∧ u9 = (dW D_hasBoard D_beganBlank F_mines F_moves F_changes G_width G_height G_size B_parts B_longest S_groups S_askedGroup S_taken R_waitingCount R_metCount A_grade A_cell A_mined A_withTotal A_numbers X_low X_high Y_low Y_high F_mined F_number F_state F_cellsIn F_unknownNear F_hitNear F_moveStart F_changed F_waiting F_seen G_near G_nearEnd B_chosen B_partOf B_rest B_unknowns B_partStart B_cells S_minedSet S_safeSet S_partSet S_tally S_askedTally S_groupOf S_groupSize S_links S_linkEnd S_pick S_groupMinedSet S_groupSafeSet O_sums O_nextSums R_found R_openEnds R_need R_waiting R_waits R_common R_met A_number Q_mined Q_all Q_choices Q_term Q_divisor Q_spare X_limbs X_sum Y_limbs Y_sum) ∧ px k9) := by
  refine xI_of (lv0 := [(0, .ref (ad 0)), (1, .int (iI x1)), (2, .int (iI x2))]) hst (by decide) (Nat.le_of_ble_eq_true rfl) rfl (Nat.le_of_ble_eq_true rfl) rfl rfl ?_
  intro p e s m args below meth c Q A C T ret XO thr
  replace C : Cx p ({ frames := 8, cells := 2, slots := 12, locals := 480 } : Room) m c 0 0 cX11_cellAt 3 s args RX11 K A := C
  unfold P_X11_cellAt at h
  refine wa_aload_n C 0 rfl dX11_cellAt_0 rfl ?_
  refine wa_xVv C T XO (k := 0) (As := []) (rest := []) (c_X11_needBoard l hst K ad  _ _ h) gw_884 gw_881 dW_0 rfl gw_883 gs_39 gw_1 q_X11_needBoard rfl rfl rfl ⟨by decide, by decide⟩ rfl (Nat.le_of_ble_eq_true rfl) dX11_cellAt_1 ⟨Nat.le_of_ble_eq_true rfl, Nat.le_of_ble_eq_true rfl⟩ ⟨Nat.le_of_ble_eq_true rfl, Nat.le_of_ble_eq_true rfl⟩ (fun z9 u9 hx9 => by obtain ⟨hk9, rfl, h9⟩ := hx9; exact ⟨by omega, rfl, h9⟩) (fun u9 hp => ?_)
  replace C := C.more (cells' := 1) (slots' := 6) (Nat.le_of_ble_eq_true rfl) (Nat.le_of_ble_eq_true rfl)
  obtain ⟨rfl, h⟩ := hp
  refine wa_aload_n C 0 rfl dX11_cellAt_4 rfl ?_
  refine wa_getR C 0 0 dW_0 rfl rfl (by decide) okX11 gw_458 dX11_cellAt_5 ?_
  refine wa_getR C 1 0 dW_1 rfl rfl (by decide) okX2 gw_88 dX11_cellAt_8 ?_
  refine wa_iload_n C 1 rfl dX11_cellAt_11 rfl ?_
  refine wa_iload_n C 2 rfl dX11_cellAt_12 rfl ?_
  refine wa_callVi C (k := 2) (As := [.int (iI x1), .int (iI x2)]) (rest := []) (c_X3_has l K ad x1 x2 rx1 rx2 _ h) gw_594 gw_900 dW_2 rfl gw_592 gw_593 gw_3 q_X3_has rfl rfl rfl ⟨by decide, by decide⟩ rfl (Nat.le_of_ble_eq_true rfl) dX11_cellAt_13 (fun c_2 u9 rc_2 hp => ?_)
  obtain ⟨bc_2, rfl, h⟩ := hp
  replace h := h bc_2
  refine wa_if_ne C (tgt := 27) (inR_b bc_2) dX11_cellAt_16 (by decide) (fun c_3 => ?_) (fun c_3 => ?_)
  · replace h := h.1 c_3
    refine wa_aload_n C 0 rfl dX11_cellAt_27 rfl ?_
    refine wa_getR C 0 0 dW_0 rfl rfl (by decide) okX11 gw_458 dX11_cellAt_28 ?_
    refine wa_getR C 1 0 dW_1 rfl rfl (by decide) okX2 gw_88 dX11_cellAt_31 ?_
    refine wa_iload_n C 1 rfl dX11_cellAt_34 rfl ?_
    refine wa_iload_n C 2 rfl dX11_cellAt_35 rfl ?_
    refine wa_callVi C (k := 2) (As := [.int (iI x1), .int (iI x2)]) (rest := []) (c_X3_cell l K ad x1 x2 rx1 rx2 _ h) gw_580 gw_916 dW_2 rfl gw_578 gw_579 gw_3 q_X3_cell rfl rfl rfl ⟨by decide, by decide⟩ rfl (Nat.le_of_ble_eq_true rfl) dX11_cellAt_36 (fun c_4 u9 rc_4 hp => ?_)
    obtain ⟨rfl, h⟩ := hp
    replace h := h rc_4
    exact ret (Nat.le_of_ble_eq_true rfl) (Nat.le_of_ble_eq_true rfl) dX11_cellAt_39 rc_4 ⟨rfl, h⟩
  · replace h := h.2 c_3
    exact thr 2 (Nat.le_of_ble_eq_true rfl) (Nat.le_of_ble_eq_true rfl) xcl_2 xin_2 xat_2 (Nat.le_of_ble_eq_true rfl) dX11_cellAt_19 dX11_cellAt_22 dX11_cellAt_23 dX11_cellAt_26 ⟨by decide, rfl, h⟩
theorem dX11_edit_0 : decode cX11_edit 0 = .ok (.aload_n 0, 1) := by decide +kernel
theorem dX11_edit_1 : decode cX11_edit 1 = .ok (.iload_n 1, 1) := by decide +kernel
theorem dX11_edit_2 : decode cX11_edit 2 = .ok (.iload_n 2, 1) := by decide +kernel
theorem dX11_edit_3 : decode cX11_edit 3 = .ok (.invokevirtual 107, 3) := by decide +kernel
theorem dX11_edit_6 : decode cX11_edit 6 = .ok (.istore 4, 2) := by decide +kernel
theorem dX11_edit_8 : decode cX11_edit 8 = .ok (.aload_n 0, 1) := by decide +kernel
theorem dX11_edit_9 : decode cX11_edit 9 = .ok (.getfield 93, 3) := by decide +kernel
theorem dX11_edit_12 : decode cX11_edit 12 = .ok (.ifCond .eq 13, 3) := by decide +kernel
theorem dX11_edit_15 : decode cX11_edit 15 = .ok (.aload_n 0, 1) := by decide +kernel
theorem dX11_edit_16 : decode cX11_edit 16 = .ok (.getfield 12, 3) := by decide +kernel
theorem dX11_edit_19 : decode cX11_edit 19 = .ok (.getfield 111, 3) := by decide +kernel
theorem dX11_edit_22 : decode cX11_edit 22 = .ok (.ifCond .le 11, 3) := by decide +kernel
theorem dX11_edit_25 : decode cX11_edit 25 = .ok (.new 115, 3) := by decide +kernel
theorem dX11_edit_28 : decode cX11_edit 28 = .ok (.dup, 1) := by decide +kernel
theorem dX11_edit_29 : decode cX11_edit 29 = .ok (.invokespecial 117, 3) := by decide +kernel
theorem dX11_edit_32 : decode cX11_edit 32 = .ok (.athrow, 1) := by decide +kernel
theorem dX11_edit_33 : decode cX11_edit 33 = .ok (.aload_n 0, 1) := by decide +kernel
theorem dX11_edit_34 : decode cX11_edit 34 = .ok (.getfield 12, 3) := by decide +kernel
theorem dX11_edit_37 : decode cX11_edit 37 = .ok (.iload 4, 2) := by decide +kernel
theorem dX11_edit_39 : decode cX11_edit 39 = .ok (.iload_n 3, 1) := by decide +kernel
theorem dX11_edit_40 : decode cX11_edit 40 = .ok (.invokevirtual 118, 3) := by decide +kernel
theorem dX11_edit_43 : decode cX11_edit 43 = .ok (.aload_n 0, 1) := by decide +kernel
theorem dX11_edit_44 : decode cX11_edit 44 = .ok (.getfield 12, 3) := by decide +kernel
theorem dX11_edit_47 : decode cX11_edit 47 = .ok (.getfield 122, 3) := by decide +kernel
theorem dX11_edit_50 : decode cX11_edit 50 = .ok (.ireturn, 1) := by decide +kernel
theorem q_X11_edit : yX11_edit.cls = RX11 ∧ yX11_edit.cls ≠ "java/lang/invoke/MethodHandle" ∧ yX11_edit.cls ≠ "java/lang/invoke/VarHandle" ∧ (parseMethodDescriptor yX11_edit.desc).map (fun d => d.parameters.length) = some 3 := ⟨rfl, by decide, by decide, by decide +kernel⟩
set_option maxRecDepth 100000 in
set_option maxHeartbeats 4000000 in
theorem c_X11_edit (l : Launch) (hst : l.stackTraces = false) (K : wK) (ad : Nat → Nat) {D_hasBoard : Int} {D_beganBlank : Int} {F_mines : Int} {F_moves : Int} {F_changes : Int} {G_width : Int} {G_height : Int} {G_size : Int} {B_parts : Int} {B_longest : Int} {S_groups : Int} {S_askedGroup : Int} {S_taken : Int} {R_waitingCount : Int} {R_metCount : Int} {A_grade : Int} {A_cell : Int} {A_mined : Int} {A_withTotal : Int} {A_numbers : Int} {X_low : Int} {X_high : Int} {Y_low : Int} {Y_high : Int} {F_mined : Int → Int} {F_number : Int → Int} {F_state : Int → Int} {F_cellsIn : Int → Int} {F_unknownNear : Int → Int} {F_hitNear : Int → Int} {F_moveStart : Int → Int} {F_changed : Int → Int} {F_waiting : Int → Int} {F_seen : Int → Int} {G_near : Int → Int} {G_nearEnd : Int → Int} {B_chosen : Int → Int} {B_partOf : Int → Int} {B_rest : Int → Int} {B_unknowns : Int → Int} {B_partStart : Int → Int} {B_cells : Int → Int} {S_minedSet : Int → Int} {S_safeSet : Int → Int} {S_partSet : Int → Int} {S_tally : Int → Int} {S_askedTally : Int → Int} {S_groupOf : Int → Int} {S_groupSize : Int → Int} {S_links : Int → Int} {S_linkEnd : Int → Int} {S_pick : Int → Int} {S_groupMinedSet : Int → Int} {S_groupSafeSet : Int → Int} {O_sums : Int → Int64} {O_nextSums : Int → Int64} {R_found : Int → Int} {R_openEnds : Int → Int} {R_need : Int → Int} {R_waiting : Int → Int} {R_waits : Int → Int} {R_common : Int → Int} {R_met : Int → Int} {A_number : Int → Int} {Q_mined : Int → Int64} {Q_all : Int → Int64} {Q_choices : Int → Int64} {Q_term : Int → Int64} {Q_divisor : Int → Int64} {Q_spare : Int → Int64} {X_limbs : Int → Int64} {X_sum : Int → Int64} {Y_limbs : Int → Int64} {Y_sum : Int → Int64} (x1 : Int) (x2 : Int) (x3 : Int) (rx1 : inR x1) (rx2 : inR x2) (bx3 : x3 = 0 ∨ x3 = 1) (post : Int → (Int) → (Int → Int) → (Int → Int) → Prop) (px : Int → (Int) → (Int → Int) → (Int → Int) → Prop) (h : P_X11_edit post px D_hasBoard D_beganBlank F_mines F_moves G_width G_height F_mined F_number G_near G_nearEnd x1 x2 x3) : xI l yX11_edit (Cond.code yX11_edit cX11_edit 5 (some .int) :: GT) ({ frames := 9, cells := 3, slots := 18, locals := 540 } : Room) 3 18 [.ref (ad 0), .int (iI x1), .int (iI x2), .int (iI x3)] K ad (dW D_hasBoard D_beganBlank F_mines F_moves F_changes G_width G_height G_size B_parts B_longest S_groups S_askedGroup S_taken R_waitingCount R_metCount A_grade A_cell A_mined A_withTotal A_numbers X_low X_high Y_low Y_high F_mined F_number F_state F_cellsIn F_unknownNear F_hitNear F_moveStart F_changed F_waiting F_seen G_near G_nearEnd B_chosen B_partOf B_rest B_unknowns B_partStart B_cells S_minedSet S_safeSet S_partSet S_tally S_askedTally S_groupOf S_groupSize S_links S_linkEnd S_pick S_groupMinedSet S_groupSafeSet O_sums O_nextSums R_found R_openEnds R_need R_waiting R_waits R_common R_met A_number Q_mined Q_all Q_choices Q_term Q_divisor Q_spare X_limbs X_sum Y_limbs Y_sum) (fun z9 u9 => ∃ F_mines9 F_mined9 F_number9, u9 = (dW D_hasBoard D_beganBlank F_mines9 F_moves F_changes G_width G_height G_size B_parts B_longest S_groups S_askedGroup S_taken R_waitingCount R_metCount A_grade A_cell A_mined A_withTotal A_numbers X_low X_high Y_low Y_high F_mined9 F_number9 F_state F_cellsIn F_unknownNear F_hitNear F_moveStart F_changed F_waiting F_seen G_near G_nearEnd B_chosen B_partOf B_rest B_unknowns B_partStart B_cells S_minedSet S_safeSet S_partSet S_tally S_askedTally S_groupOf S_groupSize S_links S_linkEnd S_pick S_groupMinedSet S_groupSafeSet O_sums O_nextSums R_found R_openEnds R_need R_waiting R_waits R_common R_met A_number Q_mined Q_all Q_choices Q_term Q_divisor Q_spare X_limbs X_sum Y_limbs Y_sum) ∧ post z9 F_mines9 F_mined9 F_number9) (fun k9 u9 => (k9 = 1 ∨ k9 = 2 ∨ k9 = 3) ∧ ∃ F_mines9 F_mined9 F_number9, u9 = (dW D_hasBoard D_beganBlank F_mines9 F_moves F_changes G_width G_height G_size B_parts B_longest S_groups S_askedGroup S_taken R_waitingCount R_metCount A_grade A_cell A_mined A_withTotal A_numbers X_low X_high Y_low Y_high F_mined9 F_number9 F_state F_cellsIn F_unknownNear F_hitNear F_moveStart F_changed F_waiting F_seen G_near G_nearEnd B_chosen B_partOf B_rest B_unknowns B_partStart B_cells S_minedSet S_safeSet S_partSet S_tally S_askedTally S_groupOf S_groupSize S_links S_linkEnd S_pick S_groupMinedSet S_groupSafeSet O_sums O_nextSums R_found R_openEnds R_need R_waiting R_waits R_common R_met A_number Q_mined Q_all Q_choices Q_term Q_divisor Q_spare X_limbs X_sum Y_limbs Y_sum) ∧ px k9 F_mines9 F_mined9 F_number9) := by
  refine xI_of (lv0 := [(0, .ref (ad 0)), (1, .int (iI x1)), (2, .int (iI x2)), (3, .int (iI x3))]) hst (by decide) (Nat.le_of_ble_eq_true rfl) rfl (Nat.le_of_ble_eq_true rfl) rfl rfl ?_
  intro p e s m args below meth c Q A C T ret XO thr
  replace C : Cx p ({ frames := 9, cells := 3, slots := 18, locals := 540 } : Room) m c 0 0 cX11_edit 5 s args RX11 K A := C
  unfold P_X11_edit at h
  refine wa_aload_n C 0 rfl dX11_edit_0 rfl ?_
  refine wa_iload_n C 1 rfl dX11_edit_1 rfl ?_
  refine wa_iload_n C 2 rfl dX11_edit_2 rfl ?_
  refine wa_xVi C T XO (k := 0) (As := [.int (iI x1), .int (iI x2)]) (rest := []) (c_X11_cellAt l hst K ad x1 x2 rx1 rx2 _ _ h) gw_880 gw_877 dW_0 rfl gw_879 gs_38 gw_1 q_X11_cellAt rfl rfl rfl ⟨by decide, by decide⟩ rfl (Nat.le_of_ble_eq_true rfl) dX11_edit_3 ⟨Nat.le_of_ble_eq_true rfl, Nat.le_of_ble_eq_true rfl⟩ ⟨Nat.le_of_ble_eq_true rfl, Nat.le_of_ble_eq_true rfl⟩ (fun z9 u9 hx9 => by obtain ⟨hk9, rfl, h9⟩ := hx9; exact ⟨by omega, _, _, _, rfl, h9⟩) (fun c_1 u9 rc_1 hp => ?_)
  replace C := C.more (cells' := 2) (slots' := 12) (Nat.le_of_ble_eq_true rfl) (Nat.le_of_ble_eq_true rfl)
  obtain ⟨rfl, h⟩ := hp
  replace h := h rc_1
  refine wa_istore C dX11_edit_6 (by decide) rfl ?_
  refine wa_aload_n C 1 rfl dX11_edit_8 rfl ?_
  refine wa_getZ C 0 7 dW_0 rfl rfl (by decide) okX11 gw_465 dX11_edit_9 (fun r_3 => ?_)
  refine wa_if_eq C (tgt := 25) (inR_b r_3) dX11_edit_12 (by decide) (fun c_4 => ?_) (fun c_4 => ?_)
  · replace h := h.1 c_4
    exact thr 3 (Nat.le_of_ble_eq_true rfl) (Nat.le_of_ble_eq_true rfl) xcl_3 xin_3 xat_3 (Nat.le_of_ble_eq_true rfl) dX11_edit_25 dX11_edit_28 dX11_edit_29 dX11_edit_32 ⟨by decide, _, _, _, rfl, h⟩
  · replace h := h.2 c_4
    refine wa_aload_n C 1 rfl dX11_edit_15 rfl ?_
    refine wa_getR C 0 0 dW_0 rfl rfl (by decide) okX11 gw_458 dX11_edit_16 ?_
    refine wa_getI C 1 8 dW_1 rfl rfl (by decide) okX2 gw_113 dX11_edit_19 (fun r_5 => ?_)
    refine wa_if_le C (tgt := 33) r_5 dX11_edit_22 (by decide) (fun c_6 => ?_) (fun c_6 => ?_)
    · replace h := h.1 c_6
      refine wa_aload_n C 1 rfl dX11_edit_33 rfl ?_
      refine wa_getR C 0 0 dW_0 rfl rfl (by decide) okX11 gw_458 dX11_edit_34 ?_
      refine wa_iload C 0 rfl dX11_edit_37 ?_
      refine wa_iload_n C 4 rfl dX11_edit_39 rfl ?_
      refine wa_callVv C (k := 1) (As := [.int (iI c_1), .int (iI x3)]) (rest := []) (c_X2_setMine l K ad c_1 x3 rc_1 bx3 _ h) gw_636 gw_932 dW_1 rfl gw_634 gw_635 gw_2 q_X2_setMine rfl rfl rfl ⟨by decide, by decide⟩ rfl (Nat.le_of_ble_eq_true rfl) dX11_edit_40 (fun u9 hp => ?_)
      obtain ⟨F_mines_7, F_mined_8, F_number_9, rfl, h⟩ := hp
      refine wa_aload_n C 1 rfl dX11_edit_43 rfl ?_
      refine wa_getR C 0 0 dW_0 rfl rfl (by decide) okX11 gw_458 dX11_edit_44 ?_
      refine wa_getI C 1 7 dW_1 rfl rfl (by decide) okX2 gw_111 dX11_edit_47 (fun r_10 => ?_)
      exact ret (Nat.le_of_ble_eq_true rfl) (Nat.le_of_ble_eq_true rfl) dX11_edit_50 r_10 ⟨_, _, _, rfl, h⟩
    · replace h := h.2 c_6
      exact thr 3 (Nat.le_of_ble_eq_true rfl) (Nat.le_of_ble_eq_true rfl) xcl_3 xin_3 xat_3 (Nat.le_of_ble_eq_true rfl) dX11_edit_25 dX11_edit_28 dX11_edit_29 dX11_edit_32 ⟨by decide, _, _, _, rfl, h⟩
theorem dX11_open_0 : decode cX11_open 0 = .ok (.aload_n 0, 1) := by decide +kernel
theorem dX11_open_1 : decode cX11_open 1 = .ok (.iload_n 1, 1) := by decide +kernel
theorem dX11_open_2 : decode cX11_open 2 = .ok (.iload_n 2, 1) := by decide +kernel
theorem dX11_open_3 : decode cX11_open 3 = .ok (.invokevirtual 107, 3) := by decide +kernel
theorem dX11_open_6 : decode cX11_open 6 = .ok (.istore_n 3, 1) := by decide +kernel
theorem dX11_open_7 : decode cX11_open 7 = .ok (.aload_n 0, 1) := by decide +kernel
theorem dX11_open_8 : decode cX11_open 8 = .ok (.getfield 12, 3) := by decide +kernel
theorem dX11_open_11 : decode cX11_open 11 = .ok (.invokevirtual 125, 3) := by decide +kernel
theorem dX11_open_14 : decode cX11_open 14 = .ok (.ifCond .eq 15, 3) := by decide +kernel
theorem dX11_open_17 : decode cX11_open 17 = .ok (.aload_n 0, 1) := by decide +kernel
theorem dX11_open_18 : decode cX11_open 18 = .ok (.getfield 12, 3) := by decide +kernel
theorem dX11_open_21 : decode cX11_open 21 = .ok (.getfield 129, 3) := by decide +kernel
theorem dX11_open_24 : decode cX11_open 24 = .ok (.iload_n 3, 1) := by decide +kernel
theorem dX11_open_25 : decode cX11_open 25 = .ok (.iaload, 1) := by decide +kernel
theorem dX11_open_26 : decode cX11_open 26 = .ok (.ifCond .eq 11, 3) := by decide +kernel
theorem dX11_open_29 : decode cX11_open 29 = .ok (.new 115, 3) := by decide +kernel
theorem dX11_open_32 : decode cX11_open 32 = .ok (.dup, 1) := by decide +kernel
theorem dX11_open_33 : decode cX11_open 33 = .ok (.invokespecial 117, 3) := by decide +kernel
theorem dX11_open_36 : decode cX11_open 36 = .ok (.athrow, 1) := by decide +kernel
theorem dX11_open_37 : decode cX11_open 37 = .ok (.aload_n 0, 1) := by decide +kernel
theorem dX11_open_38 : decode cX11_open 38 = .ok (.getfield 12, 3) := by decide +kernel
theorem dX11_open_41 : decode cX11_open 41 = .ok (.invokevirtual 133, 3) := by decide +kernel
theorem dX11_open_44 : decode cX11_open 44 = .ok (.aload_n 0, 1) := by decide +kernel
theorem dX11_open_45 : decode cX11_open 45 = .ok (.getfield 12, 3) := by decide +kernel
theorem dX11_open_48 : decode cX11_open 48 = .ok (.iload_n 3, 1) := by decide +kernel
theorem dX11_open_49 : decode cX11_open 49 = .ok (.invokevirtual 136, 3) := by decide +kernel
theorem dX11_open_52 : decode cX11_open 52 = .ok (.aload_n 0, 1) := by decide +kernel
theorem dX11_open_53 : decode cX11_open 53 = .ok (.getfield 12, 3) := by decide +kernel
theorem dX11_open_56 : decode cX11_open 56 = .ok (.getfield 140, 3) := by decide +kernel
theorem dX11_open_59 : decode cX11_open 59 = .ok (.iload_n 3, 1) := by decide +kernel
theorem dX11_open_60 : decode cX11_open 60 = .ok (.baload, 1) := by decide +kernel
theorem dX11_open_61 : decode cX11_open 61 = .ok (.ifCond .eq 8, 3) := by decide +kernel
theorem dX11_open_64 : decode cX11_open 64 = .ok (.bipush 9, 2) := by decide +kernel
theorem dX11_open_66 : decode cX11_open 66 = .ok (.goto 12, 3) := by decide +kernel
theorem dX11_open_69 : decode cX11_open 69 = .ok (.aload_n 0, 1) := by decide +kernel
theorem dX11_open_70 : decode cX11_open 70 = .ok (.getfield 12, 3) := by decide +kernel
theorem dX11_open_73 : decode cX11_open 73 = .ok (.getfield 144, 3) := by decide +kernel
theorem dX11_open_76 : decode cX11_open 76 = .ok (.iload_n 3, 1) := by decide +kernel
theorem dX11_open_77 : decode cX11_open 77 = .ok (.iaload, 1) := by decide +kernel
theorem dX11_open_78 : decode cX11_open 78 = .ok (.ireturn, 1) := by decide +kernel
theorem q_X11_open : yX11_open.cls = RX11 ∧ yX11_open.cls ≠ "java/lang/invoke/MethodHandle" ∧ yX11_open.cls ≠ "java/lang/invoke/VarHandle" ∧ (parseMethodDescriptor yX11_open.desc).map (fun d => d.parameters.length) = some 2 := ⟨rfl, by decide, by decide, by decide +kernel⟩
set_option maxRecDepth 100000 in
set_option maxHeartbeats 4000000 in
theorem c_X11_open (l : Launch) (hst : l.stackTraces = false) (K : wK) (ad : Nat → Nat) {D_hasBoard : Int} {D_beganBlank : Int} {F_mines : Int} {F_moves : Int} {F_changes : Int} {G_width : Int} {G_height : Int} {G_size : Int} {B_parts : Int} {B_longest : Int} {S_groups : Int} {S_askedGroup : Int} {S_taken : Int} {R_waitingCount : Int} {R_metCount : Int} {A_grade : Int} {A_cell : Int} {A_mined : Int} {A_withTotal : Int} {A_numbers : Int} {X_low : Int} {X_high : Int} {Y_low : Int} {Y_high : Int} {F_mined : Int → Int} {F_number : Int → Int} {F_state : Int → Int} {F_cellsIn : Int → Int} {F_unknownNear : Int → Int} {F_hitNear : Int → Int} {F_moveStart : Int → Int} {F_changed : Int → Int} {F_waiting : Int → Int} {F_seen : Int → Int} {G_near : Int → Int} {G_nearEnd : Int → Int} {B_chosen : Int → Int} {B_partOf : Int → Int} {B_rest : Int → Int} {B_unknowns : Int → Int} {B_partStart : Int → Int} {B_cells : Int → Int} {S_minedSet : Int → Int} {S_safeSet : Int → Int} {S_partSet : Int → Int} {S_tally : Int → Int} {S_askedTally : Int → Int} {S_groupOf : Int → Int} {S_groupSize : Int → Int} {S_links : Int → Int} {S_linkEnd : Int → Int} {S_pick : Int → Int} {S_groupMinedSet : Int → Int} {S_groupSafeSet : Int → Int} {O_sums : Int → Int64} {O_nextSums : Int → Int64} {R_found : Int → Int} {R_openEnds : Int → Int} {R_need : Int → Int} {R_waiting : Int → Int} {R_waits : Int → Int} {R_common : Int → Int} {R_met : Int → Int} {A_number : Int → Int} {Q_mined : Int → Int64} {Q_all : Int → Int64} {Q_choices : Int → Int64} {Q_term : Int → Int64} {Q_divisor : Int → Int64} {Q_spare : Int → Int64} {X_limbs : Int → Int64} {X_sum : Int → Int64} {Y_limbs : Int → Int64} {Y_sum : Int → Int64} (x1 : Int) (x2 : Int) (rx1 : inR x1) (rx2 : inR x2) (post : Int → (Int) → (Int) → (Int → Int) → (Int → Int) → (Int → Int) → (Int → Int) → (Int → Int) → (Int → Int) → (Int → Int) → Prop) (px : Int → (Int) → (Int) → (Int → Int) → (Int → Int) → (Int → Int) → (Int → Int) → (Int → Int) → (Int → Int) → (Int → Int) → Prop) (h : P_X11_open post px D_hasBoard F_moves F_changes G_width G_height F_mined F_number F_state F_cellsIn F_unknownNear F_hitNear F_moveStart F_changed F_waiting G_near G_nearEnd x1 x2) : xI l yX11_open (Cond.code yX11_open cX11_open 4 (some .int) :: GT) ({ frames := 9, cells := 3, slots := 18, locals := 540 } : Room) 3 18 [.ref (ad 0), .int (iI x1), .int (iI x2)] K ad (dW D_hasBoard D_beganBlank F_mines F_moves F_changes G_width G_height G_size B_parts B_longest S_groups S_askedGroup S_taken R_waitingCount R_metCount A_grade A_cell A_mined A_withTotal A_numbers X_low X_high Y_low Y_high F_mined F_number F_state F_cellsIn F_unknownNear F_hitNear F_moveStart F_changed F_waiting F_seen G_near G_nearEnd B_chosen B_partOf B_rest B_unknowns B_partStart B_cells S_minedSet S_safeSet S_partSet S_tally S_askedTally S_groupOf S_groupSize S_links S_linkEnd S_pick S_groupMinedSet S_groupSafeSet O_sums O_nextSums R_found R_openEnds R_need R_waiting R_waits R_common R_met A_number Q_mined Q_all Q_choices Q_term Q_divisor Q_spare X_limbs X_sum Y_limbs Y_sum) (fun z9 u9 => ∃ F_moves9 F_changes9 F_state9 F_cellsIn9 F_unknownNear9 F_hitNear9 F_moveStart9 F_changed9 F_waiting9, u9 = (dW D_hasBoard D_beganBlank F_mines F_moves9 F_changes9 G_width G_height G_size B_parts B_longest S_groups S_askedGroup S_taken R_waitingCount R_metCount A_grade A_cell A_mined A_withTotal A_numbers X_low X_high Y_low Y_high F_mined F_number F_state9 F_cellsIn9 F_unknownNear9 F_hitNear9 F_moveStart9 F_changed9 F_waiting9 F_seen G_near G_nearEnd B_chosen B_partOf B_rest B_unknowns B_partStart B_cells S_minedSet S_safeSet S_partSet S_tally S_askedTally S_groupOf S_groupSize S_links S_linkEnd S_pick S_groupMinedSet S_groupSafeSet O_sums O_nextSums R_found R_openEnds R_need R_waiting R_waits R_common R_met A_number Q_mined Q_all Q_choices Q_term Q_divisor Q_spare X_limbs X_sum Y_limbs Y_sum) ∧ post z9 F_moves9 F_changes9 F_state9 F_cellsIn9 F_unknownNear9 F_hitNear9 F_moveStart9 F_changed9 F_waiting9) (fun k9 u9 => (k9 = 1 ∨ k9 = 2 ∨ k9 = 3) ∧ ∃ F_moves9 F_changes9 F_state9 F_cellsIn9 F_unknownNear9 F_hitNear9 F_moveStart9 F_changed9 F_waiting9, u9 = (dW D_hasBoard D_beganBlank F_mines F_moves9 F_changes9 G_width G_height G_size B_parts B_longest S_groups S_askedGroup S_taken R_waitingCount R_metCount A_grade A_cell A_mined A_withTotal A_numbers X_low X_high Y_low Y_high F_mined F_number F_state9 F_cellsIn9 F_unknownNear9 F_hitNear9 F_moveStart9 F_changed9 F_waiting9 F_seen G_near G_nearEnd B_chosen B_partOf B_rest B_unknowns B_partStart B_cells S_minedSet S_safeSet S_partSet S_tally S_askedTally S_groupOf S_groupSize S_links S_linkEnd S_pick S_groupMinedSet S_groupSafeSet O_sums O_nextSums R_found R_openEnds R_need R_waiting R_waits R_common R_met A_number Q_mined Q_all Q_choices Q_term Q_divisor Q_spare X_limbs X_sum Y_limbs Y_sum) ∧ px k9 F_moves9 F_changes9 F_state9 F_cellsIn9 F_unknownNear9 F_hitNear9 F_moveStart9 F_changed9 F_waiting9) := by
  refine xI_of (lv0 := [(0, .ref (ad 0)), (1, .int (iI x1)), (2, .int (iI x2))]) hst (by decide) (Nat.le_of_ble_eq_true rfl) rfl (Nat.le_of_ble_eq_true rfl) rfl rfl ?_
  intro p e s m args below meth c Q A C T ret XO thr
  replace C : Cx p ({ frames := 9, cells := 3, slots := 18, locals := 540 } : Room) m c 0 0 cX11_open 4 s args RX11 K A := C
  unfold P_X11_open at h
  refine wa_aload_n C 0 rfl dX11_open_0 rfl ?_
  refine wa_iload_n C 1 rfl dX11_open_1 rfl ?_
  refine wa_iload_n C 2 rfl dX11_open_2 rfl ?_
  refine wa_xVi C T XO (k := 0) (As := [.int (iI x1), .int (iI x2)]) (rest := []) (c_X11_cellAt l hst K ad x1 x2 rx1 rx2 _ _ h) gw_880 gw_877 dW_0 rfl gw_879 gs_38 gw_1 q_X11_cellAt rfl rfl rfl ⟨by decide, by decide⟩ rfl (Nat.le_of_ble_eq_true rfl) dX11_open_3 ⟨Nat.le_of_ble_eq_true rfl, Nat.le_of_ble_eq_true rfl⟩ ⟨Nat.le_of_ble_eq_true rfl, Nat.le_of_ble_eq_true rfl⟩ (fun z9 u9 hx9 => by obtain ⟨hk9, rfl, h9⟩ := hx9; exact ⟨by omega, _, _, _, _, _, _, _, _, _, rfl, h9⟩) (fun c_1 u9 rc_1 hp => ?_)
  replace C := C.more (cells' := 2) (slots' := 12) (Nat.le_of_ble_eq_true rfl) (Nat.le_of_ble_eq_true rfl)
  obtain ⟨rfl, h⟩ := hp
  replace h := h rc_1
  refine wa_istore_n C dX11_open_6 rfl (by decide) rfl ?_
  refine wa_aload_n C 1 rfl dX11_open_7 rfl ?_
  refine wa_getR C 0 0 dW_0 rfl rfl (by decide) okX11 gw_458 dX11_open_8 ?_
  refine wa_callVi C (k := 1) (As := []) (rest := []) (c_X2_allowsMove l K ad  _ h) gw_943 gw_940 dW_1 rfl gw_941 gw_942 gw_2 q_X2_allowsMove rfl rfl rfl ⟨by decide, by decide⟩ rfl (Nat.le_of_ble_eq_true rfl) dX11_open_11 (fun c_3 u9 rc_3 hp => ?_)
  obtain ⟨bc_3, rfl, h⟩ := hp
  replace h := h bc_3
  refine wa_if_eq C (tgt := 29) (inR_b bc_3) dX11_open_14 (by decide) (fun c_4 => ?_) (fun c_4 => ?_)
  · replace h := h.1 c_4
    exact thr 3 (Nat.le_of_ble_eq_true rfl) (Nat.le_of_ble_eq_true rfl) xcl_3 xin_3 xat_3 (Nat.le_of_ble_eq_true rfl) dX11_open_29 dX11_open_32 dX11_open_33 dX11_open_36 ⟨by decide, _, _, _, _, _, _, _, _, _, rfl, h⟩
  · replace h := h.2 c_4
    refine wa_aload_n C 1 rfl dX11_open_17 rfl ?_
    refine wa_getR C 0 0 dW_0 rfl rfl (by decide) okX11 gw_458 dX11_open_18 ?_
    refine wa_getR C 1 3 dW_1 rfl rfl (by decide) okX2 gw_99 dX11_open_21 ?_
    refine wa_iload_n C 0 rfl dX11_open_24 rfl ?_
    obtain ⟨t_5, h⟩ := h
    refine wa_iald C 14 dW_14 dX11_open_25 t_5.1 t_5.2 (fun v_6 ev_6 rv_6 => ?_)
    replace h := h v_6 ev_6 rv_6
    refine wa_if_eq C (tgt := 37) rv_6 dX11_open_26 (by decide) (fun c_7 => ?_) (fun c_7 => ?_)
    · replace h := h.1 c_7
      refine wa_aload_n C 1 rfl dX11_open_37 rfl ?_
      refine wa_getR C 0 0 dW_0 rfl rfl (by decide) okX11 gw_458 dX11_open_38 ?_
      refine wa_callVv C (k := 1) (As := []) (rest := []) (c_X2_beginMove l K ad  _ h) gw_951 gw_948 dW_1 rfl gw_949 gw_950 gw_2 q_X2_beginMove rfl rfl rfl ⟨by decide, by decide⟩ rfl (Nat.le_of_ble_eq_true rfl) dX11_open_41 (fun u9 hp => ?_)
      obtain ⟨F_moves_8, F_moveStart_9, rfl, h⟩ := hp
      refine wa_aload_n C 1 rfl dX11_open_44 rfl ?_
      refine wa_getR C 0 0 dW_0 rfl rfl (by decide) okX11 gw_458 dX11_open_45 ?_
      refine wa_iload_n C 0 rfl dX11_open_48 rfl ?_
      refine wa_callVv C (k := 1) (As := [.int (iI c_1)]) (rest := []) (c_X2_uncover l K ad c_1 rc_1 _ h) gw_649 gw_952 dW_1 rfl gw_647 gw_648 gw_2 q_X2_uncover rfl rfl rfl ⟨by decide, by decide⟩ rfl (Nat.le_of_ble_eq_true rfl) dX11_open_49 (fun u9 hp => ?_)
      obtain ⟨F_changes_10, F_state_11, F_cellsIn_12, F_unknownNear_13, F_hitNear_14, F_changed_15, F_waiting_16, rfl, h⟩ := hp
      refine wa_aload_n C 1 rfl dX11_open_52 rfl ?_
      refine wa_getR C 0 0 dW_0 rfl rfl (by decide) okX11 gw_458 dX11_open_53 ?_
      refine wa_getR C 1 1 dW_1 rfl rfl (by decide) okX2 gw_90 dX11_open_56 ?_
      refine wa_iload_n C 0 rfl dX11_open_59 rfl ?_
      obtain ⟨t_17, h⟩ := h
      refine wa_bald C 12 dW_12 dX11_open_60 t_17.1 t_17.2 (fun v_18 ev_18 rv_18 => ?_)
      replace h := h v_18 ev_18 rv_18
      obtain ⟨J_19, h, hJ_19⟩ := h
      have k_20 : ∀ (z_21 : Int), inR z_21 → J_19 z_21 → WA p l e ({ frames := 9, cells := 3, slots := 18, locals := 540 } : Room) s m args below meth c 2 12 Q K ad 4 A 78 [] [.int (iI z_21)] (dW D_hasBoard D_beganBlank F_mines F_moves_8 F_changes_10 G_width G_height G_size B_parts B_longest S_groups S_askedGroup S_taken R_waitingCount R_metCount A_grade A_cell A_mined A_withTotal A_numbers X_low X_high Y_low Y_high F_mined F_number F_state_11 F_cellsIn_12 F_unknownNear_13 F_hitNear_14 F_moveStart_9 F_changed_15 F_waiting_16 F_seen G_near G_nearEnd B_chosen B_partOf B_rest B_unknowns B_partStart B_cells S_minedSet S_safeSet S_partSet S_tally S_askedTally S_groupOf S_groupSize S_links S_linkEnd S_pick S_groupMinedSet S_groupSafeSet O_sums O_nextSums R_found R_openEnds R_need R_waiting R_waits R_common R_met A_number Q_mined Q_all Q_choices Q_term Q_divisor Q_spare X_limbs X_sum Y_limbs Y_sum) := by
        intro z_21 rz_21 h
        replace h := hJ_19 z_21 rz_21 h
        exact ret (Nat.le_of_ble_eq_true rfl) (Nat.le_of_ble_eq_true rfl) dX11_open_78 rz_21 ⟨_, _, _, _, _, _, _, _, _, rfl, h⟩
      refine wa_if_eq C (tgt := 69) (inR_b rv_18) dX11_open_61 (by decide) (fun c_22 => ?_) (fun c_22 => ?_)
      · replace h := h.1 c_22
        refine wa_aload_n C 1 rfl dX11_open_69 rfl ?_
        refine wa_getR C 0 0 dW_0 rfl rfl (by decide) okX11 gw_458 dX11_open_70 ?_
        refine wa_getR C 1 2 dW_1 rfl rfl (by decide) okX2 gw_94 dX11_open_73 ?_
        refine wa_iload_n C 0 rfl dX11_open_76 rfl ?_
        obtain ⟨t_23, h⟩ := h
        refine wa_iald C 13 dW_13 dX11_open_77 t_23.1 t_23.2 (fun v_24 ev_24 rv_24 => ?_)
        replace h := h v_24 ev_24 rv_24
        refine wa_sub C [] rfl ?_
        exact k_20 v_24 rv_24 h
      · replace h := h.2 c_22
        refine wa_bipush C (z := 9) dX11_open_64 (by decide) ?_
        refine wa_goto C (tgt := 78) dX11_open_66 (by decide) ?_
        refine wa_sub C [] rfl ?_
        exact k_20 9 (inR_k 9 rfl) h
    · replace h := h.2 c_7
      exact thr 3 (Nat.le_of_ble_eq_true rfl) (Nat.le_of_ble_eq_true rfl) xcl_3 xin_3 xat_3 (Nat.le_of_ble_eq_true rfl) dX11_open_29 dX11_open_32 dX11_open_33 dX11_open_36 ⟨by decide, _, _, _, _, _, _, _, _, _, rfl, h⟩
theorem dX11_flag_0 : decode cX11_flag 0 = .ok (.aload_n 0, 1) := by decide +kernel
theorem dX11_flag_1 : decode cX11_flag 1 = .ok (.iload_n 1, 1) := by decide +kernel
theorem dX11_flag_2 : decode cX11_flag 2 = .ok (.iload_n 2, 1) := by decide +kernel
theorem dX11_flag_3 : decode cX11_flag 3 = .ok (.invokevirtual 107, 3) := by decide +kernel
theorem dX11_flag_6 : decode cX11_flag 6 = .ok (.istore_n 3, 1) := by decide +kernel
theorem dX11_flag_7 : decode cX11_flag 7 = .ok (.aload_n 0, 1) := by decide +kernel
theorem dX11_flag_8 : decode cX11_flag 8 = .ok (.getfield 12, 3) := by decide +kernel
theorem dX11_flag_11 : decode cX11_flag 11 = .ok (.invokevirtual 125, 3) := by decide +kernel
theorem dX11_flag_14 : decode cX11_flag 14 = .ok (.ifCond .eq 14, 3) := by decide +kernel
theorem dX11_flag_17 : decode cX11_flag 17 = .ok (.aload_n 0, 1) := by decide +kernel
theorem dX11_flag_18 : decode cX11_flag 18 = .ok (.getfield 12, 3) := by decide +kernel
theorem dX11_flag_21 : decode cX11_flag 21 = .ok (.iload_n 3, 1) := by decide +kernel
theorem dX11_flag_22 : decode cX11_flag 22 = .ok (.invokevirtual 147, 3) := by decide +kernel
theorem dX11_flag_25 : decode cX11_flag 25 = .ok (.ifCond .ne 11, 3) := by decide +kernel
theorem dX11_flag_28 : decode cX11_flag 28 = .ok (.new 115, 3) := by decide +kernel
theorem dX11_flag_31 : decode cX11_flag 31 = .ok (.dup, 1) := by decide +kernel
theorem dX11_flag_32 : decode cX11_flag 32 = .ok (.invokespecial 117, 3) := by decide +kernel
theorem dX11_flag_35 : decode cX11_flag 35 = .ok (.athrow, 1) := by decide +kernel
theorem dX11_flag_36 : decode cX11_flag 36 = .ok (.aload_n 0, 1) := by decide +kernel
theorem dX11_flag_37 : decode cX11_flag 37 = .ok (.getfield 12, 3) := by decide +kernel
theorem dX11_flag_40 : decode cX11_flag 40 = .ok (.getfield 129, 3) := by decide +kernel
theorem dX11_flag_43 : decode cX11_flag 43 = .ok (.iload_n 3, 1) := by decide +kernel
theorem dX11_flag_44 : decode cX11_flag 44 = .ok (.iaload, 1) := by decide +kernel
theorem dX11_flag_45 : decode cX11_flag 45 = .ok (.ifCond .ne 7, 3) := by decide +kernel
theorem dX11_flag_48 : decode cX11_flag 48 = .ok (.iconst 1, 1) := by decide +kernel
theorem dX11_flag_49 : decode cX11_flag 49 = .ok (.goto 4, 3) := by decide +kernel
theorem dX11_flag_52 : decode cX11_flag 52 = .ok (.iconst 0, 1) := by decide +kernel
theorem dX11_flag_53 : decode cX11_flag 53 = .ok (.istore 4, 2) := by decide +kernel
theorem dX11_flag_55 : decode cX11_flag 55 = .ok (.aload_n 0, 1) := by decide +kernel
theorem dX11_flag_56 : decode cX11_flag 56 = .ok (.getfield 12, 3) := by decide +kernel
theorem dX11_flag_59 : decode cX11_flag 59 = .ok (.invokevirtual 133, 3) := by decide +kernel
theorem dX11_flag_62 : decode cX11_flag 62 = .ok (.aload_n 0, 1) := by decide +kernel
theorem dX11_flag_63 : decode cX11_flag 63 = .ok (.getfield 12, 3) := by decide +kernel
theorem dX11_flag_66 : decode cX11_flag 66 = .ok (.iload_n 3, 1) := by decide +kernel
theorem dX11_flag_67 : decode cX11_flag 67 = .ok (.iload 4, 2) := by decide +kernel
theorem dX11_flag_69 : decode cX11_flag 69 = .ok (.ifCond .eq 7, 3) := by decide +kernel
theorem dX11_flag_72 : decode cX11_flag 72 = .ok (.iconst 1, 1) := by decide +kernel
theorem dX11_flag_73 : decode cX11_flag 73 = .ok (.goto 4, 3) := by decide +kernel
theorem dX11_flag_76 : decode cX11_flag 76 = .ok (.iconst 0, 1) := by decide +kernel
theorem dX11_flag_77 : decode cX11_flag 77 = .ok (.invokevirtual 150, 3) := by decide +kernel
theorem dX11_flag_80 : decode cX11_flag 80 = .ok (.iload 4, 2) := by decide +kernel
theorem dX11_flag_82 : decode cX11_flag 82 = .ok (.ireturn, 1) := by decide +kernel
theorem q_X11_flag : yX11_flag.cls = RX11 ∧ yX11_flag.cls ≠ "java/lang/invoke/MethodHandle" ∧ yX11_flag.cls ≠ "java/lang/invoke/VarHandle" ∧ (parseMethodDescriptor yX11_flag.desc).map (fun d => d.parameters.length) = some 2 := ⟨rfl, by decide, by decide, by decide +kernel⟩
