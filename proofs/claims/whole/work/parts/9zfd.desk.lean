set_option maxRecDepth 100000 in
set_option maxHeartbeats 4000000 in
theorem c_X11_shown (l : Launch) (hst : l.stackTraces = false) (K : wK) (ad : Nat → Nat) {D_hasBoard : Int} {D_beganBlank : Int} {F_mines : Int} {F_moves : Int} {F_changes : Int} {G_width : Int} {G_height : Int} {G_size : Int} {B_parts : Int} {B_longest : Int} {S_groups : Int} {S_askedGroup : Int} {S_taken : Int} {R_waitingCount : Int} {R_metCount : Int} {A_grade : Int} {A_cell : Int} {A_mined : Int} {A_withTotal : Int} {A_numbers : Int} {X_low : Int} {X_high : Int} {Y_low : Int} {Y_high : Int} {F_mined : Int → Int} {F_number : Int → Int} {F_state : Int → Int} {F_cellsIn : Int → Int} {F_unknownNear : Int → Int} {F_hitNear : Int → Int} {F_moveStart : Int → Int} {F_changed : Int → Int} {F_waiting : Int → Int} {F_seen : Int → Int} {G_near : Int → Int} {G_nearEnd : Int → Int} {B_chosen : Int → Int} {B_partOf : Int → Int} {B_rest : Int → Int} {B_unknowns : Int → Int} {B_partStart : Int → Int} {B_cells : Int → Int} {S_minedSet : Int → Int} {S_safeSet : Int → Int} {S_partSet : Int → Int} {S_tally : Int → Int} {S_askedTally : Int → Int} {S_groupOf : Int → Int} {S_groupSize : Int → Int} {S_links : Int → Int} {S_linkEnd : Int → Int} {S_pick : Int → Int} {S_groupMinedSet : Int → Int} {S_groupSafeSet : Int → Int} {O_sums : Int → Int64} {O_nextSums : Int → Int64} {R_found : Int → Int} {R_openEnds : Int → Int} {R_need : Int → Int} {R_waiting : Int → Int} {R_waits : Int → Int} {R_common : Int → Int} {R_met : Int → Int} {A_number : Int → Int} {Q_mined : Int → Int64} {Q_all : Int → Int64} {Q_choices : Int → Int64} {Q_term : Int → Int64} {Q_divisor : Int → Int64} {Q_spare : Int → Int64} {X_limbs : Int → Int64} {X_sum : Int → Int64} {Y_limbs : Int → Int64} {Y_sum : Int → Int64} (x1 : Int) (x2 : Int) (rx1 : inR x1) (rx2 : inR x2) (post : Int → Prop) (px : Int → Prop) (h : P_X11_shown post px D_hasBoard G_width G_height F_number F_state x1 x2) : xI l yX11_shown (Cond.code yX11_shown cX11_shown 4 (some .int) :: GT) ({ frames := 9, cells := 2, slots := 12, locals := 540 } : Room) 2 12 [.ref (ad 0), .int (iI x1), .int (iI x2)] K ad (dW D_hasBoard D_beganBlank F_mines F_moves F_changes G_width G_height G_size B_parts B_longest S_groups S_askedGroup S_taken R_waitingCount R_metCount A_grade A_cell A_mined A_withTotal A_numbers X_low X_high Y_low Y_high F_mined F_number F_state F_cellsIn F_unknownNear F_hitNear F_moveStart F_changed F_waiting F_seen G_near G_nearEnd B_chosen B_partOf B_rest B_unknowns B_partStart B_cells S_minedSet S_safeSet S_partSet S_tally S_askedTally S_groupOf S_groupSize S_links S_linkEnd S_pick S_groupMinedSet S_groupSafeSet O_sums O_nextSums R_found R_openEnds R_need R_waiting R_waits R_common R_met A_number Q_mined Q_all Q_choices Q_term Q_divisor Q_spare X_limbs X_sum Y_limbs Y_sum) (fun z9 u9 => u9 = (dW D_hasBoard D_beganBlank F_mines F_moves F_changes G_width G_height G_size B_parts B_longest S_groups S_askedGroup S_taken R_waitingCount R_metCount A_grade A_cell A_mined A_withTotal A_numbers X_low X_high Y_low Y_high F_mined F_number F_state F_cellsIn F_unknownNear F_hitNear F_moveStart F_changed F_waiting F_seen G_near G_nearEnd B_chosen B_partOf B_rest B_unknowns B_partStart B_cells S_minedSet S_safeSet S_partSet S_tally S_askedTally S_groupOf S_groupSize S_links S_linkEnd S_pick S_groupMinedSet S_groupSafeSet O_sums O_nextSums R_found R_openEnds R_need R_waiting R_waits R_common R_met A_number Q_mined Q_all Q_choices Q_term Q_divisor Q_spare X_limbs X_sum Y_limbs Y_sum) ∧ post z9) (fun k9 u9 => (k9 = 1 ∨ k9 = 2) ∧ u9 = (dW D_hasBoard D_beganBlank F_mines F_moves F_changes G_width G_height G_size B_parts B_longest S_groups S_askedGroup S_taken R_waitingCount R_metCount A_grade A_cell A_mined A_withTotal A_numbers X_low X_high Y_low Y_high F_mined F_number F_state F_cellsIn F_unknownNear F_hitNear F_moveStart F_changed F_waiting F_seen G_near G_nearEnd B_chosen B_partOf B_rest B_unknowns B_partStart B_cells S_minedSet S_safeSet S_partSet S_tally S_askedTally S_groupOf S_groupSize S_links S_linkEnd S_pick S_groupMinedSet S_groupSafeSet O_sums O_nextSums R_found R_openEnds R_need R_waiting R_waits R_common R_met A_number Q_mined Q_all Q_choices Q_term Q_divisor Q_spare X_limbs X_sum Y_limbs Y_sum) ∧ px k9) := by
  refine xI_of (lv0 := [(0, .ref (ad 0)), (1, .int (iI x1)), (2, .int (iI x2))]) hst (by decide) (Nat.le_of_ble_eq_true rfl) rfl (Nat.le_of_ble_eq_true rfl) rfl rfl ?_
  intro p e s m args below meth c Q A C T ret XO thr
  replace C : Cx p ({ frames := 9, cells := 2, slots := 12, locals := 540 } : Room) m c 0 0 cX11_shown 4 s args RX11 K A := C
  unfold P_X11_shown at h
  refine wa_aload_n C 0 rfl dX11_shown_0 rfl ?_
  refine wa_iload_n C 1 rfl dX11_shown_1 rfl ?_
  refine wa_iload_n C 2 rfl dX11_shown_2 rfl ?_
  refine wa_xVi C T XO (k := 0) (As := [.int (iI x1), .int (iI x2)]) (rest := []) (c_X11_cellAt l hst K ad x1 x2 rx1 rx2 _ _ h) gw_880 gw_877 dW_0 rfl gw_879 gs_38 gw_1 q_X11_cellAt rfl rfl rfl ⟨by decide, by decide⟩ rfl (Nat.le_of_ble_eq_true rfl) dX11_shown_3 ⟨Nat.le_of_ble_eq_true rfl, Nat.le_of_ble_eq_true rfl⟩ ⟨Nat.le_of_ble_eq_true rfl, Nat.le_of_ble_eq_true rfl⟩ (fun z9 u9 hx9 => by obtain ⟨hk9, rfl, h9⟩ := hx9; exact ⟨by omega, rfl, h9⟩) (fun c_1 u9 rc_1 hp => ?_)
  replace C := C.more (cells' := 2) (slots' := 12) (Nat.le_of_ble_eq_true rfl) (Nat.le_of_ble_eq_true rfl)
  obtain ⟨rfl, h⟩ := hp
  replace h := h rc_1
  refine wa_istore_n C dX11_shown_6 rfl (by decide) rfl ?_
  refine wa_aload_n C 1 rfl dX11_shown_7 rfl ?_
  refine wa_getR C 0 0 dW_0 rfl rfl (by decide) okX11 gw_458 dX11_shown_8 ?_
  refine wa_getR C 1 3 dW_1 rfl rfl (by decide) okX2 gw_99 dX11_shown_11 ?_
  refine wa_iload_n C 0 rfl dX11_shown_14 rfl ?_
  obtain ⟨t_3, h⟩ := h
  refine wa_iald C 14 dW_14 dX11_shown_15 t_3.1 t_3.2 (fun v_4 ev_4 rv_4 => ?_)
  replace h := h v_4 ev_4 rv_4
  rcases (show v_4 = 1 ∨ v_4 = 2 ∨ v_4 = 3 ∨ (v_4 < 1 ∨ 3 < v_4) by omega) with c_5 | c_5 | c_5 | c_5
  · replace h := h.1 c_5
    refine wa_tabIn C (tgt := 54) rv_4 dX11_shown_16 (by omega) (by omega) (by rw [c_5]; rfl) (by decide) ?_
    refine wa_bipush C (z := 11) dX11_shown_54 (by decide) ?_
    exact ret (Nat.le_of_ble_eq_true rfl) (Nat.le_of_ble_eq_true rfl) dX11_shown_56 (inR_k 11 rfl) ⟨rfl, h⟩
  · replace h := h.2.1 c_5
    refine wa_tabIn C (tgt := 44) rv_4 dX11_shown_16 (by omega) (by omega) (by rw [c_5]; rfl) (by decide) ?_
    refine wa_aload_n C 1 rfl dX11_shown_44 rfl ?_
    refine wa_getR C 0 0 dW_0 rfl rfl (by decide) okX11 gw_458 dX11_shown_45 ?_
    refine wa_getR C 1 2 dW_1 rfl rfl (by decide) okX2 gw_94 dX11_shown_48 ?_
    refine wa_iload_n C 0 rfl dX11_shown_51 rfl ?_
    obtain ⟨t_6, h⟩ := h
    refine wa_iald C 13 dW_13 dX11_shown_52 t_6.1 t_6.2 (fun v_7 ev_7 rv_7 => ?_)
    replace h := h v_7 ev_7 rv_7
    exact ret (Nat.le_of_ble_eq_true rfl) (Nat.le_of_ble_eq_true rfl) dX11_shown_53 rv_7 ⟨rfl, h⟩
  · replace h := h.2.2.1 c_5
    refine wa_tabIn C (tgt := 57) rv_4 dX11_shown_16 (by omega) (by omega) (by rw [c_5]; rfl) (by decide) ?_
    refine wa_bipush C (z := 12) dX11_shown_57 (by decide) ?_
    exact ret (Nat.le_of_ble_eq_true rfl) (Nat.le_of_ble_eq_true rfl) dX11_shown_59 (inR_k 12 rfl) ⟨rfl, h⟩
  · replace h := h.2.2.2 c_5
    refine wa_tabOut C (tgt := 60) rv_4 dX11_shown_16 c_5 (by decide) ?_
    refine wa_bipush C (z := 10) dX11_shown_60 (by decide) ?_
    exact ret (Nat.le_of_ble_eq_true rfl) (Nat.le_of_ble_eq_true rfl) dX11_shown_62 (inR_k 10 rfl) ⟨rfl, h⟩
theorem dX11_hint_0 : decode cX11_hint 0 = .ok (.aload_n 0, 1) := by decide +kernel
theorem dX11_hint_1 : decode cX11_hint 1 = .ok (.invokevirtual 163, 3) := by decide +kernel
theorem dX11_hint_4 : decode cX11_hint 4 = .ok (.aload_n 0, 1) := by decide +kernel
theorem dX11_hint_5 : decode cX11_hint 5 = .ok (.getfield 49, 3) := by decide +kernel
theorem dX11_hint_8 : decode cX11_hint 8 = .ok (.invokevirtual 169, 3) := by decide +kernel
theorem dX11_hint_11 : decode cX11_hint 11 = .ok (.aload_n 0, 1) := by decide +kernel
theorem dX11_hint_12 : decode cX11_hint 12 = .ok (.getfield 49, 3) := by decide +kernel
theorem dX11_hint_15 : decode cX11_hint 15 = .ok (.getfield 172, 3) := by decide +kernel
theorem dX11_hint_18 : decode cX11_hint 18 = .ok (.ifCond .ne 5, 3) := by decide +kernel
theorem dX11_hint_21 : decode cX11_hint 21 = .ok (.iconst 0, 1) := by decide +kernel
theorem dX11_hint_22 : decode cX11_hint 22 = .ok (.ireturn, 1) := by decide +kernel
theorem dX11_hint_23 : decode cX11_hint 23 = .ok (.aload_n 0, 1) := by decide +kernel
theorem dX11_hint_24 : decode cX11_hint 24 = .ok (.getfield 49, 3) := by decide +kernel
theorem dX11_hint_27 : decode cX11_hint 27 = .ok (.invokevirtual 175, 3) := by decide +kernel
theorem dX11_hint_30 : decode cX11_hint 30 = .ok (.iconst 1, 1) := by decide +kernel
theorem dX11_hint_31 : decode cX11_hint 31 = .ok (.iconst 2, 1) := by decide +kernel
theorem dX11_hint_32 : decode cX11_hint 32 = .ok (.aload_n 0, 1) := by decide +kernel
theorem dX11_hint_33 : decode cX11_hint 33 = .ok (.getfield 49, 3) := by decide +kernel
theorem dX11_hint_36 : decode cX11_hint 36 = .ok (.getfield 178, 3) := by decide +kernel
theorem dX11_hint_39 : decode cX11_hint 39 = .ok (.imul, 1) := by decide +kernel
theorem dX11_hint_40 : decode cX11_hint 40 = .ok (.iadd, 1) := by decide +kernel
theorem dX11_hint_41 : decode cX11_hint 41 = .ok (.aload_n 0, 1) := by decide +kernel
theorem dX11_hint_42 : decode cX11_hint 42 = .ok (.getfield 49, 3) := by decide +kernel
theorem dX11_hint_45 : decode cX11_hint 45 = .ok (.getfield 181, 3) := by decide +kernel
theorem dX11_hint_48 : decode cX11_hint 48 = .ok (.ifCond .eq 7, 3) := by decide +kernel
theorem dX11_hint_51 : decode cX11_hint 51 = .ok (.iconst 1, 1) := by decide +kernel
theorem dX11_hint_52 : decode cX11_hint 52 = .ok (.goto 4, 3) := by decide +kernel
theorem dX11_hint_55 : decode cX11_hint 55 = .ok (.iconst 0, 1) := by decide +kernel
theorem dX11_hint_56 : decode cX11_hint 56 = .ok (.iadd, 1) := by decide +kernel
theorem dX11_hint_57 : decode cX11_hint 57 = .ok (.ireturn, 1) := by decide +kernel
theorem q_X11_hint : yX11_hint.cls = RX11 ∧ yX11_hint.cls ≠ "java/lang/invoke/MethodHandle" ∧ yX11_hint.cls ≠ "java/lang/invoke/VarHandle" ∧ (parseMethodDescriptor yX11_hint.desc).map (fun d => d.parameters.length) = some 0 := ⟨rfl, by decide, by decide, by decide +kernel⟩
set_option maxRecDepth 100000 in
set_option maxHeartbeats 4000000 in
theorem c_X11_hint (l : Launch) (hst : l.stackTraces = false) (K : wK) (ad : Nat → Nat) {D_hasBoard : Int} {D_beganBlank : Int} {F_mines : Int} {F_moves : Int} {F_changes : Int} {G_width : Int} {G_height : Int} {G_size : Int} {B_parts : Int} {B_longest : Int} {S_groups : Int} {S_askedGroup : Int} {S_taken : Int} {R_waitingCount : Int} {R_metCount : Int} {A_grade : Int} {A_cell : Int} {A_mined : Int} {A_withTotal : Int} {A_numbers : Int} {X_low : Int} {X_high : Int} {Y_low : Int} {Y_high : Int} {F_mined : Int → Int} {F_number : Int → Int} {F_state : Int → Int} {F_cellsIn : Int → Int} {F_unknownNear : Int → Int} {F_hitNear : Int → Int} {F_moveStart : Int → Int} {F_changed : Int → Int} {F_waiting : Int → Int} {F_seen : Int → Int} {G_near : Int → Int} {G_nearEnd : Int → Int} {B_chosen : Int → Int} {B_partOf : Int → Int} {B_rest : Int → Int} {B_unknowns : Int → Int} {B_partStart : Int → Int} {B_cells : Int → Int} {S_minedSet : Int → Int} {S_safeSet : Int → Int} {S_partSet : Int → Int} {S_tally : Int → Int} {S_askedTally : Int → Int} {S_groupOf : Int → Int} {S_groupSize : Int → Int} {S_links : Int → Int} {S_linkEnd : Int → Int} {S_pick : Int → Int} {S_groupMinedSet : Int → Int} {S_groupSafeSet : Int → Int} {O_sums : Int → Int64} {O_nextSums : Int → Int64} {R_found : Int → Int} {R_openEnds : Int → Int} {R_need : Int → Int} {R_waiting : Int → Int} {R_waits : Int → Int} {R_common : Int → Int} {R_met : Int → Int} {A_number : Int → Int} {Q_mined : Int → Int64} {Q_all : Int → Int64} {Q_choices : Int → Int64} {Q_term : Int → Int64} {Q_divisor : Int → Int64} {Q_spare : Int → Int64} {X_limbs : Int → Int64} {X_sum : Int → Int64} {Y_limbs : Int → Int64} {Y_sum : Int → Int64}   (post : Int → (Int) → (Int) → (Int) → (Int) → (Int) → (Int) → (Int) → (Int) → (Int) → (Int) → (Int) → (Int) → (Int → Int) → (Int → Int) → (Int → Int) → (Int → Int) → (Int → Int) → (Int → Int) → (Int → Int) → (Int → Int) → (Int → Int) → (Int → Int) → (Int → Int) → (Int → Int) → (Int → Int) → (Int → Int) → (Int → Int) → (Int → Int) → (Int → Int) → (Int → Int) → (Int → Int64) → (Int → Int64) → (Int → Int) → (Int → Int) → (Int → Int) → (Int → Int) → (Int → Int) → (Int → Int) → (Int → Int) → (Int → Int) → Prop) (px : Int → (Int) → (Int) → (Int) → (Int) → (Int) → (Int) → (Int) → (Int) → (Int) → (Int) → (Int) → (Int) → (Int → Int) → (Int → Int) → (Int → Int) → (Int → Int) → (Int → Int) → (Int → Int) → (Int → Int) → (Int → Int) → (Int → Int) → (Int → Int) → (Int → Int) → (Int → Int) → (Int → Int) → (Int → Int) → (Int → Int) → (Int → Int) → (Int → Int) → (Int → Int) → (Int → Int64) → (Int → Int64) → (Int → Int) → (Int → Int) → (Int → Int) → (Int → Int) → (Int → Int) → (Int → Int) → (Int → Int) → (Int → Int) → Prop) (h : P_X11_hint post px D_hasBoard F_mines G_size B_parts B_longest S_groups S_askedGroup S_taken R_waitingCount R_metCount A_grade A_cell A_mined A_withTotal A_numbers F_number F_state F_cellsIn F_unknownNear F_hitNear G_near G_nearEnd B_chosen B_partOf B_rest B_unknowns B_partStart B_cells S_minedSet S_safeSet S_partSet S_tally S_askedTally S_groupOf S_groupSize S_links S_linkEnd S_pick S_groupMinedSet S_groupSafeSet O_sums O_nextSums R_found R_openEnds R_need R_waiting R_waits R_common R_met A_number) : xI l yX11_hint (Cond.code yX11_hint cX11_hint 1 (some .int) :: GT) ({ frames := 27, cells := 1, slots := 6, locals := 1620 } : Room) 1 6 [.ref (ad 0)] K ad (dW D_hasBoard D_beganBlank F_mines F_moves F_changes G_width G_height G_size B_parts B_longest S_groups S_askedGroup S_taken R_waitingCount R_metCount A_grade A_cell A_mined A_withTotal A_numbers X_low X_high Y_low Y_high F_mined F_number F_state F_cellsIn F_unknownNear F_hitNear F_moveStart F_changed F_waiting F_seen G_near G_nearEnd B_chosen B_partOf B_rest B_unknowns B_partStart B_cells S_minedSet S_safeSet S_partSet S_tally S_askedTally S_groupOf S_groupSize S_links S_linkEnd S_pick S_groupMinedSet S_groupSafeSet O_sums O_nextSums R_found R_openEnds R_need R_waiting R_waits R_common R_met A_number Q_mined Q_all Q_choices Q_term Q_divisor Q_spare X_limbs X_sum Y_limbs Y_sum) (fun z9 u9 => ∃ B_parts9 B_longest9 S_groups9 S_askedGroup9 S_taken9 R_waitingCount9 R_metCount9 A_grade9 A_cell9 A_mined9 A_withTotal9 A_numbers9 B_chosen9 B_partOf9 B_rest9 B_unknowns9 B_partStart9 B_cells9 S_minedSet9 S_safeSet9 S_partSet9 S_tally9 S_askedTally9 S_groupOf9 S_groupSize9 S_links9 S_linkEnd9 S_pick9 S_groupMinedSet9 S_groupSafeSet9 O_sums9 O_nextSums9 R_found9 R_openEnds9 R_need9 R_waiting9 R_waits9 R_common9 R_met9 A_number9, u9 = (dW D_hasBoard D_beganBlank F_mines F_moves F_changes G_width G_height G_size B_parts9 B_longest9 S_groups9 S_askedGroup9 S_taken9 R_waitingCount9 R_metCount9 A_grade9 A_cell9 A_mined9 A_withTotal9 A_numbers9 X_low X_high Y_low Y_high F_mined F_number F_state F_cellsIn F_unknownNear F_hitNear F_moveStart F_changed F_waiting F_seen G_near G_nearEnd B_chosen9 B_partOf9 B_rest9 B_unknowns9 B_partStart9 B_cells9 S_minedSet9 S_safeSet9 S_partSet9 S_tally9 S_askedTally9 S_groupOf9 S_groupSize9 S_links9 S_linkEnd9 S_pick9 S_groupMinedSet9 S_groupSafeSet9 O_sums9 O_nextSums9 R_found9 R_openEnds9 R_need9 R_waiting9 R_waits9 R_common9 R_met9 A_number9 Q_mined Q_all Q_choices Q_term Q_divisor Q_spare X_limbs X_sum Y_limbs Y_sum) ∧ post z9 B_parts9 B_longest9 S_groups9 S_askedGroup9 S_taken9 R_waitingCount9 R_metCount9 A_grade9 A_cell9 A_mined9 A_withTotal9 A_numbers9 B_chosen9 B_partOf9 B_rest9 B_unknowns9 B_partStart9 B_cells9 S_minedSet9 S_safeSet9 S_partSet9 S_tally9 S_askedTally9 S_groupOf9 S_groupSize9 S_links9 S_linkEnd9 S_pick9 S_groupMinedSet9 S_groupSafeSet9 O_sums9 O_nextSums9 R_found9 R_openEnds9 R_need9 R_waiting9 R_waits9 R_common9 R_met9 A_number9) (fun k9 u9 => (k9 = 1) ∧ ∃ B_parts9 B_longest9 S_groups9 S_askedGroup9 S_taken9 R_waitingCount9 R_metCount9 A_grade9 A_cell9 A_mined9 A_withTotal9 A_numbers9 B_chosen9 B_partOf9 B_rest9 B_unknowns9 B_partStart9 B_cells9 S_minedSet9 S_safeSet9 S_partSet9 S_tally9 S_askedTally9 S_groupOf9 S_groupSize9 S_links9 S_linkEnd9 S_pick9 S_groupMinedSet9 S_groupSafeSet9 O_sums9 O_nextSums9 R_found9 R_openEnds9 R_need9 R_waiting9 R_waits9 R_common9 R_met9 A_number9, u9 = (dW D_hasBoard D_beganBlank F_mines F_moves F_changes G_width G_height G_size B_parts9 B_longest9 S_groups9 S_askedGroup9 S_taken9 R_waitingCount9 R_metCount9 A_grade9 A_cell9 A_mined9 A_withTotal9 A_numbers9 X_low X_high Y_low Y_high F_mined F_number F_state F_cellsIn F_unknownNear F_hitNear F_moveStart F_changed F_waiting F_seen G_near G_nearEnd B_chosen9 B_partOf9 B_rest9 B_unknowns9 B_partStart9 B_cells9 S_minedSet9 S_safeSet9 S_partSet9 S_tally9 S_askedTally9 S_groupOf9 S_groupSize9 S_links9 S_linkEnd9 S_pick9 S_groupMinedSet9 S_groupSafeSet9 O_sums9 O_nextSums9 R_found9 R_openEnds9 R_need9 R_waiting9 R_waits9 R_common9 R_met9 A_number9 Q_mined Q_all Q_choices Q_term Q_divisor Q_spare X_limbs X_sum Y_limbs Y_sum) ∧ px k9 B_parts9 B_longest9 S_groups9 S_askedGroup9 S_taken9 R_waitingCount9 R_metCount9 A_grade9 A_cell9 A_mined9 A_withTotal9 A_numbers9 B_chosen9 B_partOf9 B_rest9 B_unknowns9 B_partStart9 B_cells9 S_minedSet9 S_safeSet9 S_partSet9 S_tally9 S_askedTally9 S_groupOf9 S_groupSize9 S_links9 S_linkEnd9 S_pick9 S_groupMinedSet9 S_groupSafeSet9 O_sums9 O_nextSums9 R_found9 R_openEnds9 R_need9 R_waiting9 R_waits9 R_common9 R_met9 A_number9) := by
  refine xI_of (lv0 := [(0, .ref (ad 0))]) hst (by decide) (Nat.le_of_ble_eq_true rfl) rfl (Nat.le_of_ble_eq_true rfl) rfl rfl ?_
  intro p e s m args below meth c Q A C T ret XO thr
  replace C : Cx p ({ frames := 27, cells := 1, slots := 6, locals := 1620 } : Room) m c 0 0 cX11_hint 1 s args RX11 K A := C
  unfold P_X11_hint at h
  refine wa_aload_n C 0 rfl dX11_hint_0 rfl ?_
  refine wa_xVv C T XO (k := 0) (As := []) (rest := []) (c_X11_needBoard l hst K ad  _ _ h) gw_884 gw_881 dW_0 rfl gw_883 gs_39 gw_1 q_X11_needBoard rfl rfl rfl ⟨by decide, by decide⟩ rfl (Nat.le_of_ble_eq_true rfl) dX11_hint_1 ⟨Nat.le_of_ble_eq_true rfl, Nat.le_of_ble_eq_true rfl⟩ ⟨Nat.le_of_ble_eq_true rfl, Nat.le_of_ble_eq_true rfl⟩ (fun z9 u9 hx9 => by obtain ⟨hk9, rfl, h9⟩ := hx9; exact ⟨by omega, _, _, _, _, _, _, _, _, _, _, _, _, _, _, _, _, _, _, _, _, _, _, _, _, _, _, _, _, _, _, _, _, _, _, _, _, _, _, _, _, rfl, h9⟩) (fun u9 hp => ?_)
  replace C := C.more (cells' := 1) (slots' := 6) (Nat.le_of_ble_eq_true rfl) (Nat.le_of_ble_eq_true rfl)
  obtain ⟨rfl, h⟩ := hp
  refine wa_aload_n C 0 rfl dX11_hint_4 rfl ?_
  refine wa_getR C 0 3 dW_0 rfl rfl (by decide) okX11 gw_461 dX11_hint_5 ?_
  refine wa_callVv C (k := 7) (As := []) (rest := []) (c_X0_seek l K ad  _ h) gw_1007 gw_1004 dW_7 rfl gw_1005 gw_1006 gw_8 q_X0_seek rfl rfl rfl ⟨by decide, by decide⟩ rfl (Nat.le_of_ble_eq_true rfl) dX11_hint_8 (fun u9 hp => ?_)
  obtain ⟨B_parts_2, B_longest_3, S_groups_4, S_askedGroup_5, S_taken_6, R_waitingCount_7, R_metCount_8, A_grade_9, A_cell_10, A_mined_11, A_withTotal_12, A_numbers_13, B_chosen_14, B_partOf_15, B_rest_16, B_unknowns_17, B_partStart_18, B_cells_19, S_minedSet_20, S_safeSet_21, S_partSet_22, S_tally_23, S_askedTally_24, S_groupOf_25, S_groupSize_26, S_links_27, S_linkEnd_28, S_pick_29, S_groupMinedSet_30, S_groupSafeSet_31, O_sums_32, O_nextSums_33, R_found_34, R_openEnds_35, R_need_36, R_waiting_37, R_waits_38, R_common_39, R_met_40, rfl, h⟩ := hp
  refine wa_aload_n C 0 rfl dX11_hint_11 rfl ?_
  refine wa_getR C 0 3 dW_0 rfl rfl (by decide) okX11 gw_461 dX11_hint_12 ?_
  refine wa_getI C 7 0 dW_7 rfl rfl (by decide) okX0 gw_342 dX11_hint_15 (fun r_41 => ?_)
  refine wa_if_ne C (tgt := 23) r_41 dX11_hint_18 (by decide) (fun c_42 => ?_) (fun c_42 => ?_)
  · replace h := h.1 c_42
    refine wa_aload_n C 0 rfl dX11_hint_23 rfl ?_
    refine wa_getR C 0 3 dW_0 rfl rfl (by decide) okX11 gw_461 dX11_hint_24 ?_
    refine wa_callVv C (k := 7) (As := []) (rest := []) (c_X0_explain l K ad  _ h) gw_1017 gw_1014 dW_7 rfl gw_1015 gw_1016 gw_8 q_X0_explain rfl rfl rfl ⟨by decide, by decide⟩ rfl (Nat.le_of_ble_eq_true rfl) dX11_hint_27 (fun u9 hp => ?_)
    obtain ⟨B_parts_43, B_longest_44, S_groups_45, S_askedGroup_46, S_taken_47, A_withTotal_48, A_numbers_49, B_chosen_50, B_partOf_51, B_rest_52, B_unknowns_53, B_partStart_54, B_cells_55, S_minedSet_56, S_safeSet_57, S_partSet_58, S_tally_59, S_askedTally_60, S_groupOf_61, S_groupSize_62, S_links_63, S_linkEnd_64, S_pick_65, S_groupMinedSet_66, S_groupSafeSet_67, O_sums_68, O_nextSums_69, A_number_70, rfl, h⟩ := hp
    refine wa_iconst C (z := 1) dX11_hint_30 rfl ?_
    refine wa_iconst C (z := 2) dX11_hint_31 rfl ?_
    refine wa_aload_n C 0 rfl dX11_hint_32 rfl ?_
    refine wa_getR C 0 3 dW_0 rfl rfl (by decide) okX11 gw_461 dX11_hint_33 ?_
    refine wa_getI C 7 1 dW_7 rfl rfl (by decide) okX0 gw_344 dX11_hint_36 (fun r_71 => ?_)
    refine wa_imul C dX11_hint_39 ?_
    refine wa_iadd C dX11_hint_40 ?_
    refine wa_aload_n C 0 rfl dX11_hint_41 rfl ?_
    refine wa_getR C 0 3 dW_0 rfl rfl (by decide) okX11 gw_461 dX11_hint_42 ?_
    refine wa_getZ C 7 2 dW_7 rfl rfl (by decide) okX0 gw_346 dX11_hint_45 (fun r_72 => ?_)
    obtain ⟨J_73, h, hJ_73⟩ := h
    have k_74 : ∀ (z_75 : Int), inR z_75 → J_73 z_75 → WA p l e ({ frames := 27, cells := 1, slots := 6, locals := 1620 } : Room) s m args below meth c 1 6 Q K ad 1 A 56 [] [.int (iI z_75), .int (iI (1 + (2 * A_cell_10)))] (dW D_hasBoard D_beganBlank F_mines F_moves F_changes G_width G_height G_size B_parts_43 B_longest_44 S_groups_45 S_askedGroup_46 S_taken_47 R_waitingCount_7 R_metCount_8 A_grade_9 A_cell_10 A_mined_11 A_withTotal_48 A_numbers_49 X_low X_high Y_low Y_high F_mined F_number F_state F_cellsIn F_unknownNear F_hitNear F_moveStart F_changed F_waiting F_seen G_near G_nearEnd B_chosen_50 B_partOf_51 B_rest_52 B_unknowns_53 B_partStart_54 B_cells_55 S_minedSet_56 S_safeSet_57 S_partSet_58 S_tally_59 S_askedTally_60 S_groupOf_61 S_groupSize_62 S_links_63 S_linkEnd_64 S_pick_65 S_groupMinedSet_66 S_groupSafeSet_67 O_sums_68 O_nextSums_69 R_found_34 R_openEnds_35 R_need_36 R_waiting_37 R_waits_38 R_common_39 R_met_40 A_number_70 Q_mined Q_all Q_choices Q_term Q_divisor Q_spare X_limbs X_sum Y_limbs Y_sum) := by
      intro z_75 rz_75 h
      replace h := hJ_73 z_75 rz_75 h
      refine wa_iadd C dX11_hint_56 ?_
      obtain ⟨r_76, h⟩ := h
      exact ret (Nat.le_of_ble_eq_true rfl) (Nat.le_of_ble_eq_true rfl) dX11_hint_57 r_76 ⟨_, _, _, _, _, _, _, _, _, _, _, _, _, _, _, _, _, _, _, _, _, _, _, _, _, _, _, _, _, _, _, _, _, _, _, _, _, _, _, _, rfl, h⟩
    refine wa_if_eq C (tgt := 55) (inR_b r_72) dX11_hint_48 (by decide) (fun c_77 => ?_) (fun c_77 => ?_)
    · replace h := h.1 c_77
      refine wa_iconst C (z := 0) dX11_hint_55 rfl ?_
      refine wa_sub C [] rfl ?_
      exact k_74 0 (inR_k 0 rfl) h
    · replace h := h.2 c_77
      refine wa_iconst C (z := 1) dX11_hint_51 rfl ?_
      refine wa_goto C (tgt := 56) dX11_hint_52 (by decide) ?_
      refine wa_sub C [] rfl ?_
      exact k_74 1 (inR_k 1 rfl) h
  · replace h := h.2 c_42
    refine wa_iconst C (z := 0) dX11_hint_21 rfl ?_
    exact ret (Nat.le_of_ble_eq_true rfl) (Nat.le_of_ble_eq_true rfl) dX11_hint_22 (inR_k 0 rfl) ⟨_, _, _, _, _, _, _, _, _, _, _, _, _, _, _, _, _, _, _, _, _, _, _, _, _, _, _, _, _, _, _, _, _, _, _, _, _, _, _, _, rfl, h⟩
theorem dX11_reason_0 : decode cX11_reason 0 = .ok (.aload_n 0, 1) := by decide +kernel
theorem dX11_reason_1 : decode cX11_reason 1 = .ok (.invokevirtual 163, 3) := by decide +kernel
theorem dX11_reason_4 : decode cX11_reason 4 = .ok (.iload_n 1, 1) := by decide +kernel
theorem dX11_reason_5 : decode cX11_reason 5 = .ok (.tableswitch 59 0 2 #[27, 35, 43], 27) := by decide +kernel
theorem dX11_reason_32 : decode cX11_reason 32 = .ok (.aload_n 0, 1) := by decide +kernel
theorem dX11_reason_33 : decode cX11_reason 33 = .ok (.getfield 49, 3) := by decide +kernel
theorem dX11_reason_36 : decode cX11_reason 36 = .ok (.getfield 172, 3) := by decide +kernel
theorem dX11_reason_39 : decode cX11_reason 39 = .ok (.ireturn, 1) := by decide +kernel
theorem dX11_reason_40 : decode cX11_reason 40 = .ok (.aload_n 0, 1) := by decide +kernel
theorem dX11_reason_41 : decode cX11_reason 41 = .ok (.getfield 49, 3) := by decide +kernel
theorem dX11_reason_44 : decode cX11_reason 44 = .ok (.getfield 183, 3) := by decide +kernel
theorem dX11_reason_47 : decode cX11_reason 47 = .ok (.ireturn, 1) := by decide +kernel
theorem dX11_reason_48 : decode cX11_reason 48 = .ok (.aload_n 0, 1) := by decide +kernel
theorem dX11_reason_49 : decode cX11_reason 49 = .ok (.getfield 49, 3) := by decide +kernel
theorem dX11_reason_52 : decode cX11_reason 52 = .ok (.getfield 186, 3) := by decide +kernel
theorem dX11_reason_55 : decode cX11_reason 55 = .ok (.ifCond .eq 7, 3) := by decide +kernel
theorem dX11_reason_58 : decode cX11_reason 58 = .ok (.iconst 1, 1) := by decide +kernel
theorem dX11_reason_59 : decode cX11_reason 59 = .ok (.goto 4, 3) := by decide +kernel
theorem dX11_reason_62 : decode cX11_reason 62 = .ok (.iconst 0, 1) := by decide +kernel
theorem dX11_reason_63 : decode cX11_reason 63 = .ok (.ireturn, 1) := by decide +kernel
theorem dX11_reason_64 : decode cX11_reason 64 = .ok (.new 189, 3) := by decide +kernel
theorem dX11_reason_67 : decode cX11_reason 67 = .ok (.dup, 1) := by decide +kernel
theorem dX11_reason_68 : decode cX11_reason 68 = .ok (.invokespecial 191, 3) := by decide +kernel
theorem dX11_reason_71 : decode cX11_reason 71 = .ok (.athrow, 1) := by decide +kernel
theorem q_X11_reason : yX11_reason.cls = RX11 ∧ yX11_reason.cls ≠ "java/lang/invoke/MethodHandle" ∧ yX11_reason.cls ≠ "java/lang/invoke/VarHandle" ∧ (parseMethodDescriptor yX11_reason.desc).map (fun d => d.parameters.length) = some 1 := ⟨rfl, by decide, by decide, by decide +kernel⟩
set_option maxRecDepth 100000 in
set_option maxHeartbeats 4000000 in
theorem c_X11_reason (l : Launch) (hst : l.stackTraces = false) (K : wK) (ad : Nat → Nat) {D_hasBoard : Int} {D_beganBlank : Int} {F_mines : Int} {F_moves : Int} {F_changes : Int} {G_width : Int} {G_height : Int} {G_size : Int} {B_parts : Int} {B_longest : Int} {S_groups : Int} {S_askedGroup : Int} {S_taken : Int} {R_waitingCount : Int} {R_metCount : Int} {A_grade : Int} {A_cell : Int} {A_mined : Int} {A_withTotal : Int} {A_numbers : Int} {X_low : Int} {X_high : Int} {Y_low : Int} {Y_high : Int} {F_mined : Int → Int} {F_number : Int → Int} {F_state : Int → Int} {F_cellsIn : Int → Int} {F_unknownNear : Int → Int} {F_hitNear : Int → Int} {F_moveStart : Int → Int} {F_changed : Int → Int} {F_waiting : Int → Int} {F_seen : Int → Int} {G_near : Int → Int} {G_nearEnd : Int → Int} {B_chosen : Int → Int} {B_partOf : Int → Int} {B_rest : Int → Int} {B_unknowns : Int → Int} {B_partStart : Int → Int} {B_cells : Int → Int} {S_minedSet : Int → Int} {S_safeSet : Int → Int} {S_partSet : Int → Int} {S_tally : Int → Int} {S_askedTally : Int → Int} {S_groupOf : Int → Int} {S_groupSize : Int → Int} {S_links : Int → Int} {S_linkEnd : Int → Int} {S_pick : Int → Int} {S_groupMinedSet : Int → Int} {S_groupSafeSet : Int → Int} {O_sums : Int → Int64} {O_nextSums : Int → Int64} {R_found : Int → Int} {R_openEnds : Int → Int} {R_need : Int → Int} {R_waiting : Int → Int} {R_waits : Int → Int} {R_common : Int → Int} {R_met : Int → Int} {A_number : Int → Int} {Q_mined : Int → Int64} {Q_all : Int → Int64} {Q_choices : Int → Int64} {Q_term : Int → Int64} {Q_divisor : Int → Int64} {Q_spare : Int → Int64} {X_limbs : Int → Int64} {X_sum : Int → Int64} {Y_limbs : Int → Int64} {Y_sum : Int → Int64} (x1 : Int) (rx1 : inR x1) (post : Int → Prop) (px : Int → Prop) (h : P_X11_reason post px D_hasBoard A_grade A_withTotal A_numbers x1) : xI l yX11_reason (Cond.code yX11_reason cX11_reason 2 (some .int) :: GT) ({ frames := 8, cells := 2, slots := 12, locals := 480 } : Room) 2 12 [.ref (ad 0), .int (iI x1)] K ad (dW D_hasBoard D_beganBlank F_mines F_moves F_changes G_width G_height G_size B_parts B_longest S_groups S_askedGroup S_taken R_waitingCount R_metCount A_grade A_cell A_mined A_withTotal A_numbers X_low X_high Y_low Y_high F_mined F_number F_state F_cellsIn F_unknownNear F_hitNear F_moveStart F_changed F_waiting F_seen G_near G_nearEnd B_chosen B_partOf B_rest B_unknowns B_partStart B_cells S_minedSet S_safeSet S_partSet S_tally S_askedTally S_groupOf S_groupSize S_links S_linkEnd S_pick S_groupMinedSet S_groupSafeSet O_sums O_nextSums R_found R_openEnds R_need R_waiting R_waits R_common R_met A_number Q_mined Q_all Q_choices Q_term Q_divisor Q_spare X_limbs X_sum Y_limbs Y_sum) (fun z9 u9 => u9 = (dW D_hasBoard D_beganBlank F_mines F_moves F_changes G_width G_height G_size B_parts B_longest S_groups S_askedGroup S_taken R_waitingCount R_metCount A_grade A_cell A_mined A_withTotal A_numbers X_low X_high Y_low Y_high F_mined F_number F_state F_cellsIn F_unknownNear F_hitNear F_moveStart F_changed F_waiting F_seen G_near G_nearEnd B_chosen B_partOf B_rest B_unknowns B_partStart B_cells S_minedSet S_safeSet S_partSet S_tally S_askedTally S_groupOf S_groupSize S_links S_linkEnd S_pick S_groupMinedSet S_groupSafeSet O_sums O_nextSums R_found R_openEnds R_need R_waiting R_waits R_common R_met A_number Q_mined Q_all Q_choices Q_term Q_divisor Q_spare X_limbs X_sum Y_limbs Y_sum) ∧ post z9) (fun k9 u9 => (k9 = 1 ∨ k9 = 2) ∧ u9 = (dW D_hasBoard D_beganBlank F_mines F_moves F_changes G_width G_height G_size B_parts B_longest S_groups S_askedGroup S_taken R_waitingCount R_metCount A_grade A_cell A_mined A_withTotal A_numbers X_low X_high Y_low Y_high F_mined F_number F_state F_cellsIn F_unknownNear F_hitNear F_moveStart F_changed F_waiting F_seen G_near G_nearEnd B_chosen B_partOf B_rest B_unknowns B_partStart B_cells S_minedSet S_safeSet S_partSet S_tally S_askedTally S_groupOf S_groupSize S_links S_linkEnd S_pick S_groupMinedSet S_groupSafeSet O_sums O_nextSums R_found R_openEnds R_need R_waiting R_waits R_common R_met A_number Q_mined Q_all Q_choices Q_term Q_divisor Q_spare X_limbs X_sum Y_limbs Y_sum) ∧ px k9) := by
  refine xI_of (lv0 := [(0, .ref (ad 0)), (1, .int (iI x1))]) hst (by decide) (Nat.le_of_ble_eq_true rfl) rfl (Nat.le_of_ble_eq_true rfl) rfl rfl ?_
  intro p e s m args below meth c Q A C T ret XO thr
  replace C : Cx p ({ frames := 8, cells := 2, slots := 12, locals := 480 } : Room) m c 0 0 cX11_reason 2 s args RX11 K A := C
  unfold P_X11_reason at h
  refine wa_aload_n C 0 rfl dX11_reason_0 rfl ?_
  refine wa_xVv C T XO (k := 0) (As := []) (rest := []) (c_X11_needBoard l hst K ad  _ _ h) gw_884 gw_881 dW_0 rfl gw_883 gs_39 gw_1 q_X11_needBoard rfl rfl rfl ⟨by decide, by decide⟩ rfl (Nat.le_of_ble_eq_true rfl) dX11_reason_1 ⟨Nat.le_of_ble_eq_true rfl, Nat.le_of_ble_eq_true rfl⟩ ⟨Nat.le_of_ble_eq_true rfl, Nat.le_of_ble_eq_true rfl⟩ (fun z9 u9 hx9 => by obtain ⟨hk9, rfl, h9⟩ := hx9; exact ⟨by omega, rfl, h9⟩) (fun u9 hp => ?_)
  replace C := C.more (cells' := 1) (slots' := 6) (Nat.le_of_ble_eq_true rfl) (Nat.le_of_ble_eq_true rfl)
  obtain ⟨rfl, h⟩ := hp
  refine wa_iload_n C 1 rfl dX11_reason_4 rfl ?_
  rcases (show x1 = 0 ∨ x1 = 1 ∨ x1 = 2 ∨ (x1 < 0 ∨ 2 < x1) by omega) with c_2 | c_2 | c_2 | c_2
  · replace h := h.1 c_2
    refine wa_tabIn C (tgt := 32) rx1 dX11_reason_5 (by omega) (by omega) (by rw [c_2]; rfl) (by decide) ?_
    refine wa_aload_n C 0 rfl dX11_reason_32 rfl ?_
    refine wa_getR C 0 3 dW_0 rfl rfl (by decide) okX11 gw_461 dX11_reason_33 ?_
    refine wa_getI C 7 0 dW_7 rfl rfl (by decide) okX0 gw_342 dX11_reason_36 (fun r_3 => ?_)
    exact ret (Nat.le_of_ble_eq_true rfl) (Nat.le_of_ble_eq_true rfl) dX11_reason_39 r_3 ⟨rfl, h⟩
  · replace h := h.2.1 c_2
    refine wa_tabIn C (tgt := 40) rx1 dX11_reason_5 (by omega) (by omega) (by rw [c_2]; rfl) (by decide) ?_
    refine wa_aload_n C 0 rfl dX11_reason_40 rfl ?_
    refine wa_getR C 0 3 dW_0 rfl rfl (by decide) okX11 gw_461 dX11_reason_41 ?_
    refine wa_getI C 7 5 dW_7 rfl rfl (by decide) okX0 gw_352 dX11_reason_44 (fun r_4 => ?_)
    exact ret (Nat.le_of_ble_eq_true rfl) (Nat.le_of_ble_eq_true rfl) dX11_reason_47 r_4 ⟨rfl, h⟩
  · replace h := h.2.2.1 c_2
    refine wa_tabIn C (tgt := 48) rx1 dX11_reason_5 (by omega) (by omega) (by rw [c_2]; rfl) (by decide) ?_
    refine wa_aload_n C 0 rfl dX11_reason_48 rfl ?_
    refine wa_getR C 0 3 dW_0 rfl rfl (by decide) okX11 gw_461 dX11_reason_49 ?_
    refine wa_getZ C 7 3 dW_7 rfl rfl (by decide) okX0 gw_348 dX11_reason_52 (fun r_5 => ?_)
    obtain ⟨J_6, h, hJ_6⟩ := h
    have k_7 : ∀ (z_8 : Int), inR z_8 → J_6 z_8 → WA p l e ({ frames := 8, cells := 2, slots := 12, locals := 480 } : Room) s m args below meth c 1 6 Q K ad 2 A 63 [] [.int (iI z_8)] (dW D_hasBoard D_beganBlank F_mines F_moves F_changes G_width G_height G_size B_parts B_longest S_groups S_askedGroup S_taken R_waitingCount R_metCount A_grade A_cell A_mined A_withTotal A_numbers X_low X_high Y_low Y_high F_mined F_number F_state F_cellsIn F_unknownNear F_hitNear F_moveStart F_changed F_waiting F_seen G_near G_nearEnd B_chosen B_partOf B_rest B_unknowns B_partStart B_cells S_minedSet S_safeSet S_partSet S_tally S_askedTally S_groupOf S_groupSize S_links S_linkEnd S_pick S_groupMinedSet S_groupSafeSet O_sums O_nextSums R_found R_openEnds R_need R_waiting R_waits R_common R_met A_number Q_mined Q_all Q_choices Q_term Q_divisor Q_spare X_limbs X_sum Y_limbs Y_sum) := by
      intro z_8 rz_8 h
      replace h := hJ_6 z_8 rz_8 h
      exact ret (Nat.le_of_ble_eq_true rfl) (Nat.le_of_ble_eq_true rfl) dX11_reason_63 rz_8 ⟨rfl, h⟩
    refine wa_if_eq C (tgt := 62) (inR_b r_5) dX11_reason_55 (by decide) (fun c_9 => ?_) (fun c_9 => ?_)
    · replace h := h.1 c_9
      refine wa_iconst C (z := 0) dX11_reason_62 rfl ?_
      refine wa_sub C [] rfl ?_
      exact k_7 0 (inR_k 0 rfl) h
    · replace h := h.2 c_9
      refine wa_iconst C (z := 1) dX11_reason_58 rfl ?_
      refine wa_goto C (tgt := 63) dX11_reason_59 (by decide) ?_
      refine wa_sub C [] rfl ?_
      exact k_7 1 (inR_k 1 rfl) h
  · replace h := h.2.2.2 c_2
    refine wa_tabOut C (tgt := 64) rx1 dX11_reason_5 c_2 (by decide) ?_
    exact thr 2 (Nat.le_of_ble_eq_true rfl) (Nat.le_of_ble_eq_true rfl) xcl_2 xin_2 xat_2 (Nat.le_of_ble_eq_true rfl) dX11_reason_64 dX11_reason_67 dX11_reason_68 dX11_reason_71 ⟨by decide, rfl, h⟩
theorem dX11_reasonCell_0 : decode cX11_reasonCell 0 = .ok (.aload_n 0, 1) := by decide +kernel
theorem dX11_reasonCell_1 : decode cX11_reasonCell 1 = .ok (.invokevirtual 163, 3) := by decide +kernel
theorem dX11_reasonCell_4 : decode cX11_reasonCell 4 = .ok (.iload_n 1, 1) := by decide +kernel
theorem dX11_reasonCell_5 : decode cX11_reasonCell 5 = .ok (.ifCond .lt 14, 3) := by decide +kernel
theorem dX11_reasonCell_8 : decode cX11_reasonCell 8 = .ok (.iload_n 1, 1) := by decide +kernel
theorem dX11_reasonCell_9 : decode cX11_reasonCell 9 = .ok (.aload_n 0, 1) := by decide +kernel
theorem dX11_reasonCell_10 : decode cX11_reasonCell 10 = .ok (.getfield 49, 3) := by decide +kernel
theorem dX11_reasonCell_13 : decode cX11_reasonCell 13 = .ok (.getfield 183, 3) := by decide +kernel
theorem dX11_reasonCell_16 : decode cX11_reasonCell 16 = .ok (.if_icmp .lt 11, 3) := by decide +kernel
theorem dX11_reasonCell_19 : decode cX11_reasonCell 19 = .ok (.new 189, 3) := by decide +kernel
theorem dX11_reasonCell_22 : decode cX11_reasonCell 22 = .ok (.dup, 1) := by decide +kernel
theorem dX11_reasonCell_23 : decode cX11_reasonCell 23 = .ok (.invokespecial 191, 3) := by decide +kernel
theorem dX11_reasonCell_26 : decode cX11_reasonCell 26 = .ok (.athrow, 1) := by decide +kernel
theorem dX11_reasonCell_27 : decode cX11_reasonCell 27 = .ok (.aload_n 0, 1) := by decide +kernel
theorem dX11_reasonCell_28 : decode cX11_reasonCell 28 = .ok (.getfield 49, 3) := by decide +kernel
theorem dX11_reasonCell_31 : decode cX11_reasonCell 31 = .ok (.getfield 192, 3) := by decide +kernel
theorem dX11_reasonCell_34 : decode cX11_reasonCell 34 = .ok (.iload_n 1, 1) := by decide +kernel
theorem dX11_reasonCell_35 : decode cX11_reasonCell 35 = .ok (.iaload, 1) := by decide +kernel
theorem dX11_reasonCell_36 : decode cX11_reasonCell 36 = .ok (.ireturn, 1) := by decide +kernel
theorem q_X11_reasonCell : yX11_reasonCell.cls = RX11 ∧ yX11_reasonCell.cls ≠ "java/lang/invoke/MethodHandle" ∧ yX11_reasonCell.cls ≠ "java/lang/invoke/VarHandle" ∧ (parseMethodDescriptor yX11_reasonCell.desc).map (fun d => d.parameters.length) = some 1 := ⟨rfl, by decide, by decide, by decide +kernel⟩
set_option maxRecDepth 100000 in
set_option maxHeartbeats 4000000 in
theorem c_X11_reasonCell (l : Launch) (hst : l.stackTraces = false) (K : wK) (ad : Nat → Nat) {D_hasBoard : Int} {D_beganBlank : Int} {F_mines : Int} {F_moves : Int} {F_changes : Int} {G_width : Int} {G_height : Int} {G_size : Int} {B_parts : Int} {B_longest : Int} {S_groups : Int} {S_askedGroup : Int} {S_taken : Int} {R_waitingCount : Int} {R_metCount : Int} {A_grade : Int} {A_cell : Int} {A_mined : Int} {A_withTotal : Int} {A_numbers : Int} {X_low : Int} {X_high : Int} {Y_low : Int} {Y_high : Int} {F_mined : Int → Int} {F_number : Int → Int} {F_state : Int → Int} {F_cellsIn : Int → Int} {F_unknownNear : Int → Int} {F_hitNear : Int → Int} {F_moveStart : Int → Int} {F_changed : Int → Int} {F_waiting : Int → Int} {F_seen : Int → Int} {G_near : Int → Int} {G_nearEnd : Int → Int} {B_chosen : Int → Int} {B_partOf : Int → Int} {B_rest : Int → Int} {B_unknowns : Int → Int} {B_partStart : Int → Int} {B_cells : Int → Int} {S_minedSet : Int → Int} {S_safeSet : Int → Int} {S_partSet : Int → Int} {S_tally : Int → Int} {S_askedTally : Int → Int} {S_groupOf : Int → Int} {S_groupSize : Int → Int} {S_links : Int → Int} {S_linkEnd : Int → Int} {S_pick : Int → Int} {S_groupMinedSet : Int → Int} {S_groupSafeSet : Int → Int} {O_sums : Int → Int64} {O_nextSums : Int → Int64} {R_found : Int → Int} {R_openEnds : Int → Int} {R_need : Int → Int} {R_waiting : Int → Int} {R_waits : Int → Int} {R_common : Int → Int} {R_met : Int → Int} {A_number : Int → Int} {Q_mined : Int → Int64} {Q_all : Int → Int64} {Q_choices : Int → Int64} {Q_term : Int → Int64} {Q_divisor : Int → Int64} {Q_spare : Int → Int64} {X_limbs : Int → Int64} {X_sum : Int → Int64} {Y_limbs : Int → Int64} {Y_sum : Int → Int64} (x1 : Int) (rx1 : inR x1) (post : Int → Prop) (px : Int → Prop) (h : P_X11_reasonCell post px D_hasBoard A_numbers A_number x1) : xI l yX11_reasonCell (Cond.code yX11_reasonCell cX11_reasonCell 2 (some .int) :: GT) ({ frames := 8, cells := 2, slots := 12, locals := 480 } : Room) 2 12 [.ref (ad 0), .int (iI x1)] K ad (dW D_hasBoard D_beganBlank F_mines F_moves F_changes G_width G_height G_size B_parts B_longest S_groups S_askedGroup S_taken R_waitingCount R_metCount A_grade A_cell A_mined A_withTotal A_numbers X_low X_high Y_low Y_high F_mined F_number F_state F_cellsIn F_unknownNear F_hitNear F_moveStart F_changed F_waiting F_seen G_near G_nearEnd B_chosen B_partOf B_rest B_unknowns B_partStart B_cells S_minedSet S_safeSet S_partSet S_tally S_askedTally S_groupOf S_groupSize S_links S_linkEnd S_pick S_groupMinedSet S_groupSafeSet O_sums O_nextSums R_found R_openEnds R_need R_waiting R_waits R_common R_met A_number Q_mined Q_all Q_choices Q_term Q_divisor Q_spare X_limbs X_sum Y_limbs Y_sum) (fun z9 u9 => u9 = (dW D_hasBoard D_beganBlank F_mines F_moves F_changes G_width G_height G_size B_parts B_longest S_groups S_askedGroup S_taken R_waitingCount R_metCount A_grade A_cell A_mined A_withTotal A_numbers X_low X_high Y_low Y_high F_mined F_number F_state F_cellsIn F_unknownNear F_hitNear F_moveStart F_changed F_waiting F_seen G_near G_nearEnd B_chosen B_partOf B_rest B_unknowns B_partStart B_cells S_minedSet S_safeSet S_partSet S_tally S_askedTally S_groupOf S_groupSize S_links S_linkEnd S_pick S_groupMinedSet S_groupSafeSet O_sums O_nextSums R_found R_openEnds R_need R_waiting R_waits R_common R_met A_number Q_mined Q_all Q_choices Q_term Q_divisor Q_spare X_limbs X_sum Y_limbs Y_sum) ∧ post z9) (fun k9 u9 => (k9 = 1 ∨ k9 = 2) ∧ u9 = (dW D_hasBoard D_beganBlank F_mines F_moves F_changes G_width G_height G_size B_parts B_longest S_groups S_askedGroup S_taken R_waitingCount R_metCount A_grade A_cell A_mined A_withTotal A_numbers X_low X_high Y_low Y_high F_mined F_number F_state F_cellsIn F_unknownNear F_hitNear F_moveStart F_changed F_waiting F_seen G_near G_nearEnd B_chosen B_partOf B_rest B_unknowns B_partStart B_cells S_minedSet S_safeSet S_partSet S_tally S_askedTally S_groupOf S_groupSize S_links S_linkEnd S_pick S_groupMinedSet S_groupSafeSet O_sums O_nextSums R_found R_openEnds R_need R_waiting R_waits R_common R_met A_number Q_mined Q_all Q_choices Q_term Q_divisor Q_spare X_limbs X_sum Y_limbs Y_sum) ∧ px k9) := by
  refine xI_of (lv0 := [(0, .ref (ad 0)), (1, .int (iI x1))]) hst (by decide) (Nat.le_of_ble_eq_true rfl) rfl (Nat.le_of_ble_eq_true rfl) rfl rfl ?_
  intro p e s m args below meth c Q A C T ret XO thr
  replace C : Cx p ({ frames := 8, cells := 2, slots := 12, locals := 480 } : Room) m c 0 0 cX11_reasonCell 2 s args RX11 K A := C
  unfold P_X11_reasonCell at h
  refine wa_aload_n C 0 rfl dX11_reasonCell_0 rfl ?_
  refine wa_xVv C T XO (k := 0) (As := []) (rest := []) (c_X11_needBoard l hst K ad  _ _ h) gw_884 gw_881 dW_0 rfl gw_883 gs_39 gw_1 q_X11_needBoard rfl rfl rfl ⟨by decide, by decide⟩ rfl (Nat.le_of_ble_eq_true rfl) dX11_reasonCell_1 ⟨Nat.le_of_ble_eq_true rfl, Nat.le_of_ble_eq_true rfl⟩ ⟨Nat.le_of_ble_eq_true rfl, Nat.le_of_ble_eq_true rfl⟩ (fun z9 u9 hx9 => by obtain ⟨hk9, rfl, h9⟩ := hx9; exact ⟨by omega, rfl, h9⟩) (fun u9 hp => ?_)
  replace C := C.more (cells' := 1) (slots' := 6) (Nat.le_of_ble_eq_true rfl) (Nat.le_of_ble_eq_true rfl)
  obtain ⟨rfl, h⟩ := hp
  refine wa_iload_n C 1 rfl dX11_reasonCell_4 rfl ?_
  refine wa_if_lt C (tgt := 19) rx1 dX11_reasonCell_5 (by decide) (fun c_2 => ?_) (fun c_2 => ?_)
  · replace h := h.1 c_2
    exact thr 2 (Nat.le_of_ble_eq_true rfl) (Nat.le_of_ble_eq_true rfl) xcl_2 xin_2 xat_2 (Nat.le_of_ble_eq_true rfl) dX11_reasonCell_19 dX11_reasonCell_22 dX11_reasonCell_23 dX11_reasonCell_26 ⟨by decide, rfl, h⟩
  · replace h := h.2 c_2
    refine wa_iload_n C 1 rfl dX11_reasonCell_8 rfl ?_
    refine wa_aload_n C 0 rfl dX11_reasonCell_9 rfl ?_
    refine wa_getR C 0 3 dW_0 rfl rfl (by decide) okX11 gw_461 dX11_reasonCell_10 ?_
    refine wa_getI C 7 5 dW_7 rfl rfl (by decide) okX0 gw_352 dX11_reasonCell_13 (fun r_3 => ?_)
    refine wa_icmp_lt C (tgt := 27) rx1 r_3 dX11_reasonCell_16 (by decide) (fun c_4 => ?_) (fun c_4 => ?_)
    · replace h := h.1 c_4
      refine wa_aload_n C 0 rfl dX11_reasonCell_27 rfl ?_
      refine wa_getR C 0 3 dW_0 rfl rfl (by decide) okX11 gw_461 dX11_reasonCell_28 ?_
      refine wa_getR C 7 4 dW_7 rfl rfl (by decide) okX0 gw_350 dX11_reasonCell_31 ?_
      refine wa_iload_n C 1 rfl dX11_reasonCell_34 rfl ?_
      obtain ⟨t_5, h⟩ := h
      refine wa_iald C 51 dW_51 dX11_reasonCell_35 t_5.1 t_5.2 (fun v_6 ev_6 rv_6 => ?_)
      replace h := h v_6 ev_6 rv_6
      exact ret (Nat.le_of_ble_eq_true rfl) (Nat.le_of_ble_eq_true rfl) dX11_reasonCell_36 rv_6 ⟨rfl, h⟩
    · replace h := h.2 c_4
      exact thr 2 (Nat.le_of_ble_eq_true rfl) (Nat.le_of_ble_eq_true rfl) xcl_2 xin_2 xat_2 (Nat.le_of_ble_eq_true rfl) dX11_reasonCell_19 dX11_reasonCell_22 dX11_reasonCell_23 dX11_reasonCell_26 ⟨by decide, rfl, h⟩
theorem dX11_follows_0 : decode cX11_follows 0 = .ok (.aload_n 0, 1) := by decide +kernel
theorem dX11_follows_1 : decode cX11_follows 1 = .ok (.iload_n 1, 1) := by decide +kernel
theorem dX11_follows_2 : decode cX11_follows 2 = .ok (.iload_n 2, 1) := by decide +kernel
theorem dX11_follows_3 : decode cX11_follows 3 = .ok (.invokevirtual 107, 3) := by decide +kernel
theorem dX11_follows_6 : decode cX11_follows 6 = .ok (.istore 4, 2) := by decide +kernel
theorem dX11_follows_8 : decode cX11_follows 8 = .ok (.aload_n 0, 1) := by decide +kernel
theorem dX11_follows_9 : decode cX11_follows 9 = .ok (.getfield 12, 3) := by decide +kernel
