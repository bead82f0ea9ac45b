set_option maxRecDepth 100000 in
set_option maxHeartbeats 4000000 in
theorem c_X11_flag (l : Launch) (hst : l.stackTraces = false) (K : wK) (ad : Nat → Nat) {D_hasBoard : Int} {D_beganBlank : Int} {F_mines : Int} {F_moves : Int} {F_changes : Int} {G_width : Int} {G_height : Int} {G_size : Int} {B_parts : Int} {B_longest : Int} {S_groups : Int} {S_askedGroup : Int} {S_taken : Int} {R_waitingCount : Int} {R_metCount : Int} {A_grade : Int} {A_cell : Int} {A_mined : Int} {A_withTotal : Int} {A_numbers : Int} {X_low : Int} {X_high : Int} {Y_low : Int} {Y_high : Int} {F_mined : Int → Int} {F_number : Int → Int} {F_state : Int → Int} {F_cellsIn : Int → Int} {F_unknownNear : Int → Int} {F_hitNear : Int → Int} {F_moveStart : Int → Int} {F_changed : Int → Int} {F_waiting : Int → Int} {F_seen : Int → Int} {G_near : Int → Int} {G_nearEnd : Int → Int} {B_chosen : Int → Int} {B_partOf : Int → Int} {B_rest : Int → Int} {B_unknowns : Int → Int} {B_partStart : Int → Int} {B_cells : Int → Int} {S_minedSet : Int → Int} {S_safeSet : Int → Int} {S_partSet : Int → Int} {S_tally : Int → Int} {S_askedTally : Int → Int} {S_groupOf : Int → Int} {S_groupSize : Int → Int} {S_links : Int → Int} {S_linkEnd : Int → Int} {S_pick : Int → Int} {S_groupMinedSet : Int → Int} {S_groupSafeSet : Int → Int} {O_sums : Int → Int64} {O_nextSums : Int → Int64} {R_found : Int → Int} {R_openEnds : Int → Int} {R_need : Int → Int} {R_waiting : Int → Int} {R_waits : Int → Int} {R_common : Int → Int} {R_met : Int → Int} {A_number : Int → Int} {Q_mined : Int → Int64} {Q_all : Int → Int64} {Q_choices : Int → Int64} {Q_term : Int → Int64} {Q_divisor : Int → Int64} {Q_spare : Int → Int64} {X_limbs : Int → Int64} {X_sum : Int → Int64} {Y_limbs : Int → Int64} {Y_sum : Int → Int64} (x1 : Int) (x2 : Int) (rx1 : inR x1) (rx2 : inR x2) (post : Int → (Int) → (Int) → (Int → Int) → (Int → Int) → (Int → Int) → (Int → Int) → (Int → Int) → (Int → Int) → Prop) (px : Int → (Int) → (Int) → (Int → Int) → (Int → Int) → (Int → Int) → (Int → Int) → (Int → Int) → (Int → Int) → Prop) (h : P_X11_flag post px D_hasBoard F_moves F_changes G_width G_height F_state F_cellsIn F_unknownNear F_hitNear F_moveStart F_changed G_near G_nearEnd x1 x2) : xI l yX11_flag (Cond.code yX11_flag cX11_flag 5 (some .boolean) :: GT) ({ frames := 9, cells := 3, slots := 18, locals := 540 } : Room) 3 18 [.ref (ad 0), .int (iI x1), .int (iI x2)] K ad (dW D_hasBoard D_beganBlank F_mines F_moves F_changes G_width G_height G_size B_parts B_longest S_groups S_askedGroup S_taken R_waitingCount R_metCount A_grade A_cell A_mined A_withTotal A_numbers X_low X_high Y_low Y_high F_mined F_number F_state F_cellsIn F_unknownNear F_hitNear F_moveStart F_changed F_waiting F_seen G_near G_nearEnd B_chosen B_partOf B_rest B_unknowns B_partStart B_cells S_minedSet S_safeSet S_partSet S_tally S_askedTally S_groupOf S_groupSize S_links S_linkEnd S_pick S_groupMinedSet S_groupSafeSet O_sums O_nextSums R_found R_openEnds R_need R_waiting R_waits R_common R_met A_number Q_mined Q_all Q_choices Q_term Q_divisor Q_spare X_limbs X_sum Y_limbs Y_sum) (fun z9 u9 => (z9 = 0 ∨ z9 = 1) ∧ ∃ F_moves9 F_changes9 F_state9 F_cellsIn9 F_unknownNear9 F_hitNear9 F_moveStart9 F_changed9, u9 = (dW D_hasBoard D_beganBlank F_mines F_moves9 F_changes9 G_width G_height G_size B_parts B_longest S_groups S_askedGroup S_taken R_waitingCount R_metCount A_grade A_cell A_mined A_withTotal A_numbers X_low X_high Y_low Y_high F_mined F_number F_state9 F_cellsIn9 F_unknownNear9 F_hitNear9 F_moveStart9 F_changed9 F_waiting F_seen G_near G_nearEnd B_chosen B_partOf B_rest B_unknowns B_partStart B_cells S_minedSet S_safeSet S_partSet S_tally S_askedTally S_groupOf S_groupSize S_links S_linkEnd S_pick S_groupMinedSet S_groupSafeSet O_sums O_nextSums R_found R_openEnds R_need R_waiting R_waits R_common R_met A_number Q_mined Q_all Q_choices Q_term Q_divisor Q_spare X_limbs X_sum Y_limbs Y_sum) ∧ post z9 F_moves9 F_changes9 F_state9 F_cellsIn9 F_unknownNear9 F_hitNear9 F_moveStart9 F_changed9) (fun k9 u9 => (k9 = 1 ∨ k9 = 2 ∨ k9 = 3) ∧ ∃ F_moves9 F_changes9 F_state9 F_cellsIn9 F_unknownNear9 F_hitNear9 F_moveStart9 F_changed9, u9 = (dW D_hasBoard D_beganBlank F_mines F_moves9 F_changes9 G_width G_height G_size B_parts B_longest S_groups S_askedGroup S_taken R_waitingCount R_metCount A_grade A_cell A_mined A_withTotal A_numbers X_low X_high Y_low Y_high F_mined F_number F_state9 F_cellsIn9 F_unknownNear9 F_hitNear9 F_moveStart9 F_changed9 F_waiting F_seen G_near G_nearEnd B_chosen B_partOf B_rest B_unknowns B_partStart B_cells S_minedSet S_safeSet S_partSet S_tally S_askedTally S_groupOf S_groupSize S_links S_linkEnd S_pick S_groupMinedSet S_groupSafeSet O_sums O_nextSums R_found R_openEnds R_need R_waiting R_waits R_common R_met A_number Q_mined Q_all Q_choices Q_term Q_divisor Q_spare X_limbs X_sum Y_limbs Y_sum) ∧ px k9 F_moves9 F_changes9 F_state9 F_cellsIn9 F_unknownNear9 F_hitNear9 F_moveStart9 F_changed9) := by
  refine xZ_of (lv0 := [(0, .ref (ad 0)), (1, .int (iI x1)), (2, .int (iI x2))]) hst (by decide) (Nat.le_of_ble_eq_true rfl) rfl (Nat.le_of_ble_eq_true rfl) rfl rfl ?_
  intro p e s m args below meth c Q A C T ret XO thr
  replace C : Cx p ({ frames := 9, cells := 3, slots := 18, locals := 540 } : Room) m c 0 0 cX11_flag 5 s args RX11 K A := C
  unfold P_X11_flag at h
  refine wa_aload_n C 0 rfl dX11_flag_0 rfl ?_
  refine wa_iload_n C 1 rfl dX11_flag_1 rfl ?_
  refine wa_iload_n C 2 rfl dX11_flag_2 rfl ?_
  refine wa_xVi C T XO (k := 0) (As := [.int (iI x1), .int (iI x2)]) (rest := []) (c_X11_cellAt l hst K ad x1 x2 rx1 rx2 _ _ h) gw_880 gw_877 dW_0 rfl gw_879 gs_38 gw_1 q_X11_cellAt rfl rfl rfl ⟨by decide, by decide⟩ rfl (Nat.le_of_ble_eq_true rfl) dX11_flag_3 ⟨Nat.le_of_ble_eq_true rfl, Nat.le_of_ble_eq_true rfl⟩ ⟨Nat.le_of_ble_eq_true rfl, Nat.le_of_ble_eq_true rfl⟩ (fun z9 u9 hx9 => by obtain ⟨hk9, rfl, h9⟩ := hx9; exact ⟨by omega, _, _, _, _, _, _, _, _, rfl, h9⟩) (fun c_1 u9 rc_1 hp => ?_)
  replace C := C.more (cells' := 2) (slots' := 12) (Nat.le_of_ble_eq_true rfl) (Nat.le_of_ble_eq_true rfl)
  obtain ⟨rfl, h⟩ := hp
  replace h := h rc_1
  refine wa_istore_n C dX11_flag_6 rfl (by decide) rfl ?_
  refine wa_aload_n C 1 rfl dX11_flag_7 rfl ?_
  refine wa_getR C 0 0 dW_0 rfl rfl (by decide) okX11 gw_458 dX11_flag_8 ?_
  refine wa_callVi C (k := 1) (As := []) (rest := []) (c_X2_allowsMove l K ad  _ h) gw_943 gw_940 dW_1 rfl gw_941 gw_942 gw_2 q_X2_allowsMove rfl rfl rfl ⟨by decide, by decide⟩ rfl (Nat.le_of_ble_eq_true rfl) dX11_flag_11 (fun c_3 u9 rc_3 hp => ?_)
  obtain ⟨bc_3, rfl, h⟩ := hp
  replace h := h bc_3
  refine wa_if_eq C (tgt := 28) (inR_b bc_3) dX11_flag_14 (by decide) (fun c_4 => ?_) (fun c_4 => ?_)
  · replace h := h.1 c_4
    exact thr 3 (Nat.le_of_ble_eq_true rfl) (Nat.le_of_ble_eq_true rfl) xcl_3 xin_3 xat_3 (Nat.le_of_ble_eq_true rfl) dX11_flag_28 dX11_flag_31 dX11_flag_32 dX11_flag_35 ⟨by decide, _, _, _, _, _, _, _, _, rfl, h⟩
  · replace h := h.2 c_4
    refine wa_aload_n C 1 rfl dX11_flag_17 rfl ?_
    refine wa_getR C 0 0 dW_0 rfl rfl (by decide) okX11 gw_458 dX11_flag_18 ?_
    refine wa_iload_n C 0 rfl dX11_flag_21 rfl ?_
    refine wa_callVi C (k := 1) (As := [.int (iI c_1)]) (rest := []) (c_X2_isUnknown l K ad c_1 rc_1 _ h) gw_665 gw_960 dW_1 rfl gw_663 gw_664 gw_2 q_X2_isUnknown rfl rfl rfl ⟨by decide, by decide⟩ rfl (Nat.le_of_ble_eq_true rfl) dX11_flag_22 (fun c_5 u9 rc_5 hp => ?_)
    obtain ⟨bc_5, rfl, h⟩ := hp
    replace h := h bc_5
    refine wa_if_ne C (tgt := 36) (inR_b bc_5) dX11_flag_25 (by decide) (fun c_6 => ?_) (fun c_6 => ?_)
    · replace h := h.1 c_6
      refine wa_aload_n C 1 rfl dX11_flag_36 rfl ?_
      refine wa_getR C 0 0 dW_0 rfl rfl (by decide) okX11 gw_458 dX11_flag_37 ?_
      refine wa_getR C 1 3 dW_1 rfl rfl (by decide) okX2 gw_99 dX11_flag_40 ?_
      refine wa_iload_n C 0 rfl dX11_flag_43 rfl ?_
      obtain ⟨t_7, h⟩ := h
      refine wa_iald C 14 dW_14 dX11_flag_44 t_7.1 t_7.2 (fun v_8 ev_8 rv_8 => ?_)
      replace h := h v_8 ev_8 rv_8
      obtain ⟨J_9, h, hJ_9⟩ := h
      have k_10 : ∀ (z_11 : Int), inR z_11 → J_9 z_11 → WA p l e ({ frames := 9, cells := 3, slots := 18, locals := 540 } : Room) s m args below meth c 2 12 Q K ad 5 A 53 [(0, .ref (ad 0)), (3, .int (iI c_1))] [.int (iI z_11)] (dW D_hasBoard D_beganBlank F_mines F_moves F_changes G_width G_height G_size B_parts B_longest S_groups S_askedGroup S_taken R_waitingCount R_metCount A_grade A_cell A_mined A_withTotal A_numbers X_low X_high Y_low Y_high F_mined F_number F_state F_cellsIn F_unknownNear F_hitNear F_moveStart F_changed F_waiting F_seen G_near G_nearEnd B_chosen B_partOf B_rest B_unknowns B_partStart B_cells S_minedSet S_safeSet S_partSet S_tally S_askedTally S_groupOf S_groupSize S_links S_linkEnd S_pick S_groupMinedSet S_groupSafeSet O_sums O_nextSums R_found R_openEnds R_need R_waiting R_waits R_common R_met A_number Q_mined Q_all Q_choices Q_term Q_divisor Q_spare X_limbs X_sum Y_limbs Y_sum) := by
        intro z_11 rz_11 h
        replace h := hJ_9 z_11 rz_11 h
        refine wa_istore C dX11_flag_53 (by decide) rfl ?_
        refine wa_aload_n C 1 rfl dX11_flag_55 rfl ?_
        refine wa_getR C 0 0 dW_0 rfl rfl (by decide) okX11 gw_458 dX11_flag_56 ?_
        refine wa_callVv C (k := 1) (As := []) (rest := []) (c_X2_beginMove l K ad  _ h) gw_951 gw_948 dW_1 rfl gw_949 gw_950 gw_2 q_X2_beginMove rfl rfl rfl ⟨by decide, by decide⟩ rfl (Nat.le_of_ble_eq_true rfl) dX11_flag_59 (fun u9 hp => ?_)
        obtain ⟨F_moves_12, F_moveStart_13, rfl, h⟩ := hp
        refine wa_aload_n C 1 rfl dX11_flag_62 rfl ?_
        refine wa_getR C 0 0 dW_0 rfl rfl (by decide) okX11 gw_458 dX11_flag_63 ?_
        refine wa_iload_n C 2 rfl dX11_flag_66 rfl ?_
        refine wa_iload C 0 rfl dX11_flag_67 ?_
        obtain ⟨J_14, h, hJ_14⟩ := h
        have k_15 : ∀ (z_16 : Int), inR z_16 → J_14 z_16 → WA p l e ({ frames := 9, cells := 3, slots := 18, locals := 540 } : Room) s m args below meth c 2 12 Q K ad 5 A 77 [(4, .int (iI z_11))] [.int (iI z_16), .int (iI c_1), .ref (ad 1)] (dW D_hasBoard D_beganBlank F_mines F_moves_12 F_changes G_width G_height G_size B_parts B_longest S_groups S_askedGroup S_taken R_waitingCount R_metCount A_grade A_cell A_mined A_withTotal A_numbers X_low X_high Y_low Y_high F_mined F_number F_state F_cellsIn F_unknownNear F_hitNear F_moveStart_13 F_changed F_waiting F_seen G_near G_nearEnd B_chosen B_partOf B_rest B_unknowns B_partStart B_cells S_minedSet S_safeSet S_partSet S_tally S_askedTally S_groupOf S_groupSize S_links S_linkEnd S_pick S_groupMinedSet S_groupSafeSet O_sums O_nextSums R_found R_openEnds R_need R_waiting R_waits R_common R_met A_number Q_mined Q_all Q_choices Q_term Q_divisor Q_spare X_limbs X_sum Y_limbs Y_sum) := by
          intro z_16 rz_16 h
          replace h := hJ_14 z_16 rz_16 h
          refine wa_callVv C (k := 1) (As := [.int (iI c_1), .int (iI z_16)]) (rest := []) (c_X2_change l K ad c_1 z_16 rc_1 rz_16 _ h) gw_653 gw_961 dW_1 rfl gw_651 gw_652 gw_2 q_X2_change rfl rfl rfl ⟨by decide, by decide⟩ rfl (Nat.le_of_ble_eq_true rfl) dX11_flag_77 (fun u9 hp => ?_)
          obtain ⟨F_changes_17, F_state_18, F_cellsIn_19, F_unknownNear_20, F_hitNear_21, F_changed_22, rfl, h⟩ := hp
          refine wa_iload C 0 rfl dX11_flag_80 ?_
          obtain ⟨b_23, h⟩ := h
          exact ret (Nat.le_of_ble_eq_true rfl) (Nat.le_of_ble_eq_true rfl) dX11_flag_82 b_23 ⟨b_23, _, _, _, _, _, _, _, _, rfl, h⟩
        refine wa_if_eq C (tgt := 76) rz_11 dX11_flag_69 (by decide) (fun c_24 => ?_) (fun c_24 => ?_)
        · replace h := h.1 c_24
          refine wa_iconst C (z := 0) dX11_flag_76 rfl ?_
          refine wa_sub C [0] rfl ?_
          exact k_15 0 (inR_k 0 rfl) h
        · replace h := h.2 c_24
          refine wa_iconst C (z := 1) dX11_flag_72 rfl ?_
          refine wa_goto C (tgt := 77) dX11_flag_73 (by decide) ?_
          refine wa_sub C [0] rfl ?_
          exact k_15 1 (inR_k 1 rfl) h
      refine wa_if_ne C (tgt := 52) rv_8 dX11_flag_45 (by decide) (fun c_25 => ?_) (fun c_25 => ?_)
      · replace h := h.1 c_25
        refine wa_iconst C (z := 0) dX11_flag_52 rfl ?_
        refine wa_sub C [1, 0] rfl ?_
        exact k_10 0 (inR_k 0 rfl) h
      · replace h := h.2 c_25
        refine wa_iconst C (z := 1) dX11_flag_48 rfl ?_
        refine wa_goto C (tgt := 53) dX11_flag_49 (by decide) ?_
        refine wa_sub C [1, 0] rfl ?_
        exact k_10 1 (inR_k 1 rfl) h
    · replace h := h.2 c_6
      exact thr 3 (Nat.le_of_ble_eq_true rfl) (Nat.le_of_ble_eq_true rfl) xcl_3 xin_3 xat_3 (Nat.le_of_ble_eq_true rfl) dX11_flag_28 dX11_flag_31 dX11_flag_32 dX11_flag_35 ⟨by decide, _, _, _, _, _, _, _, _, rfl, h⟩
theorem dX11_chord_0 : decode cX11_chord 0 = .ok (.aload_n 0, 1) := by decide +kernel
theorem dX11_chord_1 : decode cX11_chord 1 = .ok (.iload_n 1, 1) := by decide +kernel
theorem dX11_chord_2 : decode cX11_chord 2 = .ok (.iload_n 2, 1) := by decide +kernel
theorem dX11_chord_3 : decode cX11_chord 3 = .ok (.invokevirtual 107, 3) := by decide +kernel
theorem dX11_chord_6 : decode cX11_chord 6 = .ok (.istore_n 3, 1) := by decide +kernel
theorem dX11_chord_7 : decode cX11_chord 7 = .ok (.aload_n 0, 1) := by decide +kernel
theorem dX11_chord_8 : decode cX11_chord 8 = .ok (.getfield 12, 3) := by decide +kernel
theorem dX11_chord_11 : decode cX11_chord 11 = .ok (.invokevirtual 125, 3) := by decide +kernel
theorem dX11_chord_14 : decode cX11_chord 14 = .ok (.ifCond .eq 14, 3) := by decide +kernel
theorem dX11_chord_17 : decode cX11_chord 17 = .ok (.aload_n 0, 1) := by decide +kernel
theorem dX11_chord_18 : decode cX11_chord 18 = .ok (.getfield 12, 3) := by decide +kernel
theorem dX11_chord_21 : decode cX11_chord 21 = .ok (.iload_n 3, 1) := by decide +kernel
theorem dX11_chord_22 : decode cX11_chord 22 = .ok (.invokevirtual 153, 3) := by decide +kernel
theorem dX11_chord_25 : decode cX11_chord 25 = .ok (.ifCond .ne 11, 3) := by decide +kernel
theorem dX11_chord_28 : decode cX11_chord 28 = .ok (.new 115, 3) := by decide +kernel
theorem dX11_chord_31 : decode cX11_chord 31 = .ok (.dup, 1) := by decide +kernel
theorem dX11_chord_32 : decode cX11_chord 32 = .ok (.invokespecial 117, 3) := by decide +kernel
theorem dX11_chord_35 : decode cX11_chord 35 = .ok (.athrow, 1) := by decide +kernel
theorem dX11_chord_36 : decode cX11_chord 36 = .ok (.aload_n 0, 1) := by decide +kernel
theorem dX11_chord_37 : decode cX11_chord 37 = .ok (.getfield 12, 3) := by decide +kernel
theorem dX11_chord_40 : decode cX11_chord 40 = .ok (.invokevirtual 156, 3) := by decide +kernel
theorem dX11_chord_43 : decode cX11_chord 43 = .ok (.istore 4, 2) := by decide +kernel
theorem dX11_chord_45 : decode cX11_chord 45 = .ok (.aload_n 0, 1) := by decide +kernel
theorem dX11_chord_46 : decode cX11_chord 46 = .ok (.getfield 12, 3) := by decide +kernel
theorem dX11_chord_49 : decode cX11_chord 49 = .ok (.invokevirtual 133, 3) := by decide +kernel
theorem dX11_chord_52 : decode cX11_chord 52 = .ok (.aload_n 0, 1) := by decide +kernel
theorem dX11_chord_53 : decode cX11_chord 53 = .ok (.getfield 12, 3) := by decide +kernel
theorem dX11_chord_56 : decode cX11_chord 56 = .ok (.iload_n 3, 1) := by decide +kernel
theorem dX11_chord_57 : decode cX11_chord 57 = .ok (.invokevirtual 160, 3) := by decide +kernel
theorem dX11_chord_60 : decode cX11_chord 60 = .ok (.iload 4, 2) := by decide +kernel
theorem dX11_chord_62 : decode cX11_chord 62 = .ok (.aload_n 0, 1) := by decide +kernel
theorem dX11_chord_63 : decode cX11_chord 63 = .ok (.getfield 12, 3) := by decide +kernel
theorem dX11_chord_66 : decode cX11_chord 66 = .ok (.invokevirtual 156, 3) := by decide +kernel
theorem dX11_chord_69 : decode cX11_chord 69 = .ok (.isub, 1) := by decide +kernel
theorem dX11_chord_70 : decode cX11_chord 70 = .ok (.ireturn, 1) := by decide +kernel
theorem q_X11_chord : yX11_chord.cls = RX11 ∧ yX11_chord.cls ≠ "java/lang/invoke/MethodHandle" ∧ yX11_chord.cls ≠ "java/lang/invoke/VarHandle" ∧ (parseMethodDescriptor yX11_chord.desc).map (fun d => d.parameters.length) = some 2 := ⟨rfl, by decide, by decide, by decide +kernel⟩
set_option maxRecDepth 100000 in
set_option maxHeartbeats 4000000 in
theorem c_X11_chord (l : Launch) (hst : l.stackTraces = false) (K : wK) (ad : Nat → Nat) {D_hasBoard : Int} {D_beganBlank : Int} {F_mines : Int} {F_moves : Int} {F_changes : Int} {G_width : Int} {G_height : Int} {G_size : Int} {B_parts : Int} {B_longest : Int} {S_groups : Int} {S_askedGroup : Int} {S_taken : Int} {R_waitingCount : Int} {R_metCount : Int} {A_grade : Int} {A_cell : Int} {A_mined : Int} {A_withTotal : Int} {A_numbers : Int} {X_low : Int} {X_high : Int} {Y_low : Int} {Y_high : Int} {F_mined : Int → Int} {F_number : Int → Int} {F_state : Int → Int} {F_cellsIn : Int → Int} {F_unknownNear : Int → Int} {F_hitNear : Int → Int} {F_moveStart : Int → Int} {F_changed : Int → Int} {F_waiting : Int → Int} {F_seen : Int → Int} {G_near : Int → Int} {G_nearEnd : Int → Int} {B_chosen : Int → Int} {B_partOf : Int → Int} {B_rest : Int → Int} {B_unknowns : Int → Int} {B_partStart : Int → Int} {B_cells : Int → Int} {S_minedSet : Int → Int} {S_safeSet : Int → Int} {S_partSet : Int → Int} {S_tally : Int → Int} {S_askedTally : Int → Int} {S_groupOf : Int → Int} {S_groupSize : Int → Int} {S_links : Int → Int} {S_linkEnd : Int → Int} {S_pick : Int → Int} {S_groupMinedSet : Int → Int} {S_groupSafeSet : Int → Int} {O_sums : Int → Int64} {O_nextSums : Int → Int64} {R_found : Int → Int} {R_openEnds : Int → Int} {R_need : Int → Int} {R_waiting : Int → Int} {R_waits : Int → Int} {R_common : Int → Int} {R_met : Int → Int} {A_number : Int → Int} {Q_mined : Int → Int64} {Q_all : Int → Int64} {Q_choices : Int → Int64} {Q_term : Int → Int64} {Q_divisor : Int → Int64} {Q_spare : Int → Int64} {X_limbs : Int → Int64} {X_sum : Int → Int64} {Y_limbs : Int → Int64} {Y_sum : Int → Int64} (x1 : Int) (x2 : Int) (rx1 : inR x1) (rx2 : inR x2) (post : Int → (Int) → (Int) → (Int → Int) → (Int → Int) → (Int → Int) → (Int → Int) → (Int → Int) → (Int → Int) → (Int → Int) → Prop) (px : Int → (Int) → (Int) → (Int → Int) → (Int → Int) → (Int → Int) → (Int → Int) → (Int → Int) → (Int → Int) → (Int → Int) → Prop) (h : P_X11_chord post px D_hasBoard F_moves F_changes G_width G_height F_mined F_number F_state F_cellsIn F_unknownNear F_hitNear F_moveStart F_changed F_waiting G_near G_nearEnd x1 x2) : xI l yX11_chord (Cond.code yX11_chord cX11_chord 5 (some .int) :: GT) ({ frames := 9, cells := 3, slots := 18, locals := 540 } : Room) 3 18 [.ref (ad 0), .int (iI x1), .int (iI x2)] K ad (dW D_hasBoard D_beganBlank F_mines F_moves F_changes G_width G_height G_size B_parts B_longest S_groups S_askedGroup S_taken R_waitingCount R_metCount A_grade A_cell A_mined A_withTotal A_numbers X_low X_high Y_low Y_high F_mined F_number F_state F_cellsIn F_unknownNear F_hitNear F_moveStart F_changed F_waiting F_seen G_near G_nearEnd B_chosen B_partOf B_rest B_unknowns B_partStart B_cells S_minedSet S_safeSet S_partSet S_tally S_askedTally S_groupOf S_groupSize S_links S_linkEnd S_pick S_groupMinedSet S_groupSafeSet O_sums O_nextSums R_found R_openEnds R_need R_waiting R_waits R_common R_met A_number Q_mined Q_all Q_choices Q_term Q_divisor Q_spare X_limbs X_sum Y_limbs Y_sum) (fun z9 u9 => ∃ F_moves9 F_changes9 F_state9 F_cellsIn9 F_unknownNear9 F_hitNear9 F_moveStart9 F_changed9 F_waiting9, u9 = (dW D_hasBoard D_beganBlank F_mines F_moves9 F_changes9 G_width G_height G_size B_parts B_longest S_groups S_askedGroup S_taken R_waitingCount R_metCount A_grade A_cell A_mined A_withTotal A_numbers X_low X_high Y_low Y_high F_mined F_number F_state9 F_cellsIn9 F_unknownNear9 F_hitNear9 F_moveStart9 F_changed9 F_waiting9 F_seen G_near G_nearEnd B_chosen B_partOf B_rest B_unknowns B_partStart B_cells S_minedSet S_safeSet S_partSet S_tally S_askedTally S_groupOf S_groupSize S_links S_linkEnd S_pick S_groupMinedSet S_groupSafeSet O_sums O_nextSums R_found R_openEnds R_need R_waiting R_waits R_common R_met A_number Q_mined Q_all Q_choices Q_term Q_divisor Q_spare X_limbs X_sum Y_limbs Y_sum) ∧ post z9 F_moves9 F_changes9 F_state9 F_cellsIn9 F_unknownNear9 F_hitNear9 F_moveStart9 F_changed9 F_waiting9) (fun k9 u9 => (k9 = 1 ∨ k9 = 2 ∨ k9 = 3) ∧ ∃ F_moves9 F_changes9 F_state9 F_cellsIn9 F_unknownNear9 F_hitNear9 F_moveStart9 F_changed9 F_waiting9, u9 = (dW D_hasBoard D_beganBlank F_mines F_moves9 F_changes9 G_width G_height G_size B_parts B_longest S_groups S_askedGroup S_taken R_waitingCount R_metCount A_grade A_cell A_mined A_withTotal A_numbers X_low X_high Y_low Y_high F_mined F_number F_state9 F_cellsIn9 F_unknownNear9 F_hitNear9 F_moveStart9 F_changed9 F_waiting9 F_seen G_near G_nearEnd B_chosen B_partOf B_rest B_unknowns B_partStart B_cells S_minedSet S_safeSet S_partSet S_tally S_askedTally S_groupOf S_groupSize S_links S_linkEnd S_pick S_groupMinedSet S_groupSafeSet O_sums O_nextSums R_found R_openEnds R_need R_waiting R_waits R_common R_met A_number Q_mined Q_all Q_choices Q_term Q_divisor Q_spare X_limbs X_sum Y_limbs Y_sum) ∧ px k9 F_moves9 F_changes9 F_state9 F_cellsIn9 F_unknownNear9 F_hitNear9 F_moveStart9 F_changed9 F_waiting9) := by
  refine xI_of (lv0 := [(0, .ref (ad 0)), (1, .int (iI x1)), (2, .int (iI x2))]) hst (by decide) (Nat.le_of_ble_eq_true rfl) rfl (Nat.le_of_ble_eq_true rfl) rfl rfl ?_
  intro p e s m args below meth c Q A C T ret XO thr
  replace C : Cx p ({ frames := 9, cells := 3, slots := 18, locals := 540 } : Room) m c 0 0 cX11_chord 5 s args RX11 K A := C
  unfold P_X11_chord at h
  refine wa_aload_n C 0 rfl dX11_chord_0 rfl ?_
  refine wa_iload_n C 1 rfl dX11_chord_1 rfl ?_
  refine wa_iload_n C 2 rfl dX11_chord_2 rfl ?_
  refine wa_xVi C T XO (k := 0) (As := [.int (iI x1), .int (iI x2)]) (rest := []) (c_X11_cellAt l hst K ad x1 x2 rx1 rx2 _ _ h) gw_880 gw_877 dW_0 rfl gw_879 gs_38 gw_1 q_X11_cellAt rfl rfl rfl ⟨by decide, by decide⟩ rfl (Nat.le_of_ble_eq_true rfl) dX11_chord_3 ⟨Nat.le_of_ble_eq_true rfl, Nat.le_of_ble_eq_true rfl⟩ ⟨Nat.le_of_ble_eq_true rfl, Nat.le_of_ble_eq_true rfl⟩ (fun z9 u9 hx9 => by obtain ⟨hk9, rfl, h9⟩ := hx9; exact ⟨by omega, _, _, _, _, _, _, _, _, _, rfl, h9⟩) (fun c_1 u9 rc_1 hp => ?_)
  replace C := C.more (cells' := 2) (slots' := 12) (Nat.le_of_ble_eq_true rfl) (Nat.le_of_ble_eq_true rfl)
  obtain ⟨rfl, h⟩ := hp
  replace h := h rc_1
  refine wa_istore_n C dX11_chord_6 rfl (by decide) rfl ?_
  refine wa_aload_n C 1 rfl dX11_chord_7 rfl ?_
  refine wa_getR C 0 0 dW_0 rfl rfl (by decide) okX11 gw_458 dX11_chord_8 ?_
  refine wa_callVi C (k := 1) (As := []) (rest := []) (c_X2_allowsMove l K ad  _ h) gw_943 gw_940 dW_1 rfl gw_941 gw_942 gw_2 q_X2_allowsMove rfl rfl rfl ⟨by decide, by decide⟩ rfl (Nat.le_of_ble_eq_true rfl) dX11_chord_11 (fun c_3 u9 rc_3 hp => ?_)
  obtain ⟨bc_3, rfl, h⟩ := hp
  replace h := h bc_3
  refine wa_if_eq C (tgt := 28) (inR_b bc_3) dX11_chord_14 (by decide) (fun c_4 => ?_) (fun c_4 => ?_)
  · replace h := h.1 c_4
    exact thr 3 (Nat.le_of_ble_eq_true rfl) (Nat.le_of_ble_eq_true rfl) xcl_3 xin_3 xat_3 (Nat.le_of_ble_eq_true rfl) dX11_chord_28 dX11_chord_31 dX11_chord_32 dX11_chord_35 ⟨by decide, _, _, _, _, _, _, _, _, _, rfl, h⟩
  · replace h := h.2 c_4
    refine wa_aload_n C 1 rfl dX11_chord_17 rfl ?_
    refine wa_getR C 0 0 dW_0 rfl rfl (by decide) okX11 gw_458 dX11_chord_18 ?_
    refine wa_iload_n C 0 rfl dX11_chord_21 rfl ?_
    refine wa_callVi C (k := 1) (As := [.int (iI c_1)]) (rest := []) (c_X2_isReadyToChord l K ad c_1 rc_1 _ h) gw_972 gw_969 dW_1 rfl gw_970 gw_971 gw_2 q_X2_isReadyToChord rfl rfl rfl ⟨by decide, by decide⟩ rfl (Nat.le_of_ble_eq_true rfl) dX11_chord_22 (fun c_5 u9 rc_5 hp => ?_)
    obtain ⟨bc_5, rfl, h⟩ := hp
    replace h := h bc_5
    refine wa_if_ne C (tgt := 36) (inR_b bc_5) dX11_chord_25 (by decide) (fun c_6 => ?_) (fun c_6 => ?_)
    · replace h := h.1 c_6
      refine wa_aload_n C 1 rfl dX11_chord_36 rfl ?_
      refine wa_getR C 0 0 dW_0 rfl rfl (by decide) okX11 gw_458 dX11_chord_37 ?_
      refine wa_callVi C (k := 1) (As := []) (rest := []) (c_X2_unknownCells l K ad  _ h) gw_810 gw_973 dW_1 rfl gw_808 gw_809 gw_2 q_X2_unknownCells rfl rfl rfl ⟨by decide, by decide⟩ rfl (Nat.le_of_ble_eq_true rfl) dX11_chord_40 (fun c_7 u9 rc_7 hp => ?_)
      obtain ⟨rfl, h⟩ := hp
      replace h := h rc_7
      refine wa_istore C dX11_chord_43 (by decide) rfl ?_
      refine wa_aload_n C 2 rfl dX11_chord_45 rfl ?_
      refine wa_getR C 0 0 dW_0 rfl rfl (by decide) okX11 gw_458 dX11_chord_46 ?_
      refine wa_callVv C (k := 1) (As := []) (rest := []) (c_X2_beginMove l K ad  _ h) gw_951 gw_948 dW_1 rfl gw_949 gw_950 gw_2 q_X2_beginMove rfl rfl rfl ⟨by decide, by decide⟩ rfl (Nat.le_of_ble_eq_true rfl) dX11_chord_49 (fun u9 hp => ?_)
      obtain ⟨F_moves_8, F_moveStart_9, rfl, h⟩ := hp
      refine wa_aload_n C 2 rfl dX11_chord_52 rfl ?_
      refine wa_getR C 0 0 dW_0 rfl rfl (by decide) okX11 gw_458 dX11_chord_53 ?_
      refine wa_iload_n C 1 rfl dX11_chord_56 rfl ?_
      refine wa_callVv C (k := 1) (As := [.int (iI c_1)]) (rest := []) (c_X2_uncoverAround l K ad c_1 rc_1 _ h) gw_977 gw_974 dW_1 rfl gw_975 gw_976 gw_2 q_X2_uncoverAround rfl rfl rfl ⟨by decide, by decide⟩ rfl (Nat.le_of_ble_eq_true rfl) dX11_chord_57 (fun u9 hp => ?_)
      obtain ⟨F_changes_10, F_state_11, F_cellsIn_12, F_unknownNear_13, F_hitNear_14, F_changed_15, F_waiting_16, rfl, h⟩ := hp
      refine wa_iload C 0 rfl dX11_chord_60 ?_
      refine wa_aload_n C 2 rfl dX11_chord_62 rfl ?_
      refine wa_getR C 0 0 dW_0 rfl rfl (by decide) okX11 gw_458 dX11_chord_63 ?_
      refine wa_callVi C (k := 1) (As := []) (rest := [.int (iI c_7)]) (c_X2_unknownCells l K ad  _ h) gw_810 gw_973 dW_1 rfl gw_808 gw_809 gw_2 q_X2_unknownCells rfl rfl rfl ⟨by decide, by decide⟩ rfl (Nat.le_of_ble_eq_true rfl) dX11_chord_66 (fun c_17 u9 rc_17 hp => ?_)
      obtain ⟨rfl, h⟩ := hp
      replace h := h rc_17
      refine wa_isub C dX11_chord_69 ?_
      obtain ⟨r_18, h⟩ := h
      exact ret (Nat.le_of_ble_eq_true rfl) (Nat.le_of_ble_eq_true rfl) dX11_chord_70 r_18 ⟨_, _, _, _, _, _, _, _, _, rfl, h⟩
    · replace h := h.2 c_6
      exact thr 3 (Nat.le_of_ble_eq_true rfl) (Nat.le_of_ble_eq_true rfl) xcl_3 xin_3 xat_3 (Nat.le_of_ble_eq_true rfl) dX11_chord_28 dX11_chord_31 dX11_chord_32 dX11_chord_35 ⟨by decide, _, _, _, _, _, _, _, _, _, rfl, h⟩
theorem dX11_undo_0 : decode cX11_undo 0 = .ok (.aload_n 0, 1) := by decide +kernel
theorem dX11_undo_1 : decode cX11_undo 1 = .ok (.invokevirtual 163, 3) := by decide +kernel
theorem dX11_undo_4 : decode cX11_undo 4 = .ok (.aload_n 0, 1) := by decide +kernel
theorem dX11_undo_5 : decode cX11_undo 5 = .ok (.getfield 12, 3) := by decide +kernel
theorem dX11_undo_8 : decode cX11_undo 8 = .ok (.getfield 111, 3) := by decide +kernel
theorem dX11_undo_11 : decode cX11_undo 11 = .ok (.ifCond .ne 11, 3) := by decide +kernel
theorem dX11_undo_14 : decode cX11_undo 14 = .ok (.new 115, 3) := by decide +kernel
theorem dX11_undo_17 : decode cX11_undo 17 = .ok (.dup, 1) := by decide +kernel
theorem dX11_undo_18 : decode cX11_undo 18 = .ok (.invokespecial 117, 3) := by decide +kernel
theorem dX11_undo_21 : decode cX11_undo 21 = .ok (.athrow, 1) := by decide +kernel
theorem dX11_undo_22 : decode cX11_undo 22 = .ok (.aload_n 0, 1) := by decide +kernel
theorem dX11_undo_23 : decode cX11_undo 23 = .ok (.getfield 12, 3) := by decide +kernel
theorem dX11_undo_26 : decode cX11_undo 26 = .ok (.invokevirtual 166, 3) := by decide +kernel
theorem dX11_undo_29 : decode cX11_undo 29 = .ok (.aload_n 0, 1) := by decide +kernel
theorem dX11_undo_30 : decode cX11_undo 30 = .ok (.getfield 12, 3) := by decide +kernel
theorem dX11_undo_33 : decode cX11_undo 33 = .ok (.getfield 111, 3) := by decide +kernel
theorem dX11_undo_36 : decode cX11_undo 36 = .ok (.ireturn, 1) := by decide +kernel
theorem q_X11_undo : yX11_undo.cls = RX11 ∧ yX11_undo.cls ≠ "java/lang/invoke/MethodHandle" ∧ yX11_undo.cls ≠ "java/lang/invoke/VarHandle" ∧ (parseMethodDescriptor yX11_undo.desc).map (fun d => d.parameters.length) = some 0 := ⟨rfl, by decide, by decide, by decide +kernel⟩
set_option maxRecDepth 100000 in
set_option maxHeartbeats 4000000 in
theorem c_X11_undo (l : Launch) (hst : l.stackTraces = false) (K : wK) (ad : Nat → Nat) {D_hasBoard : Int} {D_beganBlank : Int} {F_mines : Int} {F_moves : Int} {F_changes : Int} {G_width : Int} {G_height : Int} {G_size : Int} {B_parts : Int} {B_longest : Int} {S_groups : Int} {S_askedGroup : Int} {S_taken : Int} {R_waitingCount : Int} {R_metCount : Int} {A_grade : Int} {A_cell : Int} {A_mined : Int} {A_withTotal : Int} {A_numbers : Int} {X_low : Int} {X_high : Int} {Y_low : Int} {Y_high : Int} {F_mined : Int → Int} {F_number : Int → Int} {F_state : Int → Int} {F_cellsIn : Int → Int} {F_unknownNear : Int → Int} {F_hitNear : Int → Int} {F_moveStart : Int → Int} {F_changed : Int → Int} {F_waiting : Int → Int} {F_seen : Int → Int} {G_near : Int → Int} {G_nearEnd : Int → Int} {B_chosen : Int → Int} {B_partOf : Int → Int} {B_rest : Int → Int} {B_unknowns : Int → Int} {B_partStart : Int → Int} {B_cells : Int → Int} {S_minedSet : Int → Int} {S_safeSet : Int → Int} {S_partSet : Int → Int} {S_tally : Int → Int} {S_askedTally : Int → Int} {S_groupOf : Int → Int} {S_groupSize : Int → Int} {S_links : Int → Int} {S_linkEnd : Int → Int} {S_pick : Int → Int} {S_groupMinedSet : Int → Int} {S_groupSafeSet : Int → Int} {O_sums : Int → Int64} {O_nextSums : Int → Int64} {R_found : Int → Int} {R_openEnds : Int → Int} {R_need : Int → Int} {R_waiting : Int → Int} {R_waits : Int → Int} {R_common : Int → Int} {R_met : Int → Int} {A_number : Int → Int} {Q_mined : Int → Int64} {Q_all : Int → Int64} {Q_choices : Int → Int64} {Q_term : Int → Int64} {Q_divisor : Int → Int64} {Q_spare : Int → Int64} {X_limbs : Int → Int64} {X_sum : Int → Int64} {Y_limbs : Int → Int64} {Y_sum : Int → Int64}   (post : Int → (Int) → (Int) → (Int → Int) → (Int → Int) → (Int → Int) → (Int → Int) → Prop) (px : Int → (Int) → (Int) → (Int → Int) → (Int → Int) → (Int → Int) → (Int → Int) → Prop) (h : P_X11_undo post px D_hasBoard F_moves F_changes F_state F_cellsIn F_unknownNear F_hitNear F_moveStart F_changed G_near G_nearEnd) : xI l yX11_undo (Cond.code yX11_undo cX11_undo 1 (some .int) :: GT) ({ frames := 8, cells := 2, slots := 12, locals := 480 } : Room) 2 12 [.ref (ad 0)] K ad (dW D_hasBoard D_beganBlank F_mines F_moves F_changes G_width G_height G_size B_parts B_longest S_groups S_askedGroup S_taken R_waitingCount R_metCount A_grade A_cell A_mined A_withTotal A_numbers X_low X_high Y_low Y_high F_mined F_number F_state F_cellsIn F_unknownNear F_hitNear F_moveStart F_changed F_waiting F_seen G_near G_nearEnd B_chosen B_partOf B_rest B_unknowns B_partStart B_cells S_minedSet S_safeSet S_partSet S_tally S_askedTally S_groupOf S_groupSize S_links S_linkEnd S_pick S_groupMinedSet S_groupSafeSet O_sums O_nextSums R_found R_openEnds R_need R_waiting R_waits R_common R_met A_number Q_mined Q_all Q_choices Q_term Q_divisor Q_spare X_limbs X_sum Y_limbs Y_sum) (fun z9 u9 => ∃ F_moves9 F_changes9 F_state9 F_cellsIn9 F_unknownNear9 F_hitNear9, u9 = (dW D_hasBoard D_beganBlank F_mines F_moves9 F_changes9 G_width G_height G_size B_parts B_longest S_groups S_askedGroup S_taken R_waitingCount R_metCount A_grade A_cell A_mined A_withTotal A_numbers X_low X_high Y_low Y_high F_mined F_number F_state9 F_cellsIn9 F_unknownNear9 F_hitNear9 F_moveStart F_changed F_waiting F_seen G_near G_nearEnd B_chosen B_partOf B_rest B_unknowns B_partStart B_cells S_minedSet S_safeSet S_partSet S_tally S_askedTally S_groupOf S_groupSize S_links S_linkEnd S_pick S_groupMinedSet S_groupSafeSet O_sums O_nextSums R_found R_openEnds R_need R_waiting R_waits R_common R_met A_number Q_mined Q_all Q_choices Q_term Q_divisor Q_spare X_limbs X_sum Y_limbs Y_sum) ∧ post z9 F_moves9 F_changes9 F_state9 F_cellsIn9 F_unknownNear9 F_hitNear9) (fun k9 u9 => (k9 = 1 ∨ k9 = 3) ∧ ∃ F_moves9 F_changes9 F_state9 F_cellsIn9 F_unknownNear9 F_hitNear9, u9 = (dW D_hasBoard D_beganBlank F_mines F_moves9 F_changes9 G_width G_height G_size B_parts B_longest S_groups S_askedGroup S_taken R_waitingCount R_metCount A_grade A_cell A_mined A_withTotal A_numbers X_low X_high Y_low Y_high F_mined F_number F_state9 F_cellsIn9 F_unknownNear9 F_hitNear9 F_moveStart F_changed F_waiting F_seen G_near G_nearEnd B_chosen B_partOf B_rest B_unknowns B_partStart B_cells S_minedSet S_safeSet S_partSet S_tally S_askedTally S_groupOf S_groupSize S_links S_linkEnd S_pick S_groupMinedSet S_groupSafeSet O_sums O_nextSums R_found R_openEnds R_need R_waiting R_waits R_common R_met A_number Q_mined Q_all Q_choices Q_term Q_divisor Q_spare X_limbs X_sum Y_limbs Y_sum) ∧ px k9 F_moves9 F_changes9 F_state9 F_cellsIn9 F_unknownNear9 F_hitNear9) := by
  refine xI_of (lv0 := [(0, .ref (ad 0))]) hst (by decide) (Nat.le_of_ble_eq_true rfl) rfl (Nat.le_of_ble_eq_true rfl) rfl rfl ?_
  intro p e s m args below meth c Q A C T ret XO thr
  replace C : Cx p ({ frames := 8, cells := 2, slots := 12, locals := 480 } : Room) m c 0 0 cX11_undo 1 s args RX11 K A := C
  unfold P_X11_undo at h
  refine wa_aload_n C 0 rfl dX11_undo_0 rfl ?_
  refine wa_xVv C T XO (k := 0) (As := []) (rest := []) (c_X11_needBoard l hst K ad  _ _ h) gw_884 gw_881 dW_0 rfl gw_883 gs_39 gw_1 q_X11_needBoard rfl rfl rfl ⟨by decide, by decide⟩ rfl (Nat.le_of_ble_eq_true rfl) dX11_undo_1 ⟨Nat.le_of_ble_eq_true rfl, Nat.le_of_ble_eq_true rfl⟩ ⟨Nat.le_of_ble_eq_true rfl, Nat.le_of_ble_eq_true rfl⟩ (fun z9 u9 hx9 => by obtain ⟨hk9, rfl, h9⟩ := hx9; exact ⟨by omega, _, _, _, _, _, _, rfl, h9⟩) (fun u9 hp => ?_)
  replace C := C.more (cells' := 1) (slots' := 6) (Nat.le_of_ble_eq_true rfl) (Nat.le_of_ble_eq_true rfl)
  obtain ⟨rfl, h⟩ := hp
  refine wa_aload_n C 0 rfl dX11_undo_4 rfl ?_
  refine wa_getR C 0 0 dW_0 rfl rfl (by decide) okX11 gw_458 dX11_undo_5 ?_
  refine wa_getI C 1 8 dW_1 rfl rfl (by decide) okX2 gw_113 dX11_undo_8 (fun r_2 => ?_)
  refine wa_if_ne C (tgt := 22) r_2 dX11_undo_11 (by decide) (fun c_3 => ?_) (fun c_3 => ?_)
  · replace h := h.1 c_3
    refine wa_aload_n C 0 rfl dX11_undo_22 rfl ?_
    refine wa_getR C 0 0 dW_0 rfl rfl (by decide) okX11 gw_458 dX11_undo_23 ?_
    refine wa_callVv C (k := 1) (As := []) (rest := []) (c_X2_takeBackMove l K ad  _ h) gw_989 gw_986 dW_1 rfl gw_987 gw_988 gw_2 q_X2_takeBackMove rfl rfl rfl ⟨by decide, by decide⟩ rfl (Nat.le_of_ble_eq_true rfl) dX11_undo_26 (fun u9 hp => ?_)
    obtain ⟨F_moves_4, F_changes_5, F_state_6, F_cellsIn_7, F_unknownNear_8, F_hitNear_9, rfl, h⟩ := hp
    refine wa_aload_n C 0 rfl dX11_undo_29 rfl ?_
    refine wa_getR C 0 0 dW_0 rfl rfl (by decide) okX11 gw_458 dX11_undo_30 ?_
    refine wa_getI C 1 8 dW_1 rfl rfl (by decide) okX2 gw_113 dX11_undo_33 (fun r_10 => ?_)
    exact ret (Nat.le_of_ble_eq_true rfl) (Nat.le_of_ble_eq_true rfl) dX11_undo_36 r_10 ⟨_, _, _, _, _, _, rfl, h⟩
  · replace h := h.2 c_3
    exact thr 3 (Nat.le_of_ble_eq_true rfl) (Nat.le_of_ble_eq_true rfl) xcl_3 xin_3 xat_3 (Nat.le_of_ble_eq_true rfl) dX11_undo_14 dX11_undo_17 dX11_undo_18 dX11_undo_21 ⟨by decide, _, _, _, _, _, _, rfl, h⟩
theorem dX11_shown_0 : decode cX11_shown 0 = .ok (.aload_n 0, 1) := by decide +kernel
theorem dX11_shown_1 : decode cX11_shown 1 = .ok (.iload_n 1, 1) := by decide +kernel
theorem dX11_shown_2 : decode cX11_shown 2 = .ok (.iload_n 2, 1) := by decide +kernel
theorem dX11_shown_3 : decode cX11_shown 3 = .ok (.invokevirtual 107, 3) := by decide +kernel
theorem dX11_shown_6 : decode cX11_shown 6 = .ok (.istore_n 3, 1) := by decide +kernel
theorem dX11_shown_7 : decode cX11_shown 7 = .ok (.aload_n 0, 1) := by decide +kernel
theorem dX11_shown_8 : decode cX11_shown 8 = .ok (.getfield 12, 3) := by decide +kernel
theorem dX11_shown_11 : decode cX11_shown 11 = .ok (.getfield 129, 3) := by decide +kernel
theorem dX11_shown_14 : decode cX11_shown 14 = .ok (.iload_n 3, 1) := by decide +kernel
theorem dX11_shown_15 : decode cX11_shown 15 = .ok (.iaload, 1) := by decide +kernel
theorem dX11_shown_16 : decode cX11_shown 16 = .ok (.tableswitch 44 1 3 #[38, 28, 41], 28) := by decide +kernel
theorem dX11_shown_44 : decode cX11_shown 44 = .ok (.aload_n 0, 1) := by decide +kernel
theorem dX11_shown_45 : decode cX11_shown 45 = .ok (.getfield 12, 3) := by decide +kernel
theorem dX11_shown_48 : decode cX11_shown 48 = .ok (.getfield 144, 3) := by decide +kernel
theorem dX11_shown_51 : decode cX11_shown 51 = .ok (.iload_n 3, 1) := by decide +kernel
theorem dX11_shown_52 : decode cX11_shown 52 = .ok (.iaload, 1) := by decide +kernel
theorem dX11_shown_53 : decode cX11_shown 53 = .ok (.ireturn, 1) := by decide +kernel
theorem dX11_shown_54 : decode cX11_shown 54 = .ok (.bipush 11, 2) := by decide +kernel
theorem dX11_shown_56 : decode cX11_shown 56 = .ok (.ireturn, 1) := by decide +kernel
theorem dX11_shown_57 : decode cX11_shown 57 = .ok (.bipush 12, 2) := by decide +kernel
theorem dX11_shown_59 : decode cX11_shown 59 = .ok (.ireturn, 1) := by decide +kernel
theorem dX11_shown_60 : decode cX11_shown 60 = .ok (.bipush 10, 2) := by decide +kernel
theorem dX11_shown_62 : decode cX11_shown 62 = .ok (.ireturn, 1) := by decide +kernel
theorem q_X11_shown : yX11_shown.cls = RX11 ∧ yX11_shown.cls ≠ "java/lang/invoke/MethodHandle" ∧ yX11_shown.cls ≠ "java/lang/invoke/VarHandle" ∧ (parseMethodDescriptor yX11_shown.desc).map (fun d => d.parameters.length) = some 2 := ⟨rfl, by decide, by decide, by decide +kernel⟩
