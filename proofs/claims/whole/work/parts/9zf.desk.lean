theorem dX11_make_0 : decode cX11_make 0 = .ok (.iload_n 1, 1) := by decide +kernel
theorem dX11_make_1 : decode cX11_make 1 = .ok (.iload_n 2, 1) := by decide +kernel
theorem dX11_make_2 : decode cX11_make 2 = .ok (.iload 4, 2) := by decide +kernel
theorem dX11_make_4 : decode cX11_make 4 = .ok (.invokestatic 69, 3) := by decide +kernel
theorem dX11_make_7 : decode cX11_make 7 = .ok (.ifCond .eq 31, 3) := by decide +kernel
theorem dX11_make_10 : decode cX11_make 10 = .ok (.iload_n 3, 1) := by decide +kernel
theorem dX11_make_11 : decode cX11_make 11 = .ok (.iconst 1, 1) := by decide +kernel
theorem dX11_make_12 : decode cX11_make 12 = .ok (.if_icmp .lt 26, 3) := by decide +kernel
theorem dX11_make_15 : decode cX11_make 15 = .ok (.iload_n 3, 1) := by decide +kernel
theorem dX11_make_16 : decode cX11_make 16 = .ok (.iload_n 1, 1) := by decide +kernel
theorem dX11_make_17 : decode cX11_make 17 = .ok (.iload_n 2, 1) := by decide +kernel
theorem dX11_make_18 : decode cX11_make 18 = .ok (.iload 4, 2) := by decide +kernel
theorem dX11_make_20 : decode cX11_make 20 = .ok (.invokestatic 75, 3) := by decide +kernel
theorem dX11_make_23 : decode cX11_make 23 = .ok (.if_icmp .gt 15, 3) := by decide +kernel
theorem dX11_make_26 : decode cX11_make 26 = .ok (.iload 6, 2) := by decide +kernel
theorem dX11_make_28 : decode cX11_make 28 = .ok (.iconst 1, 1) := by decide +kernel
theorem dX11_make_29 : decode cX11_make 29 = .ok (.if_icmp .lt 9, 3) := by decide +kernel
theorem dX11_make_32 : decode cX11_make 32 = .ok (.iload 6, 2) := by decide +kernel
theorem dX11_make_34 : decode cX11_make 34 = .ok (.iconst 3, 1) := by decide +kernel
theorem dX11_make_35 : decode cX11_make 35 = .ok (.if_icmp .le 11, 3) := by decide +kernel
theorem dX11_make_38 : decode cX11_make 38 = .ok (.new 79, 3) := by decide +kernel
theorem dX11_make_41 : decode cX11_make 41 = .ok (.dup, 1) := by decide +kernel
theorem dX11_make_42 : decode cX11_make 42 = .ok (.invokespecial 81, 3) := by decide +kernel
theorem dX11_make_45 : decode cX11_make 45 = .ok (.athrow, 1) := by decide +kernel
theorem dX11_make_46 : decode cX11_make 46 = .ok (.aload_n 0, 1) := by decide +kernel
theorem dX11_make_47 : decode cX11_make 47 = .ok (.getfield 12, 3) := by decide +kernel
theorem dX11_make_50 : decode cX11_make 50 = .ok (.iload_n 1, 1) := by decide +kernel
theorem dX11_make_51 : decode cX11_make 51 = .ok (.iload_n 2, 1) := by decide +kernel
theorem dX11_make_52 : decode cX11_make 52 = .ok (.iload 4, 2) := by decide +kernel
theorem dX11_make_54 : decode cX11_make 54 = .ok (.invokevirtual 82, 3) := by decide +kernel
theorem dX11_make_57 : decode cX11_make 57 = .ok (.aload_n 0, 1) := by decide +kernel
theorem dX11_make_58 : decode cX11_make 58 = .ok (.getfield 49, 3) := by decide +kernel
theorem dX11_make_61 : decode cX11_make 61 = .ok (.invokevirtual 86, 3) := by decide +kernel
theorem dX11_make_64 : decode cX11_make 64 = .ok (.aload_n 0, 1) := by decide +kernel
theorem dX11_make_65 : decode cX11_make 65 = .ok (.getfield 65, 3) := by decide +kernel
theorem dX11_make_68 : decode cX11_make 68 = .ok (.iload_n 3, 1) := by decide +kernel
theorem dX11_make_69 : decode cX11_make 69 = .ok (.iload 5, 2) := by decide +kernel
theorem dX11_make_71 : decode cX11_make 71 = .ok (.invokevirtual 89, 3) := by decide +kernel
theorem dX11_make_74 : decode cX11_make 74 = .ok (.aload_n 0, 1) := by decide +kernel
theorem dX11_make_75 : decode cX11_make 75 = .ok (.iconst 0, 1) := by decide +kernel
theorem dX11_make_76 : decode cX11_make 76 = .ok (.putfield 93, 3) := by decide +kernel
theorem dX11_make_79 : decode cX11_make 79 = .ok (.aload_n 0, 1) := by decide +kernel
theorem dX11_make_80 : decode cX11_make 80 = .ok (.aload_n 0, 1) := by decide +kernel
theorem dX11_make_81 : decode cX11_make 81 = .ok (.getfield 65, 3) := by decide +kernel
theorem dX11_make_84 : decode cX11_make 84 = .ok (.iload 6, 2) := by decide +kernel
theorem dX11_make_86 : decode cX11_make 86 = .ok (.invokevirtual 97, 3) := by decide +kernel
theorem dX11_make_89 : decode cX11_make 89 = .ok (.putfield 101, 3) := by decide +kernel
theorem dX11_make_92 : decode cX11_make 92 = .ok (.aload_n 0, 1) := by decide +kernel
theorem dX11_make_93 : decode cX11_make 93 = .ok (.getfield 12, 3) := by decide +kernel
theorem dX11_make_96 : decode cX11_make 96 = .ok (.invokevirtual 104, 3) := by decide +kernel
theorem dX11_make_99 : decode cX11_make 99 = .ok (.aload_n 0, 1) := by decide +kernel
theorem dX11_make_100 : decode cX11_make 100 = .ok (.getfield 101, 3) := by decide +kernel
theorem dX11_make_103 : decode cX11_make 103 = .ok (.ifCond .eq 7, 3) := by decide +kernel
theorem dX11_make_106 : decode cX11_make 106 = .ok (.iconst 1, 1) := by decide +kernel
theorem dX11_make_107 : decode cX11_make 107 = .ok (.goto 4, 3) := by decide +kernel
theorem dX11_make_110 : decode cX11_make 110 = .ok (.iconst 0, 1) := by decide +kernel
theorem dX11_make_111 : decode cX11_make 111 = .ok (.ireturn, 1) := by decide +kernel
theorem q_X11_make : yX11_make.cls = RX11 ∧ yX11_make.cls ≠ "java/lang/invoke/MethodHandle" ∧ yX11_make.cls ≠ "java/lang/invoke/VarHandle" ∧ (parseMethodDescriptor yX11_make.desc).map (fun d => d.parameters.length) = some 6 := ⟨rfl, by decide, by decide, by decide +kernel⟩
set_option maxRecDepth 100000 in
set_option maxHeartbeats 4000000 in
theorem c_X11_make (l : Launch) (hst : l.stackTraces = false) (K : wK) (ad : Nat → Nat) {D_hasBoard : Int} {D_beganBlank : Int} {F_mines : Int} {F_moves : Int} {F_changes : Int} {G_width : Int} {G_height : Int} {G_size : Int} {B_parts : Int} {B_longest : Int} {S_groups : Int} {S_askedGroup : Int} {S_taken : Int} {R_waitingCount : Int} {R_metCount : Int} {A_grade : Int} {A_cell : Int} {A_mined : Int} {A_withTotal : Int} {A_numbers : Int} {X_low : Int} {X_high : Int} {Y_low : Int} {Y_high : Int} {F_mined : Int → Int} {F_number : Int → Int} {F_state : Int → Int} {F_cellsIn : Int → Int} {F_unknownNear : Int → Int} {F_hitNear : Int → Int} {F_moveStart : Int → Int} {F_changed : Int → Int} {F_waiting : Int → Int} {F_seen : Int → Int} {G_near : Int → Int} {G_nearEnd : Int → Int} {B_chosen : Int → Int} {B_partOf : Int → Int} {B_rest : Int → Int} {B_unknowns : Int → Int} {B_partStart : Int → Int} {B_cells : Int → Int} {S_minedSet : Int → Int} {S_safeSet : Int → Int} {S_partSet : Int → Int} {S_tally : Int → Int} {S_askedTally : Int → Int} {S_groupOf : Int → Int} {S_groupSize : Int → Int} {S_links : Int → Int} {S_linkEnd : Int → Int} {S_pick : Int → Int} {S_groupMinedSet : Int → Int} {S_groupSafeSet : Int → Int} {O_sums : Int → Int64} {O_nextSums : Int → Int64} {R_found : Int → Int} {R_openEnds : Int → Int} {R_need : Int → Int} {R_waiting : Int → Int} {R_waits : Int → Int} {R_common : Int → Int} {R_met : Int → Int} {A_number : Int → Int} {Q_mined : Int → Int64} {Q_all : Int → Int64} {Q_choices : Int → Int64} {Q_term : Int → Int64} {Q_divisor : Int → Int64} {Q_spare : Int → Int64} {X_limbs : Int → Int64} {X_sum : Int → Int64} {Y_limbs : Int → Int64} {Y_sum : Int → Int64} (x1 : Int) (x2 : Int) (x3 : Int) (x4 : Int) (x5 : Int) (x6 : Int) (rx1 : inR x1) (rx2 : inR x2) (rx3 : inR x3) (rx4 : inR x4) (rx5 : inR x5) (rx6 : inR x6) (post : Int → (Int) → (Int) → (Int) → (Int) → (Int) → (Int) → (Int) → (Int) → (Int) → (Int) → (Int) → (Int) → (Int) → (Int) → (Int) → (Int) → (Int) → (Int) → (Int) → (Int) → (Int → Int) → (Int → Int) → (Int → Int) → (Int → Int) → (Int → Int) → (Int → Int) → (Int → Int) → (Int → Int) → (Int → Int) → (Int → Int) → (Int → Int) → (Int → Int) → (Int → Int) → (Int → Int) → (Int → Int) → (Int → Int) → (Int → Int) → (Int → Int) → (Int → Int) → (Int → Int) → (Int → Int) → (Int → Int) → (Int → Int) → (Int → Int) → (Int → Int) → (Int → Int) → (Int → Int) → (Int → Int) → (Int → Int64) → (Int → Int64) → (Int → Int) → (Int → Int) → (Int → Int) → (Int → Int) → (Int → Int) → (Int → Int) → (Int → Int) → Prop) (px : Int → (Int) → (Int) → (Int) → (Int) → (Int) → (Int) → (Int) → (Int) → (Int) → (Int) → (Int) → (Int) → (Int) → (Int) → (Int) → (Int) → (Int) → (Int) → (Int) → (Int) → (Int → Int) → (Int → Int) → (Int → Int) → (Int → Int) → (Int → Int) → (Int → Int) → (Int → Int) → (Int → Int) → (Int → Int) → (Int → Int) → (Int → Int) → (Int → Int) → (Int → Int) → (Int → Int) → (Int → Int) → (Int → Int) → (Int → Int) → (Int → Int) → (Int → Int) → (Int → Int) → (Int → Int) → (Int → Int) → (Int → Int) → (Int → Int) → (Int → Int) → (Int → Int) → (Int → Int) → (Int → Int) → (Int → Int64) → (Int → Int64) → (Int → Int) → (Int → Int) → (Int → Int) → (Int → Int) → (Int → Int) → (Int → Int) → (Int → Int) → Prop) (h : P_X11_make post px D_hasBoard D_beganBlank F_mines F_moves F_changes G_width G_height G_size B_parts B_longest S_groups S_askedGroup S_taken R_waitingCount R_metCount A_grade A_cell A_mined A_withTotal A_numbers F_mined F_number F_state F_cellsIn F_unknownNear F_hitNear F_changed F_waiting G_near G_nearEnd B_chosen B_partOf B_rest B_unknowns B_partStart B_cells S_minedSet S_safeSet S_partSet S_tally S_askedTally S_groupOf S_groupSize S_links S_linkEnd S_pick S_groupMinedSet S_groupSafeSet O_sums O_nextSums R_found R_openEnds R_need R_waiting R_waits R_common R_met x1 x2 x3 x4 x5 x6) : xI l yX11_make (Cond.code yX11_make cX11_make 7 (some .int) :: GT) ({ frames := 27, cells := 1, slots := 6, locals := 1620 } : Room) 1 6 [.ref (ad 0), .int (iI x1), .int (iI x2), .int (iI x3), .int (iI x4), .int (iI x5), .int (iI x6)] K ad (dW D_hasBoard D_beganBlank F_mines F_moves F_changes G_width G_height G_size B_parts B_longest S_groups S_askedGroup S_taken R_waitingCount R_metCount A_grade A_cell A_mined A_withTotal A_numbers X_low X_high Y_low Y_high F_mined F_number F_state F_cellsIn F_unknownNear F_hitNear F_moveStart F_changed F_waiting F_seen G_near G_nearEnd B_chosen B_partOf B_rest B_unknowns B_partStart B_cells S_minedSet S_safeSet S_partSet S_tally S_askedTally S_groupOf S_groupSize S_links S_linkEnd S_pick S_groupMinedSet S_groupSafeSet O_sums O_nextSums R_found R_openEnds R_need R_waiting R_waits R_common R_met A_number Q_mined Q_all Q_choices Q_term Q_divisor Q_spare X_limbs X_sum Y_limbs Y_sum) (fun z9 u9 => ∃ D_hasBoard9 D_beganBlank9 F_mines9 F_moves9 F_changes9 G_width9 G_height9 G_size9 B_parts9 B_longest9 S_groups9 S_askedGroup9 S_taken9 R_waitingCount9 R_metCount9 A_grade9 A_cell9 A_mined9 A_withTotal9 A_numbers9 F_mined9 F_number9 F_state9 F_cellsIn9 F_unknownNear9 F_hitNear9 F_changed9 F_waiting9 G_near9 G_nearEnd9 B_chosen9 B_partOf9 B_rest9 B_unknowns9 B_partStart9 B_cells9 S_minedSet9 S_safeSet9 S_partSet9 S_tally9 S_askedTally9 S_groupOf9 S_groupSize9 S_links9 S_linkEnd9 S_pick9 S_groupMinedSet9 S_groupSafeSet9 O_sums9 O_nextSums9 R_found9 R_openEnds9 R_need9 R_waiting9 R_waits9 R_common9 R_met9, u9 = (dW D_hasBoard9 D_beganBlank9 F_mines9 F_moves9 F_changes9 G_width9 G_height9 G_size9 B_parts9 B_longest9 S_groups9 S_askedGroup9 S_taken9 R_waitingCount9 R_metCount9 A_grade9 A_cell9 A_mined9 A_withTotal9 A_numbers9 X_low X_high Y_low Y_high F_mined9 F_number9 F_state9 F_cellsIn9 F_unknownNear9 F_hitNear9 F_moveStart F_changed9 F_waiting9 F_seen G_near9 G_nearEnd9 B_chosen9 B_partOf9 B_rest9 B_unknowns9 B_partStart9 B_cells9 S_minedSet9 S_safeSet9 S_partSet9 S_tally9 S_askedTally9 S_groupOf9 S_groupSize9 S_links9 S_linkEnd9 S_pick9 S_groupMinedSet9 S_groupSafeSet9 O_sums9 O_nextSums9 R_found9 R_openEnds9 R_need9 R_waiting9 R_waits9 R_common9 R_met9 A_number Q_mined Q_all Q_choices Q_term Q_divisor Q_spare X_limbs X_sum Y_limbs Y_sum) ∧ post z9 D_hasBoard9 D_beganBlank9 F_mines9 F_moves9 F_changes9 G_width9 G_height9 G_size9 B_parts9 B_longest9 S_groups9 S_askedGroup9 S_taken9 R_waitingCount9 R_metCount9 A_grade9 A_cell9 A_mined9 A_withTotal9 A_numbers9 F_mined9 F_number9 F_state9 F_cellsIn9 F_unknownNear9 F_hitNear9 F_changed9 F_waiting9 G_near9 G_nearEnd9 B_chosen9 B_partOf9 B_rest9 B_unknowns9 B_partStart9 B_cells9 S_minedSet9 S_safeSet9 S_partSet9 S_tally9 S_askedTally9 S_groupOf9 S_groupSize9 S_links9 S_linkEnd9 S_pick9 S_groupMinedSet9 S_groupSafeSet9 O_sums9 O_nextSums9 R_found9 R_openEnds9 R_need9 R_waiting9 R_waits9 R_common9 R_met9) (fun k9 u9 => (k9 = 4) ∧ ∃ D_hasBoard9 D_beganBlank9 F_mines9 F_moves9 F_changes9 G_width9 G_height9 G_size9 B_parts9 B_longest9 S_groups9 S_askedGroup9 S_taken9 R_waitingCount9 R_metCount9 A_grade9 A_cell9 A_mined9 A_withTotal9 A_numbers9 F_mined9 F_number9 F_state9 F_cellsIn9 F_unknownNear9 F_hitNear9 F_changed9 F_waiting9 G_near9 G_nearEnd9 B_chosen9 B_partOf9 B_rest9 B_unknowns9 B_partStart9 B_cells9 S_minedSet9 S_safeSet9 S_partSet9 S_tally9 S_askedTally9 S_groupOf9 S_groupSize9 S_links9 S_linkEnd9 S_pick9 S_groupMinedSet9 S_groupSafeSet9 O_sums9 O_nextSums9 R_found9 R_openEnds9 R_need9 R_waiting9 R_waits9 R_common9 R_met9, u9 = (dW D_hasBoard9 D_beganBlank9 F_mines9 F_moves9 F_changes9 G_width9 G_height9 G_size9 B_parts9 B_longest9 S_groups9 S_askedGroup9 S_taken9 R_waitingCount9 R_metCount9 A_grade9 A_cell9 A_mined9 A_withTotal9 A_numbers9 X_low X_high Y_low Y_high F_mined9 F_number9 F_state9 F_cellsIn9 F_unknownNear9 F_hitNear9 F_moveStart F_changed9 F_waiting9 F_seen G_near9 G_nearEnd9 B_chosen9 B_partOf9 B_rest9 B_unknowns9 B_partStart9 B_cells9 S_minedSet9 S_safeSet9 S_partSet9 S_tally9 S_askedTally9 S_groupOf9 S_groupSize9 S_links9 S_linkEnd9 S_pick9 S_groupMinedSet9 S_groupSafeSet9 O_sums9 O_nextSums9 R_found9 R_openEnds9 R_need9 R_waiting9 R_waits9 R_common9 R_met9 A_number Q_mined Q_all Q_choices Q_term Q_divisor Q_spare X_limbs X_sum Y_limbs Y_sum) ∧ px k9 D_hasBoard9 D_beganBlank9 F_mines9 F_moves9 F_changes9 G_width9 G_height9 G_size9 B_parts9 B_longest9 S_groups9 S_askedGroup9 S_taken9 R_waitingCount9 R_metCount9 A_grade9 A_cell9 A_mined9 A_withTotal9 A_numbers9 F_mined9 F_number9 F_state9 F_cellsIn9 F_unknownNear9 F_hitNear9 F_changed9 F_waiting9 G_near9 G_nearEnd9 B_chosen9 B_partOf9 B_rest9 B_unknowns9 B_partStart9 B_cells9 S_minedSet9 S_safeSet9 S_partSet9 S_tally9 S_askedTally9 S_groupOf9 S_groupSize9 S_links9 S_linkEnd9 S_pick9 S_groupMinedSet9 S_groupSafeSet9 O_sums9 O_nextSums9 R_found9 R_openEnds9 R_need9 R_waiting9 R_waits9 R_common9 R_met9) := by
  refine xI_of (lv0 := [(0, .ref (ad 0)), (1, .int (iI x1)), (2, .int (iI x2)), (3, .int (iI x3)), (4, .int (iI x4)), (5, .int (iI x5)), (6, .int (iI x6))]) hst (by decide) (Nat.le_of_ble_eq_true rfl) rfl (Nat.le_of_ble_eq_true rfl) rfl rfl ?_
  intro p e s m args below meth c Q A C T ret XO thr
  replace C : Cx p ({ frames := 27, cells := 1, slots := 6, locals := 1620 } : Room) m c 0 0 cX11_make 7 s args RX11 K A := C
  unfold P_X11_make at h
  refine wa_iload_n C 1 rfl dX11_make_0 rfl ?_
  refine wa_iload_n C 2 rfl dX11_make_1 rfl ?_
  refine wa_iload C 4 rfl dX11_make_2 ?_
  refine wa_callSi C (As := [.int (iI x1), .int (iI x2), .int (iI x4)]) (rest := []) (c_X3_isPossible l K ad x1 x2 x4 rx1 rx2 rx4 _ h) gw_493 gw_491 gw_492 gw_3 q_X3_isPossible rfl rfl rfl ⟨by decide, by decide⟩ rfl (Nat.le_of_ble_eq_true rfl) dX11_make_4 (fun c_1 u9 rc_1 hp => ?_)
  obtain ⟨bc_1, rfl, h⟩ := hp
  replace h := h bc_1
  refine wa_if_eq C (tgt := 38) (inR_b bc_1) dX11_make_7 (by decide) (fun c_2 => ?_) (fun c_2 => ?_)
  · replace h := h.1 c_2
    exact thr 4 (Nat.le_of_ble_eq_true rfl) (Nat.le_of_ble_eq_true rfl) xcl_4 xin_4 xat_4 (Nat.le_of_ble_eq_true rfl) dX11_make_38 dX11_make_41 dX11_make_42 dX11_make_45 ⟨by decide, _, _, _, _, _, _, _, _, _, _, _, _, _, _, _, _, _, _, _, _, _, _, _, _, _, _, _, _, _, _, _, _, _, _, _, _, _, _, _, _, _, _, _, _, _, _, _, _, _, _, _, _, _, _, _, _, _, rfl, h⟩
  · replace h := h.2 c_2
    refine wa_iload_n C 3 rfl dX11_make_10 rfl ?_
    refine wa_iconst C (z := 1) dX11_make_11 rfl ?_
    refine wa_icmp_lt C (tgt := 38) rx3 (inR_k 1 rfl) dX11_make_12 (by decide) (fun c_3 => ?_) (fun c_3 => ?_)
    · replace h := h.1 c_3
      exact thr 4 (Nat.le_of_ble_eq_true rfl) (Nat.le_of_ble_eq_true rfl) xcl_4 xin_4 xat_4 (Nat.le_of_ble_eq_true rfl) dX11_make_38 dX11_make_41 dX11_make_42 dX11_make_45 ⟨by decide, _, _, _, _, _, _, _, _, _, _, _, _, _, _, _, _, _, _, _, _, _, _, _, _, _, _, _, _, _, _, _, _, _, _, _, _, _, _, _, _, _, _, _, _, _, _, _, _, _, _, _, _, _, _, _, _, _, rfl, h⟩
    · replace h := h.2 c_3
      refine wa_iload_n C 3 rfl dX11_make_15 rfl ?_
      refine wa_iload_n C 1 rfl dX11_make_16 rfl ?_
      refine wa_iload_n C 2 rfl dX11_make_17 rfl ?_
      refine wa_iload C 4 rfl dX11_make_18 ?_
      refine wa_callSi C (As := [.int (iI x1), .int (iI x2), .int (iI x4)]) (rest := [.int (iI x3)]) (c_X4_freeCells l K ad x1 x2 x4 rx1 rx2 rx4 _ h) gw_496 gw_494 gw_495 gw_11 q_X4_freeCells rfl rfl rfl ⟨by decide, by decide⟩ rfl (Nat.le_of_ble_eq_true rfl) dX11_make_20 (fun c_4 u9 rc_4 hp => ?_)
      obtain ⟨rfl, h⟩ := hp
      replace h := h rc_4
      refine wa_icmp_gt C (tgt := 38) rx3 rc_4 dX11_make_23 (by decide) (fun c_5 => ?_) (fun c_5 => ?_)
      · replace h := h.1 c_5
        exact thr 4 (Nat.le_of_ble_eq_true rfl) (Nat.le_of_ble_eq_true rfl) xcl_4 xin_4 xat_4 (Nat.le_of_ble_eq_true rfl) dX11_make_38 dX11_make_41 dX11_make_42 dX11_make_45 ⟨by decide, _, _, _, _, _, _, _, _, _, _, _, _, _, _, _, _, _, _, _, _, _, _, _, _, _, _, _, _, _, _, _, _, _, _, _, _, _, _, _, _, _, _, _, _, _, _, _, _, _, _, _, _, _, _, _, _, _, rfl, h⟩
      · replace h := h.2 c_5
        refine wa_iload C 6 rfl dX11_make_26 ?_
        refine wa_iconst C (z := 1) dX11_make_28 rfl ?_
        refine wa_icmp_lt C (tgt := 38) rx6 (inR_k 1 rfl) dX11_make_29 (by decide) (fun c_6 => ?_) (fun c_6 => ?_)
        · replace h := h.1 c_6
          exact thr 4 (Nat.le_of_ble_eq_true rfl) (Nat.le_of_ble_eq_true rfl) xcl_4 xin_4 xat_4 (Nat.le_of_ble_eq_true rfl) dX11_make_38 dX11_make_41 dX11_make_42 dX11_make_45 ⟨by decide, _, _, _, _, _, _, _, _, _, _, _, _, _, _, _, _, _, _, _, _, _, _, _, _, _, _, _, _, _, _, _, _, _, _, _, _, _, _, _, _, _, _, _, _, _, _, _, _, _, _, _, _, _, _, _, _, _, rfl, h⟩
        · replace h := h.2 c_6
          refine wa_iload C 6 rfl dX11_make_32 ?_
          refine wa_iconst C (z := 3) dX11_make_34 rfl ?_
          refine wa_icmp_le C (tgt := 46) rx6 (inR_k 3 rfl) dX11_make_35 (by decide) (fun c_7 => ?_) (fun c_7 => ?_)
          · replace h := h.1 c_7
            refine wa_aload_n C 0 rfl dX11_make_46 rfl ?_
            refine wa_getR C 0 0 dW_0 rfl rfl (by decide) okX11 gw_458 dX11_make_47 ?_
            refine wa_iload_n C 1 rfl dX11_make_50 rfl ?_
            refine wa_iload_n C 2 rfl dX11_make_51 rfl ?_
            refine wa_iload C 4 rfl dX11_make_52 ?_
            refine wa_callVv C (k := 1) (As := [.int (iI x1), .int (iI x2), .int (iI x4)]) (rest := []) (c_X2_begin l K ad x1 x2 x4 rx1 rx2 rx4 _ h) gw_567 gw_564 dW_1 rfl gw_565 gw_566 gw_2 q_X2_begin rfl rfl rfl ⟨by decide, by decide⟩ rfl (Nat.le_of_ble_eq_true rfl) dX11_make_54 (fun u9 hp => ?_)
            obtain ⟨F_mines_8, F_moves_9, F_changes_10, G_width_11, G_height_12, G_size_13, F_mined_14, F_number_15, F_state_16, F_cellsIn_17, F_unknownNear_18, F_hitNear_19, G_near_20, G_nearEnd_21, rfl, h⟩ := hp
            refine wa_aload_n C 0 rfl dX11_make_57 rfl ?_
            refine wa_getR C 0 3 dW_0 rfl rfl (by decide) okX11 gw_461 dX11_make_58 ?_
            refine wa_callVv C (k := 7) (As := []) (rest := []) (c_X0_forget l K ad  _ h) gw_605 gw_602 dW_7 rfl gw_603 gw_604 gw_8 q_X0_forget rfl rfl rfl ⟨by decide, by decide⟩ rfl (Nat.le_of_ble_eq_true rfl) dX11_make_61 (fun u9 hp => ?_)
            obtain ⟨A_grade_22, A_cell_23, A_mined_24, A_withTotal_25, A_numbers_26, rfl, h⟩ := hp
            refine wa_aload_n C 0 rfl dX11_make_64 rfl ?_
            refine wa_getR C 0 5 dW_0 rfl rfl (by decide) okX11 gw_463 dX11_make_65 ?_
            refine wa_iload_n C 3 rfl dX11_make_68 rfl ?_
            refine wa_iload C 5 rfl dX11_make_69 ?_
            refine wa_callVv C (k := 11) (As := [.int (iI x3), .int (iI x5)]) (rest := []) (c_X4_scatter l K ad x3 x5 rx3 rx5 _ h) gw_609 gw_606 dW_11 rfl gw_607 gw_608 gw_11 q_X4_scatter rfl rfl rfl ⟨by decide, by decide⟩ rfl (Nat.le_of_ble_eq_true rfl) dX11_make_71 (fun u9 hp => ?_)
            obtain ⟨F_mines_27, F_mined_28, F_number_29, rfl, h⟩ := hp
            refine wa_aload_n C 0 rfl dX11_make_74 rfl ?_
            refine wa_iconst C (z := 0) dX11_make_75 rfl ?_
            refine wa_putZ C (ws' := (dW D_hasBoard 0 F_mines_27 F_moves_9 F_changes_10 G_width_11 G_height_12 G_size_13 B_parts B_longest S_groups S_askedGroup S_taken R_waitingCount R_metCount A_grade_22 A_cell_23 A_mined_24 A_withTotal_25 A_numbers_26 X_low X_high Y_low Y_high F_mined_28 F_number_29 F_state_16 F_cellsIn_17 F_unknownNear_18 F_hitNear_19 F_moveStart F_changed F_waiting F_seen G_near_20 G_nearEnd_21 B_chosen B_partOf B_rest B_unknowns B_partStart B_cells S_minedSet S_safeSet S_partSet S_tally S_askedTally S_groupOf S_groupSize S_links S_linkEnd S_pick S_groupMinedSet S_groupSafeSet O_sums O_nextSums R_found R_openEnds R_need R_waiting R_waits R_common R_met A_number Q_mined Q_all Q_choices Q_term Q_divisor Q_spare X_limbs X_sum Y_limbs Y_sum)) 0 7 dW_0 rfl (by decide) okX11 gw_465 rfl rfl (Nat.le_of_ble_eq_true rfl) (Or.inl rfl) (dWp_0_7 _) dX11_make_76 ?_
            refine wa_aload_n C 0 rfl dX11_make_79 rfl ?_
            refine wa_aload_n C 0 rfl dX11_make_80 rfl ?_
            refine wa_getR C 0 5 dW_0 rfl rfl (by decide) okX11 gw_463 dX11_make_81 ?_
            refine wa_iload C 6 rfl dX11_make_84 ?_
            refine wa_callVi C (k := 11) (As := [.int (iI x6)]) (rest := [.ref (ad 0)]) (c_X4_settle l K ad x6 rx6 _ h) gw_640 gw_637 dW_11 rfl gw_638 gw_639 gw_11 q_X4_settle rfl rfl rfl ⟨by decide, by decide⟩ rfl (Nat.le_of_ble_eq_true rfl) dX11_make_86 (fun c_30 u9 rc_30 hp => ?_)
            obtain ⟨bc_30, F_mines_31, F_moves_32, F_changes_33, B_parts_34, B_longest_35, S_groups_36, S_askedGroup_37, S_taken_38, R_waitingCount_39, R_metCount_40, F_mined_41, F_number_42, F_state_43, F_cellsIn_44, F_unknownNear_45, F_hitNear_46, F_changed_47, F_waiting_48, B_chosen_49, B_partOf_50, B_rest_51, B_unknowns_52, B_partStart_53, B_cells_54, S_minedSet_55, S_safeSet_56, S_partSet_57, S_tally_58, S_askedTally_59, S_groupOf_60, S_groupSize_61, S_links_62, S_linkEnd_63, S_pick_64, S_groupMinedSet_65, S_groupSafeSet_66, O_sums_67, O_nextSums_68, R_found_69, R_openEnds_70, R_need_71, R_waiting_72, R_waits_73, R_common_74, R_met_75, rfl, h⟩ := hp
            replace h := h bc_30
            refine wa_putZ C (ws' := (dW c_30 0 F_mines_31 F_moves_32 F_changes_33 G_width_11 G_height_12 G_size_13 B_parts_34 B_longest_35 S_groups_36 S_askedGroup_37 S_taken_38 R_waitingCount_39 R_metCount_40 A_grade_22 A_cell_23 A_mined_24 A_withTotal_25 A_numbers_26 X_low X_high Y_low Y_high F_mined_41 F_number_42 F_state_43 F_cellsIn_44 F_unknownNear_45 F_hitNear_46 F_moveStart F_changed_47 F_waiting_48 F_seen G_near_20 G_nearEnd_21 B_chosen_49 B_partOf_50 B_rest_51 B_unknowns_52 B_partStart_53 B_cells_54 S_minedSet_55 S_safeSet_56 S_partSet_57 S_tally_58 S_askedTally_59 S_groupOf_60 S_groupSize_61 S_links_62 S_linkEnd_63 S_pick_64 S_groupMinedSet_65 S_groupSafeSet_66 O_sums_67 O_nextSums_68 R_found_69 R_openEnds_70 R_need_71 R_waiting_72 R_waits_73 R_common_74 R_met_75 A_number Q_mined Q_all Q_choices Q_term Q_divisor Q_spare X_limbs X_sum Y_limbs Y_sum)) 0 6 dW_0 rfl (by decide) okX11 gw_464 rfl rfl (Nat.le_of_ble_eq_true rfl) bc_30 (dWp_0_6 _) dX11_make_89 ?_
            refine wa_aload_n C 0 rfl dX11_make_92 rfl ?_
            refine wa_getR C 0 0 dW_0 rfl rfl (by decide) okX11 gw_458 dX11_make_93 ?_
            refine wa_callVv C (k := 1) (As := []) (rest := []) (c_X2_closeAll l K ad  _ h) gw_598 gw_859 dW_1 rfl gw_596 gw_597 gw_2 q_X2_closeAll rfl rfl rfl ⟨by decide, by decide⟩ rfl (Nat.le_of_ble_eq_true rfl) dX11_make_96 (fun u9 hp => ?_)
            obtain ⟨F_moves_76, F_changes_77, F_state_78, F_cellsIn_79, F_unknownNear_80, F_hitNear_81, rfl, h⟩ := hp
            refine wa_aload_n C 0 rfl dX11_make_99 rfl ?_
            refine wa_getZ C 0 6 dW_0 rfl rfl (by decide) okX11 gw_464 dX11_make_100 (fun r_82 => ?_)
            obtain ⟨J_83, h, hJ_83⟩ := h
            have k_84 : ∀ (z_85 : Int), inR z_85 → J_83 z_85 → WA p l e ({ frames := 27, cells := 1, slots := 6, locals := 1620 } : Room) s m args below meth c 0 0 Q K ad 7 A 111 [] [.int (iI z_85)] (dW c_30 0 F_mines_31 F_moves_76 F_changes_77 G_width_11 G_height_12 G_size_13 B_parts_34 B_longest_35 S_groups_36 S_askedGroup_37 S_taken_38 R_waitingCount_39 R_metCount_40 A_grade_22 A_cell_23 A_mined_24 A_withTotal_25 A_numbers_26 X_low X_high Y_low Y_high F_mined_41 F_number_42 F_state_78 F_cellsIn_79 F_unknownNear_80 F_hitNear_81 F_moveStart F_changed_47 F_waiting_48 F_seen G_near_20 G_nearEnd_21 B_chosen_49 B_partOf_50 B_rest_51 B_unknowns_52 B_partStart_53 B_cells_54 S_minedSet_55 S_safeSet_56 S_partSet_57 S_tally_58 S_askedTally_59 S_groupOf_60 S_groupSize_61 S_links_62 S_linkEnd_63 S_pick_64 S_groupMinedSet_65 S_groupSafeSet_66 O_sums_67 O_nextSums_68 R_found_69 R_openEnds_70 R_need_71 R_waiting_72 R_waits_73 R_common_74 R_met_75 A_number Q_mined Q_all Q_choices Q_term Q_divisor Q_spare X_limbs X_sum Y_limbs Y_sum) := by
              intro z_85 rz_85 h
              replace h := hJ_83 z_85 rz_85 h
              exact ret (Nat.le_of_ble_eq_true rfl) (Nat.le_of_ble_eq_true rfl) dX11_make_111 rz_85 ⟨_, _, _, _, _, _, _, _, _, _, _, _, _, _, _, _, _, _, _, _, _, _, _, _, _, _, _, _, _, _, _, _, _, _, _, _, _, _, _, _, _, _, _, _, _, _, _, _, _, _, _, _, _, _, _, _, _, rfl, h⟩
            refine wa_if_eq C (tgt := 110) (inR_b r_82) dX11_make_103 (by decide) (fun c_86 => ?_) (fun c_86 => ?_)
            · replace h := h.1 c_86
              refine wa_iconst C (z := 0) dX11_make_110 rfl ?_
              refine wa_sub C [] rfl ?_
              exact k_84 0 (inR_k 0 rfl) h
            · replace h := h.2 c_86
              refine wa_iconst C (z := 1) dX11_make_106 rfl ?_
              refine wa_goto C (tgt := 111) dX11_make_107 (by decide) ?_
              refine wa_sub C [] rfl ?_
              exact k_84 1 (inR_k 1 rfl) h
          · replace h := h.2 c_7
            exact thr 4 (Nat.le_of_ble_eq_true rfl) (Nat.le_of_ble_eq_true rfl) xcl_4 xin_4 xat_4 (Nat.le_of_ble_eq_true rfl) dX11_make_38 dX11_make_41 dX11_make_42 dX11_make_45 ⟨by decide, _, _, _, _, _, _, _, _, _, _, _, _, _, _, _, _, _, _, _, _, _, _, _, _, _, _, _, _, _, _, _, _, _, _, _, _, _, _, _, _, _, _, _, _, _, _, _, _, _, _, _, _, _, _, _, _, _, rfl, h⟩
theorem dX11_blank_0 : decode cX11_blank 0 = .ok (.iload_n 1, 1) := by decide +kernel
theorem dX11_blank_1 : decode cX11_blank 1 = .ok (.iload_n 2, 1) := by decide +kernel
theorem dX11_blank_2 : decode cX11_blank 2 = .ok (.iload_n 3, 1) := by decide +kernel
theorem dX11_blank_3 : decode cX11_blank 3 = .ok (.invokestatic 69, 3) := by decide +kernel
theorem dX11_blank_6 : decode cX11_blank 6 = .ok (.ifCond .ne 11, 3) := by decide +kernel
theorem dX11_blank_9 : decode cX11_blank 9 = .ok (.new 79, 3) := by decide +kernel
theorem dX11_blank_12 : decode cX11_blank 12 = .ok (.dup, 1) := by decide +kernel
theorem dX11_blank_13 : decode cX11_blank 13 = .ok (.invokespecial 81, 3) := by decide +kernel
theorem dX11_blank_16 : decode cX11_blank 16 = .ok (.athrow, 1) := by decide +kernel
theorem dX11_blank_17 : decode cX11_blank 17 = .ok (.aload_n 0, 1) := by decide +kernel
theorem dX11_blank_18 : decode cX11_blank 18 = .ok (.getfield 12, 3) := by decide +kernel
theorem dX11_blank_21 : decode cX11_blank 21 = .ok (.iload_n 1, 1) := by decide +kernel
theorem dX11_blank_22 : decode cX11_blank 22 = .ok (.iload_n 2, 1) := by decide +kernel
theorem dX11_blank_23 : decode cX11_blank 23 = .ok (.iload_n 3, 1) := by decide +kernel
theorem dX11_blank_24 : decode cX11_blank 24 = .ok (.invokevirtual 82, 3) := by decide +kernel
theorem dX11_blank_27 : decode cX11_blank 27 = .ok (.aload_n 0, 1) := by decide +kernel
theorem dX11_blank_28 : decode cX11_blank 28 = .ok (.getfield 49, 3) := by decide +kernel
theorem dX11_blank_31 : decode cX11_blank 31 = .ok (.invokevirtual 86, 3) := by decide +kernel
theorem dX11_blank_34 : decode cX11_blank 34 = .ok (.aload_n 0, 1) := by decide +kernel
theorem dX11_blank_35 : decode cX11_blank 35 = .ok (.iconst 1, 1) := by decide +kernel
theorem dX11_blank_36 : decode cX11_blank 36 = .ok (.putfield 93, 3) := by decide +kernel
theorem dX11_blank_39 : decode cX11_blank 39 = .ok (.aload_n 0, 1) := by decide +kernel
theorem dX11_blank_40 : decode cX11_blank 40 = .ok (.iconst 1, 1) := by decide +kernel
theorem dX11_blank_41 : decode cX11_blank 41 = .ok (.putfield 101, 3) := by decide +kernel
theorem dX11_blank_44 : decode cX11_blank 44 = .ok (.return_, 1) := by decide +kernel
theorem q_X11_blank : yX11_blank.cls = RX11 ∧ yX11_blank.cls ≠ "java/lang/invoke/MethodHandle" ∧ yX11_blank.cls ≠ "java/lang/invoke/VarHandle" ∧ (parseMethodDescriptor yX11_blank.desc).map (fun d => d.parameters.length) = some 3 := ⟨rfl, by decide, by decide, by decide +kernel⟩
set_option maxRecDepth 100000 in
set_option maxHeartbeats 4000000 in
theorem c_X11_blank (l : Launch) (hst : l.stackTraces = false) (K : wK) (ad : Nat → Nat) {D_hasBoard : Int} {D_beganBlank : Int} {F_mines : Int} {F_moves : Int} {F_changes : Int} {G_width : Int} {G_height : Int} {G_size : Int} {B_parts : Int} {B_longest : Int} {S_groups : Int} {S_askedGroup : Int} {S_taken : Int} {R_waitingCount : Int} {R_metCount : Int} {A_grade : Int} {A_cell : Int} {A_mined : Int} {A_withTotal : Int} {A_numbers : Int} {X_low : Int} {X_high : Int} {Y_low : Int} {Y_high : Int} {F_mined : Int → Int} {F_number : Int → Int} {F_state : Int → Int} {F_cellsIn : Int → Int} {F_unknownNear : Int → Int} {F_hitNear : Int → Int} {F_moveStart : Int → Int} {F_changed : Int → Int} {F_waiting : Int → Int} {F_seen : Int → Int} {G_near : Int → Int} {G_nearEnd : Int → Int} {B_chosen : Int → Int} {B_partOf : Int → Int} {B_rest : Int → Int} {B_unknowns : Int → Int} {B_partStart : Int → Int} {B_cells : Int → Int} {S_minedSet : Int → Int} {S_safeSet : Int → Int} {S_partSet : Int → Int} {S_tally : Int → Int} {S_askedTally : Int → Int} {S_groupOf : Int → Int} {S_groupSize : Int → Int} {S_links : Int → Int} {S_linkEnd : Int → Int} {S_pick : Int → Int} {S_groupMinedSet : Int → Int} {S_groupSafeSet : Int → Int} {O_sums : Int → Int64} {O_nextSums : Int → Int64} {R_found : Int → Int} {R_openEnds : Int → Int} {R_need : Int → Int} {R_waiting : Int → Int} {R_waits : Int → Int} {R_common : Int → Int} {R_met : Int → Int} {A_number : Int → Int} {Q_mined : Int → Int64} {Q_all : Int → Int64} {Q_choices : Int → Int64} {Q_term : Int → Int64} {Q_divisor : Int → Int64} {Q_spare : Int → Int64} {X_limbs : Int → Int64} {X_sum : Int → Int64} {Y_limbs : Int → Int64} {Y_sum : Int → Int64} (x1 : Int) (x2 : Int) (x3 : Int) (rx1 : inR x1) (rx2 : inR x2) (rx3 : inR x3) (post : (Int) → (Int) → (Int) → (Int) → (Int) → (Int) → (Int) → (Int) → (Int) → (Int) → (Int) → (Int) → (Int) → (Int → Int) → (Int → Int) → (Int → Int) → (Int → Int) → (Int → Int) → (Int → Int) → (Int → Int) → (Int → Int) → Prop) (px : Int → (Int) → (Int) → (Int) → (Int) → (Int) → (Int) → (Int) → (Int) → (Int) → (Int) → (Int) → (Int) → (Int) → (Int → Int) → (Int → Int) → (Int → Int) → (Int → Int) → (Int → Int) → (Int → Int) → (Int → Int) → (Int → Int) → Prop) (h : P_X11_blank post px D_hasBoard D_beganBlank F_mines F_moves F_changes G_width G_height G_size A_grade A_cell A_mined A_withTotal A_numbers F_mined F_number F_state F_cellsIn F_unknownNear F_hitNear G_near G_nearEnd x1 x2 x3) : xV l yX11_blank (Cond.code yX11_blank cX11_blank 4 none :: GT) ({ frames := 7, cells := 1, slots := 6, locals := 420 } : Room) 1 6 [.ref (ad 0), .int (iI x1), .int (iI x2), .int (iI x3)] K ad (dW D_hasBoard D_beganBlank F_mines F_moves F_changes G_width G_height G_size B_parts B_longest S_groups S_askedGroup S_taken R_waitingCount R_metCount A_grade A_cell A_mined A_withTotal A_numbers X_low X_high Y_low Y_high F_mined F_number F_state F_cellsIn F_unknownNear F_hitNear F_moveStart F_changed F_waiting F_seen G_near G_nearEnd B_chosen B_partOf B_rest B_unknowns B_partStart B_cells S_minedSet S_safeSet S_partSet S_tally S_askedTally S_groupOf S_groupSize S_links S_linkEnd S_pick S_groupMinedSet S_groupSafeSet O_sums O_nextSums R_found R_openEnds R_need R_waiting R_waits R_common R_met A_number Q_mined Q_all Q_choices Q_term Q_divisor Q_spare X_limbs X_sum Y_limbs Y_sum) (fun u9 => ∃ D_hasBoard9 D_beganBlank9 F_mines9 F_moves9 F_changes9 G_width9 G_height9 G_size9 A_grade9 A_cell9 A_mined9 A_withTotal9 A_numbers9 F_mined9 F_number9 F_state9 F_cellsIn9 F_unknownNear9 F_hitNear9 G_near9 G_nearEnd9, u9 = (dW D_hasBoard9 D_beganBlank9 F_mines9 F_moves9 F_changes9 G_width9 G_height9 G_size9 B_parts B_longest S_groups S_askedGroup S_taken R_waitingCount R_metCount A_grade9 A_cell9 A_mined9 A_withTotal9 A_numbers9 X_low X_high Y_low Y_high F_mined9 F_number9 F_state9 F_cellsIn9 F_unknownNear9 F_hitNear9 F_moveStart F_changed F_waiting F_seen G_near9 G_nearEnd9 B_chosen B_partOf B_rest B_unknowns B_partStart B_cells S_minedSet S_safeSet S_partSet S_tally S_askedTally S_groupOf S_groupSize S_links S_linkEnd S_pick S_groupMinedSet S_groupSafeSet O_sums O_nextSums R_found R_openEnds R_need R_waiting R_waits R_common R_met A_number Q_mined Q_all Q_choices Q_term Q_divisor Q_spare X_limbs X_sum Y_limbs Y_sum) ∧ post D_hasBoard9 D_beganBlank9 F_mines9 F_moves9 F_changes9 G_width9 G_height9 G_size9 A_grade9 A_cell9 A_mined9 A_withTotal9 A_numbers9 F_mined9 F_number9 F_state9 F_cellsIn9 F_unknownNear9 F_hitNear9 G_near9 G_nearEnd9) (fun k9 u9 => (k9 = 4) ∧ ∃ D_hasBoard9 D_beganBlank9 F_mines9 F_moves9 F_changes9 G_width9 G_height9 G_size9 A_grade9 A_cell9 A_mined9 A_withTotal9 A_numbers9 F_mined9 F_number9 F_state9 F_cellsIn9 F_unknownNear9 F_hitNear9 G_near9 G_nearEnd9, u9 = (dW D_hasBoard9 D_beganBlank9 F_mines9 F_moves9 F_changes9 G_width9 G_height9 G_size9 B_parts B_longest S_groups S_askedGroup S_taken R_waitingCount R_metCount A_grade9 A_cell9 A_mined9 A_withTotal9 A_numbers9 X_low X_high Y_low Y_high F_mined9 F_number9 F_state9 F_cellsIn9 F_unknownNear9 F_hitNear9 F_moveStart F_changed F_waiting F_seen G_near9 G_nearEnd9 B_chosen B_partOf B_rest B_unknowns B_partStart B_cells S_minedSet S_safeSet S_partSet S_tally S_askedTally S_groupOf S_groupSize S_links S_linkEnd S_pick S_groupMinedSet S_groupSafeSet O_sums O_nextSums R_found R_openEnds R_need R_waiting R_waits R_common R_met A_number Q_mined Q_all Q_choices Q_term Q_divisor Q_spare X_limbs X_sum Y_limbs Y_sum) ∧ px k9 D_hasBoard9 D_beganBlank9 F_mines9 F_moves9 F_changes9 G_width9 G_height9 G_size9 A_grade9 A_cell9 A_mined9 A_withTotal9 A_numbers9 F_mined9 F_number9 F_state9 F_cellsIn9 F_unknownNear9 F_hitNear9 G_near9 G_nearEnd9) := by
  refine xV_of (lv0 := [(0, .ref (ad 0)), (1, .int (iI x1)), (2, .int (iI x2)), (3, .int (iI x3))]) hst (by decide) (Nat.le_of_ble_eq_true rfl) rfl (Nat.le_of_ble_eq_true rfl) rfl rfl ?_
  intro p e s m args below meth c Q A C T ret XO thr
  replace C : Cx p ({ frames := 7, cells := 1, slots := 6, locals := 420 } : Room) m c 0 0 cX11_blank 4 s args RX11 K A := C
  unfold P_X11_blank at h
  refine wa_iload_n C 1 rfl dX11_blank_0 rfl ?_
  refine wa_iload_n C 2 rfl dX11_blank_1 rfl ?_
  refine wa_iload_n C 3 rfl dX11_blank_2 rfl ?_
  refine wa_callSi C (As := [.int (iI x1), .int (iI x2), .int (iI x3)]) (rest := []) (c_X3_isPossible l K ad x1 x2 x3 rx1 rx2 rx3 _ h) gw_493 gw_491 gw_492 gw_3 q_X3_isPossible rfl rfl rfl ⟨by decide, by decide⟩ rfl (Nat.le_of_ble_eq_true rfl) dX11_blank_3 (fun c_1 u9 rc_1 hp => ?_)
  obtain ⟨bc_1, rfl, h⟩ := hp
  replace h := h bc_1
  refine wa_if_ne C (tgt := 17) (inR_b bc_1) dX11_blank_6 (by decide) (fun c_2 => ?_) (fun c_2 => ?_)
  · replace h := h.1 c_2
    refine wa_aload_n C 0 rfl dX11_blank_17 rfl ?_
    refine wa_getR C 0 0 dW_0 rfl rfl (by decide) okX11 gw_458 dX11_blank_18 ?_
    refine wa_iload_n C 1 rfl dX11_blank_21 rfl ?_
    refine wa_iload_n C 2 rfl dX11_blank_22 rfl ?_
    refine wa_iload_n C 3 rfl dX11_blank_23 rfl ?_
    refine wa_callVv C (k := 1) (As := [.int (iI x1), .int (iI x2), .int (iI x3)]) (rest := []) (c_X2_begin l K ad x1 x2 x3 rx1 rx2 rx3 _ h) gw_567 gw_564 dW_1 rfl gw_565 gw_566 gw_2 q_X2_begin rfl rfl rfl ⟨by decide, by decide⟩ rfl (Nat.le_of_ble_eq_true rfl) dX11_blank_24 (fun u9 hp => ?_)
    obtain ⟨F_mines_3, F_moves_4, F_changes_5, G_width_6, G_height_7, G_size_8, F_mined_9, F_number_10, F_state_11, F_cellsIn_12, F_unknownNear_13, F_hitNear_14, G_near_15, G_nearEnd_16, rfl, h⟩ := hp
    refine wa_aload_n C 0 rfl dX11_blank_27 rfl ?_
    refine wa_getR C 0 3 dW_0 rfl rfl (by decide) okX11 gw_461 dX11_blank_28 ?_
    refine wa_callVv C (k := 7) (As := []) (rest := []) (c_X0_forget l K ad  _ h) gw_605 gw_602 dW_7 rfl gw_603 gw_604 gw_8 q_X0_forget rfl rfl rfl ⟨by decide, by decide⟩ rfl (Nat.le_of_ble_eq_true rfl) dX11_blank_31 (fun u9 hp => ?_)
    obtain ⟨A_grade_17, A_cell_18, A_mined_19, A_withTotal_20, A_numbers_21, rfl, h⟩ := hp
    refine wa_aload_n C 0 rfl dX11_blank_34 rfl ?_
    refine wa_iconst C (z := 1) dX11_blank_35 rfl ?_
    refine wa_putZ C (ws' := (dW D_hasBoard 1 F_mines_3 F_moves_4 F_changes_5 G_width_6 G_height_7 G_size_8 B_parts B_longest S_groups S_askedGroup S_taken R_waitingCount R_metCount A_grade_17 A_cell_18 A_mined_19 A_withTotal_20 A_numbers_21 X_low X_high Y_low Y_high F_mined_9 F_number_10 F_state_11 F_cellsIn_12 F_unknownNear_13 F_hitNear_14 F_moveStart F_changed F_waiting F_seen G_near_15 G_nearEnd_16 B_chosen B_partOf B_rest B_unknowns B_partStart B_cells S_minedSet S_safeSet S_partSet S_tally S_askedTally S_groupOf S_groupSize S_links S_linkEnd S_pick S_groupMinedSet S_groupSafeSet O_sums O_nextSums R_found R_openEnds R_need R_waiting R_waits R_common R_met A_number Q_mined Q_all Q_choices Q_term Q_divisor Q_spare X_limbs X_sum Y_limbs Y_sum)) 0 7 dW_0 rfl (by decide) okX11 gw_465 rfl rfl (Nat.le_of_ble_eq_true rfl) (Or.inr rfl) (dWp_0_7 _) dX11_blank_36 ?_
    refine wa_aload_n C 0 rfl dX11_blank_39 rfl ?_
    refine wa_iconst C (z := 1) dX11_blank_40 rfl ?_
    refine wa_putZ C (ws' := (dW 1 1 F_mines_3 F_moves_4 F_changes_5 G_width_6 G_height_7 G_size_8 B_parts B_longest S_groups S_askedGroup S_taken R_waitingCount R_metCount A_grade_17 A_cell_18 A_mined_19 A_withTotal_20 A_numbers_21 X_low X_high Y_low Y_high F_mined_9 F_number_10 F_state_11 F_cellsIn_12 F_unknownNear_13 F_hitNear_14 F_moveStart F_changed F_waiting F_seen G_near_15 G_nearEnd_16 B_chosen B_partOf B_rest B_unknowns B_partStart B_cells S_minedSet S_safeSet S_partSet S_tally S_askedTally S_groupOf S_groupSize S_links S_linkEnd S_pick S_groupMinedSet S_groupSafeSet O_sums O_nextSums R_found R_openEnds R_need R_waiting R_waits R_common R_met A_number Q_mined Q_all Q_choices Q_term Q_divisor Q_spare X_limbs X_sum Y_limbs Y_sum)) 0 6 dW_0 rfl (by decide) okX11 gw_464 rfl rfl (Nat.le_of_ble_eq_true rfl) (Or.inr rfl) (dWp_0_6 _) dX11_blank_41 ?_
    exact ret (Nat.le_of_ble_eq_true rfl) (Nat.le_of_ble_eq_true rfl) dX11_blank_44 ⟨_, _, _, _, _, _, _, _, _, _, _, _, _, _, _, _, _, _, _, _, _, rfl, h⟩
  · replace h := h.2 c_2
    exact thr 4 (Nat.le_of_ble_eq_true rfl) (Nat.le_of_ble_eq_true rfl) xcl_4 xin_4 xat_4 (Nat.le_of_ble_eq_true rfl) dX11_blank_9 dX11_blank_12 dX11_blank_13 dX11_blank_16 ⟨by decide, _, _, _, _, _, _, _, _, _, _, _, _, _, _, _, _, _, _, _, _, _, rfl, h⟩
theorem dX11_needBoard_0 : decode cX11_needBoard 0 = .ok (.aload_n 0, 1) := by decide +kernel
theorem dX11_needBoard_1 : decode cX11_needBoard 1 = .ok (.getfield 101, 3) := by decide +kernel
theorem dX11_needBoard_4 : decode cX11_needBoard 4 = .ok (.ifCond .ne 11, 3) := by decide +kernel
theorem dX11_needBoard_7 : decode cX11_needBoard 7 = .ok (.new 256, 3) := by decide +kernel
theorem dX11_needBoard_10 : decode cX11_needBoard 10 = .ok (.dup, 1) := by decide +kernel
theorem dX11_needBoard_11 : decode cX11_needBoard 11 = .ok (.invokespecial 258, 3) := by decide +kernel
theorem dX11_needBoard_14 : decode cX11_needBoard 14 = .ok (.athrow, 1) := by decide +kernel
theorem dX11_needBoard_15 : decode cX11_needBoard 15 = .ok (.return_, 1) := by decide +kernel
theorem q_X11_needBoard : yX11_needBoard.cls = RX11 ∧ yX11_needBoard.cls ≠ "java/lang/invoke/MethodHandle" ∧ yX11_needBoard.cls ≠ "java/lang/invoke/VarHandle" ∧ (parseMethodDescriptor yX11_needBoard.desc).map (fun d => d.parameters.length) = some 0 := ⟨rfl, by decide, by decide, by decide +kernel⟩
set_option maxRecDepth 100000 in
set_option maxHeartbeats 4000000 in
theorem c_X11_needBoard (l : Launch) (hst : l.stackTraces = false) (K : wK) (ad : Nat → Nat) {D_hasBoard : Int} {D_beganBlank : Int} {F_mines : Int} {F_moves : Int} {F_changes : Int} {G_width : Int} {G_height : Int} {G_size : Int} {B_parts : Int} {B_longest : Int} {S_groups : Int} {S_askedGroup : Int} {S_taken : Int} {R_waitingCount : Int} {R_metCount : Int} {A_grade : Int} {A_cell : Int} {A_mined : Int} {A_withTotal : Int} {A_numbers : Int} {X_low : Int} {X_high : Int} {Y_low : Int} {Y_high : Int} {F_mined : Int → Int} {F_number : Int → Int} {F_state : Int → Int} {F_cellsIn : Int → Int} {F_unknownNear : Int → Int} {F_hitNear : Int → Int} {F_moveStart : Int → Int} {F_changed : Int → Int} {F_waiting : Int → Int} {F_seen : Int → Int} {G_near : Int → Int} {G_nearEnd : Int → Int} {B_chosen : Int → Int} {B_partOf : Int → Int} {B_rest : Int → Int} {B_unknowns : Int → Int} {B_partStart : Int → Int} {B_cells : Int → Int} {S_minedSet : Int → Int} {S_safeSet : Int → Int} {S_partSet : Int → Int} {S_tally : Int → Int} {S_askedTally : Int → Int} {S_groupOf : Int → Int} {S_groupSize : Int → Int} {S_links : Int → Int} {S_linkEnd : Int → Int} {S_pick : Int → Int} {S_groupMinedSet : Int → Int} {S_groupSafeSet : Int → Int} {O_sums : Int → Int64} {O_nextSums : Int → Int64} {R_found : Int → Int} {R_openEnds : Int → Int} {R_need : Int → Int} {R_waiting : Int → Int} {R_waits : Int → Int} {R_common : Int → Int} {R_met : Int → Int} {A_number : Int → Int} {Q_mined : Int → Int64} {Q_all : Int → Int64} {Q_choices : Int → Int64} {Q_term : Int → Int64} {Q_divisor : Int → Int64} {Q_spare : Int → Int64} {X_limbs : Int → Int64} {X_sum : Int → Int64} {Y_limbs : Int → Int64} {Y_sum : Int → Int64}   (post : Prop) (px : Int → Prop) (h : P_X11_needBoard post px D_hasBoard) : xV l yX11_needBoard (Cond.code yX11_needBoard cX11_needBoard 1 none :: GT) ({ frames := 7, cells := 1, slots := 6, locals := 420 } : Room) 1 6 [.ref (ad 0)] K ad (dW D_hasBoard D_beganBlank F_mines F_moves F_changes G_width G_height G_size B_parts B_longest S_groups S_askedGroup S_taken R_waitingCount R_metCount A_grade A_cell A_mined A_withTotal A_numbers X_low X_high Y_low Y_high F_mined F_number F_state F_cellsIn F_unknownNear F_hitNear F_moveStart F_changed F_waiting F_seen G_near G_nearEnd B_chosen B_partOf B_rest B_unknowns B_partStart B_cells S_minedSet S_safeSet S_partSet S_tally S_askedTally S_groupOf S_groupSize S_links S_linkEnd S_pick S_groupMinedSet S_groupSafeSet O_sums O_nextSums R_found R_openEnds R_need R_waiting R_waits R_common R_met A_number Q_mined Q_all Q_choices Q_term Q_divisor Q_spare X_limbs X_sum Y_limbs Y_sum) (fun u9 => u9 = (dW D_hasBoard D_beganBlank F_mines F_moves F_changes G_width G_height G_size B_parts B_longest S_groups S_askedGroup S_taken R_waitingCount R_metCount A_grade A_cell A_mined A_withTotal A_numbers X_low X_high Y_low Y_high F_mined F_number F_state F_cellsIn F_unknownNear F_hitNear F_moveStart F_changed F_waiting F_seen G_near G_nearEnd B_chosen B_partOf B_rest B_unknowns B_partStart B_cells S_minedSet S_safeSet S_partSet S_tally S_askedTally S_groupOf S_groupSize S_links S_linkEnd S_pick S_groupMinedSet S_groupSafeSet O_sums O_nextSums R_found R_openEnds R_need R_waiting R_waits R_common R_met A_number Q_mined Q_all Q_choices Q_term Q_divisor Q_spare X_limbs X_sum Y_limbs Y_sum) ∧ post) (fun k9 u9 => (k9 = 1) ∧ u9 = (dW D_hasBoard D_beganBlank F_mines F_moves F_changes G_width G_height G_size B_parts B_longest S_groups S_askedGroup S_taken R_waitingCount R_metCount A_grade A_cell A_mined A_withTotal A_numbers X_low X_high Y_low Y_high F_mined F_number F_state F_cellsIn F_unknownNear F_hitNear F_moveStart F_changed F_waiting F_seen G_near G_nearEnd B_chosen B_partOf B_rest B_unknowns B_partStart B_cells S_minedSet S_safeSet S_partSet S_tally S_askedTally S_groupOf S_groupSize S_links S_linkEnd S_pick S_groupMinedSet S_groupSafeSet O_sums O_nextSums R_found R_openEnds R_need R_waiting R_waits R_common R_met A_number Q_mined Q_all Q_choices Q_term Q_divisor Q_spare X_limbs X_sum Y_limbs Y_sum) ∧ px k9) := by
  refine xV_of (lv0 := [(0, .ref (ad 0))]) hst (by decide) (Nat.le_of_ble_eq_true rfl) rfl (Nat.le_of_ble_eq_true rfl) rfl rfl ?_
  intro p e s m args below meth c Q A C T ret XO thr
  replace C : Cx p ({ frames := 7, cells := 1, slots := 6, locals := 420 } : Room) m c 0 0 cX11_needBoard 1 s args RX11 K A := C
  unfold P_X11_needBoard at h
  refine wa_aload_n C 0 rfl dX11_needBoard_0 rfl ?_
  refine wa_getZ C 0 6 dW_0 rfl rfl (by decide) okX11 gw_464 dX11_needBoard_1 (fun r_1 => ?_)
  refine wa_if_ne C (tgt := 15) (inR_b r_1) dX11_needBoard_4 (by decide) (fun c_2 => ?_) (fun c_2 => ?_)
  · replace h := h.1 c_2
    exact ret (Nat.le_of_ble_eq_true rfl) (Nat.le_of_ble_eq_true rfl) dX11_needBoard_15 ⟨rfl, h⟩
  · replace h := h.2 c_2
    exact thr 1 (Nat.le_of_ble_eq_true rfl) (Nat.le_of_ble_eq_true rfl) xcl_1 xin_1 xat_1 (Nat.le_of_ble_eq_true rfl) dX11_needBoard_7 dX11_needBoard_10 dX11_needBoard_11 dX11_needBoard_14 ⟨by decide, rfl, h⟩
theorem dX11_cellAt_0 : decode cX11_cellAt 0 = .ok (.aload_n 0, 1) := by decide +kernel
theorem dX11_cellAt_1 : decode cX11_cellAt 1 = .ok (.invokevirtual 163, 3) := by decide +kernel
theorem dX11_cellAt_4 : decode cX11_cellAt 4 = .ok (.aload_n 0, 1) := by decide +kernel
theorem dX11_cellAt_5 : decode cX11_cellAt 5 = .ok (.getfield 12, 3) := by decide +kernel
theorem dX11_cellAt_8 : decode cX11_cellAt 8 = .ok (.getfield 234, 3) := by decide +kernel
theorem dX11_cellAt_11 : decode cX11_cellAt 11 = .ok (.iload_n 1, 1) := by decide +kernel
theorem dX11_cellAt_12 : decode cX11_cellAt 12 = .ok (.iload_n 2, 1) := by decide +kernel
theorem dX11_cellAt_13 : decode cX11_cellAt 13 = .ok (.invokevirtual 259, 3) := by decide +kernel
theorem dX11_cellAt_16 : decode cX11_cellAt 16 = .ok (.ifCond .ne 11, 3) := by decide +kernel
theorem dX11_cellAt_19 : decode cX11_cellAt 19 = .ok (.new 189, 3) := by decide +kernel
theorem dX11_cellAt_22 : decode cX11_cellAt 22 = .ok (.dup, 1) := by decide +kernel
theorem dX11_cellAt_23 : decode cX11_cellAt 23 = .ok (.invokespecial 191, 3) := by decide +kernel
theorem dX11_cellAt_26 : decode cX11_cellAt 26 = .ok (.athrow, 1) := by decide +kernel
theorem dX11_cellAt_27 : decode cX11_cellAt 27 = .ok (.aload_n 0, 1) := by decide +kernel
theorem dX11_cellAt_28 : decode cX11_cellAt 28 = .ok (.getfield 12, 3) := by decide +kernel
theorem dX11_cellAt_31 : decode cX11_cellAt 31 = .ok (.getfield 234, 3) := by decide +kernel
theorem dX11_cellAt_34 : decode cX11_cellAt 34 = .ok (.iload_n 1, 1) := by decide +kernel
theorem dX11_cellAt_35 : decode cX11_cellAt 35 = .ok (.iload_n 2, 1) := by decide +kernel
theorem dX11_cellAt_36 : decode cX11_cellAt 36 = .ok (.invokevirtual 263, 3) := by decide +kernel
theorem dX11_cellAt_39 : decode cX11_cellAt 39 = .ok (.ireturn, 1) := by decide +kernel
theorem q_X11_cellAt : yX11_cellAt.cls = RX11 ∧ yX11_cellAt.cls ≠ "java/lang/invoke/MethodHandle" ∧ yX11_cellAt.cls ≠ "java/lang/invoke/VarHandle" ∧ (parseMethodDescriptor yX11_cellAt.desc).map (fun d => d.parameters.length) = some 2 := ⟨rfl, by decide, by decide, by decide +kernel⟩
set_option maxRecDepth 100000 in
set_option maxHeartbeats 4000000 in
theorem c_X11_cellAt (l : Launch) (hst : l.stackTraces = false) (K : wK) (ad : Nat → Nat) {D_hasBoard : Int} {D_beganBlank : Int} {F_mines : Int} {F_moves : Int} {F_changes : Int} {G_width : Int} {G_height : Int} {G_size : Int} {B_parts : Int} {B_longest : Int} {S_groups : Int} {S_askedGroup : Int} {S_taken : Int} {R_waitingCount : Int} {R_metCount : Int} {A_grade : Int} {A_cell : Int} {A_mined : Int} {A_withTotal : Int} {A_numbers : Int} {X_low : Int} {X_high : Int} {Y_low : Int} {Y_high : Int} {F_mined : Int → Int} {F_number : Int → Int} {F_state : Int → Int} {F_cellsIn : Int → Int} {F_unknownNear : Int → Int} {F_hitNear : Int → Int} {F_moveStart : Int → Int} {F_changed : Int → Int} {F_waiting : Int → Int} {F_seen : Int → Int} {G_near : Int → Int} {G_nearEnd : Int → Int} {B_chosen : Int → Int} {B_partOf : Int → Int} {B_rest : Int → Int} {B_unknowns : Int → Int} {B_partStart : Int → Int} {B_cells : Int → Int} {S_minedSet : Int → Int} {S_safeSet : Int → Int} {S_partSet : Int → Int} {S_tally : Int → Int} {S_askedTally : Int → Int} {S_groupOf : Int → Int} {S_groupSize : Int → Int} {S_links : Int → Int} {S_linkEnd : Int → Int} {S_pick : Int → Int} {S_groupMinedSet : Int → Int} {S_groupSafeSet : Int → Int} {O_sums : Int → Int64} {O_nextSums : Int → Int64} {R_found : Int → Int} {R_openEnds : Int → Int} {R_need : Int → Int} {R_waiting : Int → Int} {R_waits : Int → Int} {R_common : Int → Int} {R_met : Int → Int} {A_number : Int → Int} {Q_mined : Int → Int64} {Q_all : Int → Int64} {Q_choices : Int → Int64} {Q_term : Int → Int64} {Q_divisor : Int → Int64} {Q_spare : Int → Int64} {X_limbs : Int → Int64} {X_sum : Int → Int64} {Y_limbs : Int → Int64} {Y_sum : Int → Int64} (x1 : Int) (x2 : Int) (rx1 : inR x1) (rx2 : inR x2) (post : Int → Prop) (px : Int → Prop) (h : P_X11_cellAt post px D_hasBoard G_width G_height x1 x2) : xI l yX11_cellAt (Cond.code yX11_cellAt cX11_cellAt 3 (some .int) :: GT) ({ frames := 8, cells := 2, slots := 12, locals := 480 } : Room) 2 12 [.ref (ad 0), .int (iI x1), .int (iI x2)] K ad (dW D_hasBoard D_beganBlank F_mines F_moves F_changes G_width G_height G_size B_parts B_longest S_groups S_askedGroup S_taken R_waitingCount R_metCount A_grade A_cell A_mined A_withTotal A_numbers X_low X_high Y_low Y_high F_mined F_number F_state F_cellsIn F_unknownNear F_hitNear F_moveStart F_changed F_waiting F_seen G_near G_nearEnd B_chosen B_partOf B_rest B_unknowns B_partStart B_cells S_minedSet S_safeSet S_partSet S_tally S_askedTally S_groupOf S_groupSize S_links S_linkEnd S_pick S_groupMinedSet S_groupSafeSet O_sums O_nextSums R_found R_openEnds R_need R_waiting R_waits R_common R_met A_number Q_mined Q_all Q_choices Q_term Q_divisor Q_spare X_limbs X_sum Y_limbs Y_sum) (fun z9 u9 => u9 = (dW D_hasBoard D_beganBlank F_mines F_moves F_changes G_width G_height G_size B_parts B_longest S_groups S_askedGroup S_taken R_waitingCount R_metCount A_grade A_cell A_mined A_withTotal A_numbers X_low X_high Y_low Y_high F_mined F_number F_state F_cellsIn F_unknownNear F_hitNear F_moveStart F_changed F_waiting F_seen G_near G_nearEnd B_chosen B_partOf B_rest B_unknowns B_partStart B_cells S_minedSet S_safeSet S_partSet S_tally S_askedTally S_groupOf S_groupSize S_links S_linkEnd S_pick S_groupMinedSet S_groupSafeSet O_sums O_nextSums R_found R_openEnds R_need R_waiting R_waits R_common R_met A_number Q_mined Q_all Q_choices Q_term Q_divisor Q_spare X_limbs X_sum Y_limbs Y_sum) ∧ post z9) (fun k9 u9 => (k9 = 1 ∨ k9 = 2) ∧ u9 = (dW D_hasBoard D_beganBlank F_mines F_moves F_changes G_width G_height G_size B_parts B_longest S_groups S_askedGroup S_taken R_waitingCount R_metCount A_grade A_cell A_mined A_withTotal A_numbers X_low X_high Y_low Y_high F_mined F_number F_state F_cellsIn F_unknownNear F_hitNear F_moveStart F_changed F_waiting F_seen G_near G_nearEnd B_chosen B_partOf B_rest B_unknowns B_partStart B_cells S_minedSet S_safeSet S_partSet S_tally S_askedTally S_groupOf S_groupSize S_links S_linkEnd S_pick S_groupMinedSet S_groupSafeSet O_sums O_nextSums R_found R_openEnds R_need R_waiting R_waits R_common R_met A_number Q_mined Q_all Q_choices Q_term Q_divisor Q_spare X_limbs X_sum Y_limbs Y_sum) ∧ px k9) := by
  refine xI_of (lv0 := [(0, .ref (ad 0)), (1, .int (iI x1)), (2, .int (iI x2))]) hst (by decide) (Nat.le_of_ble_eq_true rfl) rfl (Nat.le_of_ble_eq_true rfl) rfl rfl ?_
  intro p e s m args below meth c Q A C T ret XO thr
  replace C : Cx p ({ frames := 8, cells := 2, slots := 12, locals := 480 } : Room) m c 0 0 cX11_cellAt 3 s args RX11 K A := C
  unfold P_X11_cellAt at h
  refine wa_aload_n C 0 rfl dX11_cellAt_0 rfl ?_
  refine wa_xVv C T XO (k := 0) (As := []) (rest := []) (c_X11_needBoard l hst K ad  _ _ h) gw_884 gw_881 dW_0 rfl gw_883 gs_39 gw_1 q_X11_needBoard rfl rfl rfl ⟨by decide, by decide⟩ rfl (Nat.le_of_ble_eq_true rfl) dX11_cellAt_1 ⟨Nat.le_of_ble_eq_true rfl, Nat.le_of_ble_eq_true rfl⟩ ⟨Nat.le_of_ble_eq_true rfl, Nat.le_of_ble_eq_true rfl⟩ (fun z9 u9 hx9 => by obtain ⟨hk9, rfl, h9⟩ := hx9; exact ⟨by omega, rfl, h9⟩) (fun u9 hp => ?_)
  replace C := C.more (cells' := 1) (slots' := 6) (Nat.le_of_ble_eq_true rfl) (Nat.le_of_ble_eq_true rfl)
  obtain ⟨rfl, h⟩ := hp
  refine wa_aload_n C 0 rfl dX11_cellAt_4 rfl ?_
  refine wa_getR C 0 0 dW_0 rfl rfl (by decide) okX11 gw_458 dX11_cellAt_5 ?_
  refine wa_getR C 1 0 dW_1 rfl rfl (by decide) okX2 gw_88 dX11_cellAt_8 ?_
  refine wa_iload_n C 1 rfl dX11_cellAt_11 rfl ?_
  refine wa_iload_n C 2 rfl dX11_cellAt_12 rfl ?_
  refine wa_callVi C (k := 2) (As := [.int (iI x1), .int (iI x2)]) (rest := []) (c_X3_has l K ad x1 x2 rx1 rx2 _ h) gw_594 gw_900 dW_2 rfl gw_592 gw_593 gw_3 q_X3_has rfl rfl rfl ⟨by decide, by decide⟩ rfl (Nat.le_of_ble_eq_true rfl) dX11_cellAt_13 (fun c_2 u9 rc_2 hp => ?_)
  obtain ⟨bc_2, rfl, h⟩ := hp
  replace h := h bc_2
  refine wa_if_ne C (tgt := 27) (inR_b bc_2) dX11_cellAt_16 (by decide) (fun c_3 => ?_) (fun c_3 => ?_)
  · replace h := h.1 c_3
    refine wa_aload_n C 0 rfl dX11_cellAt_27 rfl ?_
    refine wa_getR C 0 0 dW_0 rfl rfl (by decide) okX11 gw_458 dX11_cellAt_28 ?_
    refine wa_getR C 1 0 dW_1 rfl rfl (by decide) okX2 gw_88 dX11_cellAt_31 ?_
    refine wa_iload_n C 1 rfl dX11_cellAt_34 rfl ?_
    refine wa_iload_n C 2 rfl dX11_cellAt_35 rfl ?_
    refine wa_callVi C (k := 2) (As := [.int (iI x1), .int (iI x2)]) (rest := []) (c_X3_cell l K ad x1 x2 rx1 rx2 _ h) gw_580 gw_916 dW_2 rfl gw_578 gw_579 gw_3 q_X3_cell rfl rfl rfl ⟨by decide, by decide⟩ rfl (Nat.le_of_ble_eq_true rfl) dX11_cellAt_36 (fun c_4 u9 rc_4 hp => ?_)
    obtain ⟨rfl, h⟩ := hp
    replace h := h rc_4
    exact ret (Nat.le_of_ble_eq_true rfl) (Nat.le_of_ble_eq_true rfl) dX11_cellAt_39 rc_4 ⟨rfl, h⟩
  · replace h := h.2 c_3
    exact thr 2 (Nat.le_of_ble_eq_true rfl) (Nat.le_of_ble_eq_true rfl) xcl_2 xin_2 xat_2 (Nat.le_of_ble_eq_true rfl) dX11_cellAt_19 dX11_cellAt_22 dX11_cellAt_23 dX11_cellAt_26 ⟨by decide, rfl, h⟩
theorem dX11_edit_0 : decode cX11_edit 0 = .ok (.aload_n 0, 1) := by decide +kernel
theorem dX11_edit_1 : decode cX11_edit 1 = .ok (.iload_n 1, 1) := by decide +kernel
theorem dX11_edit_2 : decode cX11_edit 2 = .ok (.iload_n 2, 1) := by decide +kernel
theorem dX11_edit_3 : decode cX11_edit 3 = .ok (.invokevirtual 107, 3) := by decide +kernel
theorem dX11_edit_6 : decode cX11_edit 6 = .ok (.istore 4, 2) := by decide +kernel
theorem dX11_edit_8 : decode cX11_edit 8 = .ok (.aload_n 0, 1) := by decide +kernel
theorem dX11_edit_9 : decode cX11_edit 9 = .ok (.getfield 93, 3) := by decide +kernel
theorem dX11_edit_12 : decode cX11_edit 12 = .ok (.ifCond .eq 13, 3) := by decide +kernel
theorem dX11_edit_15 : decode cX11_edit 15 = .ok (.aload_n 0, 1) := by decide +kernel
theorem dX11_edit_16 : decode cX11_edit 16 = .ok (.getfield 12, 3) := by decide +kernel
theorem dX11_edit_19 : decode cX11_edit 19 = .ok (.getfield 111, 3) := by decide +kernel
theorem dX11_edit_22 : decode cX11_edit 22 = .ok (.ifCond .le 11, 3) := by decide +kernel
theorem dX11_edit_25 : decode cX11_edit 25 = .ok (.new 115, 3) := by decide +kernel
theorem dX11_edit_28 : decode cX11_edit 28 = .ok (.dup, 1) := by decide +kernel
theorem dX11_edit_29 : decode cX11_edit 29 = .ok (.invokespecial 117, 3) := by decide +kernel
theorem dX11_edit_32 : decode cX11_edit 32 = .ok (.athrow, 1) := by decide +kernel
theorem dX11_edit_33 : decode cX11_edit 33 = .ok (.aload_n 0, 1) := by decide +kernel
theorem dX11_edit_34 : decode cX11_edit 34 = .ok (.getfield 12, 3) := by decide +kernel
theorem dX11_edit_37 : decode cX11_edit 37 = .ok (.iload 4, 2) := by decide +kernel
theorem dX11_edit_39 : decode cX11_edit 39 = .ok (.iload_n 3, 1) := by decide +kernel
theorem dX11_edit_40 : decode cX11_edit 40 = .ok (.invokevirtual 118, 3) := by decide +kernel
theorem dX11_edit_43 : decode cX11_edit 43 = .ok (.aload_n 0, 1) := by decide +kernel
theorem dX11_edit_44 : decode cX11_edit 44 = .ok (.getfield 12, 3) := by decide +kernel
theorem dX11_edit_47 : decode cX11_edit 47 = .ok (.getfield 122, 3) := by decide +kernel
theorem dX11_edit_50 : decode cX11_edit 50 = .ok (.ireturn, 1) := by decide +kernel
theorem q_X11_edit : yX11_edit.cls = RX11 ∧ yX11_edit.cls ≠ "java/lang/invoke/MethodHandle" ∧ yX11_edit.cls ≠ "java/lang/invoke/VarHandle" ∧ (parseMethodDescriptor yX11_edit.desc).map (fun d => d.parameters.length) = some 3 := ⟨rfl, by decide, by decide, by decide +kernel⟩
set_option maxRecDepth 100000 in
set_option maxHeartbeats 4000000 in
theorem c_X11_edit (l : Launch) (hst : l.stackTraces = false) (K : wK) (ad : Nat → Nat) {D_hasBoard : Int} {D_beganBlank : Int} {F_mines : Int} {F_moves : Int} {F_changes : Int} {G_width : Int} {G_height : Int} {G_size : Int} {B_parts : Int} {B_longest : Int} {S_groups : Int} {S_askedGroup : Int} {S_taken : Int} {R_waitingCount : Int} {R_metCount : Int} {A_grade : Int} {A_cell : Int} {A_mined : Int} {A_withTotal : Int} {A_numbers : Int} {X_low : Int} {X_high : Int} {Y_low : Int} {Y_high : Int} {F_mined : Int → Int} {F_number : Int → Int} {F_state : Int → Int} {F_cellsIn : Int → Int} {F_unknownNear : Int → Int} {F_hitNear : Int → Int} {F_moveStart : Int → Int} {F_changed : Int → Int} {F_waiting : Int → Int} {F_seen : Int → Int} {G_near : Int → Int} {G_nearEnd : Int → Int} {B_chosen : Int → Int} {B_partOf : Int → Int} {B_rest : Int → Int} {B_unknowns : Int → Int} {B_partStart : Int → Int} {B_cells : Int → Int} {S_minedSet : Int → Int} {S_safeSet : Int → Int} {S_partSet : Int → Int} {S_tally : Int → Int} {S_askedTally : Int → Int} {S_groupOf : Int → Int} {S_groupSize : Int → Int} {S_links : Int → Int} {S_linkEnd : Int → Int} {S_pick : Int → Int} {S_groupMinedSet : Int → Int} {S_groupSafeSet : Int → Int} {O_sums : Int → Int64} {O_nextSums : Int → Int64} {R_found : Int → Int} {R_openEnds : Int → Int} {R_need : Int → Int} {R_waiting : Int → Int} {R_waits : Int → Int} {R_common : Int → Int} {R_met : Int → Int} {A_number : Int → Int} {Q_mined : Int → Int64} {Q_all : Int → Int64} {Q_choices : Int → Int64} {Q_term : Int → Int64} {Q_divisor : Int → Int64} {Q_spare : Int → Int64} {X_limbs : Int → Int64} {X_sum : Int → Int64} {Y_limbs : Int → Int64} {Y_sum : Int → Int64} (x1 : Int) (x2 : Int) (x3 : Int) (rx1 : inR x1) (rx2 : inR x2) (bx3 : x3 = 0 ∨ x3 = 1) (post : Int → (Int) → (Int → Int) → (Int → Int) → Prop) (px : Int → (Int) → (Int → Int) → (Int → Int) → Prop) (h : P_X11_edit post px D_hasBoard D_beganBlank F_mines F_moves G_width G_height F_mined F_number G_near G_nearEnd x1 x2 x3) : xI l yX11_edit (Cond.code yX11_edit cX11_edit 5 (some .int) :: GT) ({ frames := 9, cells := 3, slots := 18, locals := 540 } : Room) 3 18 [.ref (ad 0), .int (iI x1), .int (iI x2), .int (iI x3)] K ad (dW D_hasBoard D_beganBlank F_mines F_moves F_changes G_width G_height G_size B_parts B_longest S_groups S_askedGroup S_taken R_waitingCount R_metCount A_grade A_cell A_mined A_withTotal A_numbers X_low X_high Y_low Y_high F_mined F_number F_state F_cellsIn F_unknownNear F_hitNear F_moveStart F_changed F_waiting F_seen G_near G_nearEnd B_chosen B_partOf B_rest B_unknowns B_partStart B_cells S_minedSet S_safeSet S_partSet S_tally S_askedTally S_groupOf S_groupSize S_links S_linkEnd S_pick S_groupMinedSet S_groupSafeSet O_sums O_nextSums R_found R_openEnds R_need R_waiting R_waits R_common R_met A_number Q_mined Q_all Q_choices Q_term Q_divisor Q_spare X_limbs X_sum Y_limbs Y_sum) (fun z9 u9 => ∃ F_mines9 F_mined9 F_number9, u9 = (dW D_hasBoard D_beganBlank F_mines9 F_moves F_changes G_width G_height G_size B_parts B_longest S_groups S_askedGroup S_taken R_waitingCount R_metCount A_grade A_cell A_mined A_withTotal A_numbers X_low X_high Y_low Y_high F_mined9 F_number9 F_state F_cellsIn F_unknownNear F_hitNear F_moveStart F_changed F_waiting F_seen G_near G_nearEnd B_chosen B_partOf B_rest B_unknowns B_partStart B_cells S_minedSet S_safeSet S_partSet S_tally S_askedTally S_groupOf S_groupSize S_links S_linkEnd S_pick S_groupMinedSet S_groupSafeSet O_sums O_nextSums R_found R_openEnds R_need R_waiting R_waits R_common R_met A_number Q_mined Q_all Q_choices Q_term Q_divisor Q_spare X_limbs X_sum Y_limbs Y_sum) ∧ post z9 F_mines9 F_mined9 F_number9) (fun k9 u9 => (k9 = 1 ∨ k9 = 2 ∨ k9 = 3) ∧ ∃ F_mines9 F_mined9 F_number9, u9 = (dW D_hasBoard D_beganBlank F_mines9 F_moves F_changes G_width G_height G_size B_parts B_longest S_groups S_askedGroup S_taken R_waitingCount R_metCount A_grade A_cell A_mined A_withTotal A_numbers X_low X_high Y_low Y_high F_mined9 F_number9 F_state F_cellsIn F_unknownNear F_hitNear F_moveStart F_changed F_waiting F_seen G_near G_nearEnd B_chosen B_partOf B_rest B_unknowns B_partStart B_cells S_minedSet S_safeSet S_partSet S_tally S_askedTally S_groupOf S_groupSize S_links S_linkEnd S_pick S_groupMinedSet S_groupSafeSet O_sums O_nextSums R_found R_openEnds R_need R_waiting R_waits R_common R_met A_number Q_mined Q_all Q_choices Q_term Q_divisor Q_spare X_limbs X_sum Y_limbs Y_sum) ∧ px k9 F_mines9 F_mined9 F_number9) := by
  refine xI_of (lv0 := [(0, .ref (ad 0)), (1, .int (iI x1)), (2, .int (iI x2)), (3, .int (iI x3))]) hst (by decide) (Nat.le_of_ble_eq_true rfl) rfl (Nat.le_of_ble_eq_true rfl) rfl rfl ?_
  intro p e s m args below meth c Q A C T ret XO thr
  replace C : Cx p ({ frames := 9, cells := 3, slots := 18, locals := 540 } : Room) m c 0 0 cX11_edit 5 s args RX11 K A := C
  unfold P_X11_edit at h
  refine wa_aload_n C 0 rfl dX11_edit_0 rfl ?_
  refine wa_iload_n C 1 rfl dX11_edit_1 rfl ?_
  refine wa_iload_n C 2 rfl dX11_edit_2 rfl ?_
  refine wa_xVi C T XO (k := 0) (As := [.int (iI x1), .int (iI x2)]) (rest := []) (c_X11_cellAt l hst K ad x1 x2 rx1 rx2 _ _ h) gw_880 gw_877 dW_0 rfl gw_879 gs_38 gw_1 q_X11_cellAt rfl rfl rfl ⟨by decide, by decide⟩ rfl (Nat.le_of_ble_eq_true rfl) dX11_edit_3 ⟨Nat.le_of_ble_eq_true rfl, Nat.le_of_ble_eq_true rfl⟩ ⟨Nat.le_of_ble_eq_true rfl, Nat.le_of_ble_eq_true rfl⟩ (fun z9 u9 hx9 => by obtain ⟨hk9, rfl, h9⟩ := hx9; exact ⟨by omega, _, _, _, rfl, h9⟩) (fun c_1 u9 rc_1 hp => ?_)
  replace C := C.more (cells' := 2) (slots' := 12) (Nat.le_of_ble_eq_true rfl) (Nat.le_of_ble_eq_true rfl)
  obtain ⟨rfl, h⟩ := hp
  replace h := h rc_1
  refine wa_istore C dX11_edit_6 (by decide) rfl ?_
  refine wa_aload_n C 1 rfl dX11_edit_8 rfl ?_
  refine wa_getZ C 0 7 dW_0 rfl rfl (by decide) okX11 gw_465 dX11_edit_9 (fun r_3 => ?_)
  refine wa_if_eq C (tgt := 25) (inR_b r_3) dX11_edit_12 (by decide) (fun c_4 => ?_) (fun c_4 => ?_)
  · replace h := h.1 c_4
    exact thr 3 (Nat.le_of_ble_eq_true rfl) (Nat.le_of_ble_eq_true rfl) xcl_3 xin_3 xat_3 (Nat.le_of_ble_eq_true rfl) dX11_edit_25 dX11_edit_28 dX11_edit_29 dX11_edit_32 ⟨by decide, _, _, _, rfl, h⟩
  · replace h := h.2 c_4
    refine wa_aload_n C 1 rfl dX11_edit_15 rfl ?_
    refine wa_getR C 0 0 dW_0 rfl rfl (by decide) okX11 gw_458 dX11_edit_16 ?_
    refine wa_getI C 1 8 dW_1 rfl rfl (by decide) okX2 gw_113 dX11_edit_19 (fun r_5 => ?_)
    refine wa_if_le C (tgt := 33) r_5 dX11_edit_22 (by decide) (fun c_6 => ?_) (fun c_6 => ?_)
    · replace h := h.1 c_6
      refine wa_aload_n C 1 rfl dX11_edit_33 rfl ?_
      refine wa_getR C 0 0 dW_0 rfl rfl (by decide) okX11 gw_458 dX11_edit_34 ?_
      refine wa_iload C 0 rfl dX11_edit_37 ?_
      refine wa_iload_n C 4 rfl dX11_edit_39 rfl ?_
      refine wa_callVv C (k := 1) (As := [.int (iI c_1), .int (iI x3)]) (rest := []) (c_X2_setMine l K ad c_1 x3 rc_1 bx3 _ h) gw_636 gw_932 dW_1 rfl gw_634 gw_635 gw_2 q_X2_setMine rfl rfl rfl ⟨by decide, by decide⟩ rfl (Nat.le_of_ble_eq_true rfl) dX11_edit_40 (fun u9 hp => ?_)
      obtain ⟨F_mines_7, F_mined_8, F_number_9, rfl, h⟩ := hp
      refine wa_aload_n C 1 rfl dX11_edit_43 rfl ?_
      refine wa_getR C 0 0 dW_0 rfl rfl (by decide) okX11 gw_458 dX11_edit_44 ?_
      refine wa_getI C 1 7 dW_1 rfl rfl (by decide) okX2 gw_111 dX11_edit_47 (fun r_10 => ?_)
      exact ret (Nat.le_of_ble_eq_true rfl) (Nat.le_of_ble_eq_true rfl) dX11_edit_50 r_10 ⟨_, _, _, rfl, h⟩
    · replace h := h.2 c_6
      exact thr 3 (Nat.le_of_ble_eq_true rfl) (Nat.le_of_ble_eq_true rfl) xcl_3 xin_3 xat_3 (Nat.le_of_ble_eq_true rfl) dX11_edit_25 dX11_edit_28 dX11_edit_29 dX11_edit_32 ⟨by decide, _, _, _, rfl, h⟩
theorem dX11_open_0 : decode cX11_open 0 = .ok (.aload_n 0, 1) := by decide +kernel
theorem dX11_open_1 : decode cX11_open 1 = .ok (.iload_n 1, 1) := by decide +kernel
theorem dX11_open_2 : decode cX11_open 2 = .ok (.iload_n 2, 1) := by decide +kernel
theorem dX11_open_3 : decode cX11_open 3 = .ok (.invokevirtual 107, 3) := by decide +kernel
theorem dX11_open_6 : decode cX11_open 6 = .ok (.istore_n 3, 1) := by decide +kernel
theorem dX11_open_7 : decode cX11_open 7 = .ok (.aload_n 0, 1) := by decide +kernel
theorem dX11_open_8 : decode cX11_open 8 = .ok (.getfield 12, 3) := by decide +kernel
theorem dX11_open_11 : decode cX11_open 11 = .ok (.invokevirtual 125, 3) := by decide +kernel
theorem dX11_open_14 : decode cX11_open 14 = .ok (.ifCond .eq 15, 3) := by decide +kernel
theorem dX11_open_17 : decode cX11_open 17 = .ok (.aload_n 0, 1) := by decide +kernel
theorem dX11_open_18 : decode cX11_open 18 = .ok (.getfield 12, 3) := by decide +kernel
theorem dX11_open_21 : decode cX11_open 21 = .ok (.getfield 129, 3) := by decide +kernel
theorem dX11_open_24 : decode cX11_open 24 = .ok (.iload_n 3, 1) := by decide +kernel
theorem dX11_open_25 : decode cX11_open 25 = .ok (.iaload, 1) := by decide +kernel
theorem dX11_open_26 : decode cX11_open 26 = .ok (.ifCond .eq 11, 3) := by decide +kernel
theorem dX11_open_29 : decode cX11_open 29 = .ok (.new 115, 3) := by decide +kernel
theorem dX11_open_32 : decode cX11_open 32 = .ok (.dup, 1) := by decide +kernel
theorem dX11_open_33 : decode cX11_open 33 = .ok (.invokespecial 117, 3) := by decide +kernel
theorem dX11_open_36 : decode cX11_open 36 = .ok (.athrow, 1) := by decide +kernel
theorem dX11_open_37 : decode cX11_open 37 = .ok (.aload_n 0, 1) := by decide +kernel
theorem dX11_open_38 : decode cX11_open 38 = .ok (.getfield 12, 3) := by decide +kernel
theorem dX11_open_41 : decode cX11_open 41 = .ok (.invokevirtual 133, 3) := by decide +kernel
theorem dX11_open_44 : decode cX11_open 44 = .ok (.aload_n 0, 1) := by decide +kernel
theorem dX11_open_45 : decode cX11_open 45 = .ok (.getfield 12, 3) := by decide +kernel
theorem dX11_open_48 : decode cX11_open 48 = .ok (.iload_n 3, 1) := by decide +kernel
theorem dX11_open_49 : decode cX11_open 49 = .ok (.invokevirtual 136, 3) := by decide +kernel
theorem dX11_open_52 : decode cX11_open 52 = .ok (.aload_n 0, 1) := by decide +kernel
theorem dX11_open_53 : decode cX11_open 53 = .ok (.getfield 12, 3) := by decide +kernel
theorem dX11_open_56 : decode cX11_open 56 = .ok (.getfield 140, 3) := by decide +kernel
theorem dX11_open_59 : decode cX11_open 59 = .ok (.iload_n 3, 1) := by decide +kernel
theorem dX11_open_60 : decode cX11_open 60 = .ok (.baload, 1) := by decide +kernel
theorem dX11_open_61 : decode cX11_open 61 = .ok (.ifCond .eq 8, 3) := by decide +kernel
theorem dX11_open_64 : decode cX11_open 64 = .ok (.bipush 9, 2) := by decide +kernel
theorem dX11_open_66 : decode cX11_open 66 = .ok (.goto 12, 3) := by decide +kernel
theorem dX11_open_69 : decode cX11_open 69 = .ok (.aload_n 0, 1) := by decide +kernel
theorem dX11_open_70 : decode cX11_open 70 = .ok (.getfield 12, 3) := by decide +kernel
theorem dX11_open_73 : decode cX11_open 73 = .ok (.getfield 144, 3) := by decide +kernel
theorem dX11_open_76 : decode cX11_open 76 = .ok (.iload_n 3, 1) := by decide +kernel
theorem dX11_open_77 : decode cX11_open 77 = .ok (.iaload, 1) := by decide +kernel
theorem dX11_open_78 : decode cX11_open 78 = .ok (.ireturn, 1) := by decide +kernel
theorem q_X11_open : yX11_open.cls = RX11 ∧ yX11_open.cls ≠ "java/lang/invoke/MethodHandle" ∧ yX11_open.cls ≠ "java/lang/invoke/VarHandle" ∧ (parseMethodDescriptor yX11_open.desc).map (fun d => d.parameters.length) = some 2 := ⟨rfl, by decide, by decide, by decide +kernel⟩
set_option maxRecDepth 100000 in
set_option maxHeartbeats 4000000 in
theorem c_X11_open (l : Launch) (hst : l.stackTraces = false) (K : wK) (ad : Nat → Nat) {D_hasBoard : Int} {D_beganBlank : Int} {F_mines : Int} {F_moves : Int} {F_changes : Int} {G_width : Int} {G_height : Int} {G_size : Int} {B_parts : Int} {B_longest : Int} {S_groups : Int} {S_askedGroup : Int} {S_taken : Int} {R_waitingCount : Int} {R_metCount : Int} {A_grade : Int} {A_cell : Int} {A_mined : Int} {A_withTotal : Int} {A_numbers : Int} {X_low : Int} {X_high : Int} {Y_low : Int} {Y_high : Int} {F_mined : Int → Int} {F_number : Int → Int} {F_state : Int → Int} {F_cellsIn : Int → Int} {F_unknownNear : Int → Int} {F_hitNear : Int → Int} {F_moveStart : Int → Int} {F_changed : Int → Int} {F_waiting : Int → Int} {F_seen : Int → Int} {G_near : Int → Int} {G_nearEnd : Int → Int} {B_chosen : Int → Int} {B_partOf : Int → Int} {B_rest : Int → Int} {B_unknowns : Int → Int} {B_partStart : Int → Int} {B_cells : Int → Int} {S_minedSet : Int → Int} {S_safeSet : Int → Int} {S_partSet : Int → Int} {S_tally : Int → Int} {S_askedTally : Int → Int} {S_groupOf : Int → Int} {S_groupSize : Int → Int} {S_links : Int → Int} {S_linkEnd : Int → Int} {S_pick : Int → Int} {S_groupMinedSet : Int → Int} {S_groupSafeSet : Int → Int} {O_sums : Int → Int64} {O_nextSums : Int → Int64} {R_found : Int → Int} {R_openEnds : Int → Int} {R_need : Int → Int} {R_waiting : Int → Int} {R_waits : Int → Int} {R_common : Int → Int} {R_met : Int → Int} {A_number : Int → Int} {Q_mined : Int → Int64} {Q_all : Int → Int64} {Q_choices : Int → Int64} {Q_term : Int → Int64} {Q_divisor : Int → Int64} {Q_spare : Int → Int64} {X_limbs : Int → Int64} {X_sum : Int → Int64} {Y_limbs : Int → Int64} {Y_sum : Int → Int64} (x1 : Int) (x2 : Int) (rx1 : inR x1) (rx2 : inR x2) (post : Int → (Int) → (Int) → (Int → Int) → (Int → Int) → (Int → Int) → (Int → Int) → (Int → Int) → (Int → Int) → (Int → Int) → Prop) (px : Int → (Int) → (Int) → (Int → Int) → (Int → Int) → (Int → Int) → (Int → Int) → (Int → Int) → (Int → Int) → (Int → Int) → Prop) (h : P_X11_open post px D_hasBoard F_moves F_changes G_width G_height F_mined F_number F_state F_cellsIn F_unknownNear F_hitNear F_moveStart F_changed F_waiting G_near G_nearEnd x1 x2) : xI l yX11_open (Cond.code yX11_open cX11_open 4 (some .int) :: GT) ({ frames := 9, cells := 3, slots := 18, locals := 540 } : Room) 3 18 [.ref (ad 0), .int (iI x1), .int (iI x2)] K ad (dW D_hasBoard D_beganBlank F_mines F_moves F_changes G_width G_height G_size B_parts B_longest S_groups S_askedGroup S_taken R_waitingCount R_metCount A_grade A_cell A_mined A_withTotal A_numbers X_low X_high Y_low Y_high F_mined F_number F_state F_cellsIn F_unknownNear F_hitNear F_moveStart F_changed F_waiting F_seen G_near G_nearEnd B_chosen B_partOf B_rest B_unknowns B_partStart B_cells S_minedSet S_safeSet S_partSet S_tally S_askedTally S_groupOf S_groupSize S_links S_linkEnd S_pick S_groupMinedSet S_groupSafeSet O_sums O_nextSums R_found R_openEnds R_need R_waiting R_waits R_common R_met A_number Q_mined Q_all Q_choices Q_term Q_divisor Q_spare X_limbs X_sum Y_limbs Y_sum) (fun z9 u9 => ∃ F_moves9 F_changes9 F_state9 F_cellsIn9 F_unknownNear9 F_hitNear9 F_moveStart9 F_changed9 F_waiting9, u9 = (dW D_hasBoard D_beganBlank F_mines F_moves9 F_changes9 G_width G_height G_size B_parts B_longest S_groups S_askedGroup S_taken R_waitingCount R_metCount A_grade A_cell A_mined A_withTotal A_numbers X_low X_high Y_low Y_high F_mined F_number F_state9 F_cellsIn9 F_unknownNear9 F_hitNear9 F_moveStart9 F_changed9 F_waiting9 F_seen G_near G_nearEnd B_chosen B_partOf B_rest B_unknowns B_partStart B_cells S_minedSet S_safeSet S_partSet S_tally S_askedTally S_groupOf S_groupSize S_links S_linkEnd S_pick S_groupMinedSet S_groupSafeSet O_sums O_nextSums R_found R_openEnds R_need R_waiting R_waits R_common R_met A_number Q_mined Q_all Q_choices Q_term Q_divisor Q_spare X_limbs X_sum Y_limbs Y_sum) ∧ post z9 F_moves9 F_changes9 F_state9 F_cellsIn9 F_unknownNear9 F_hitNear9 F_moveStart9 F_changed9 F_waiting9) (fun k9 u9 => (k9 = 1 ∨ k9 = 2 ∨ k9 = 3) ∧ ∃ F_moves9 F_changes9 F_state9 F_cellsIn9 F_unknownNear9 F_hitNear9 F_moveStart9 F_changed9 F_waiting9, u9 = (dW D_hasBoard D_beganBlank F_mines F_moves9 F_changes9 G_width G_height G_size B_parts B_longest S_groups S_askedGroup S_taken R_waitingCount R_metCount A_grade A_cell A_mined A_withTotal A_numbers X_low X_high Y_low Y_high F_mined F_number F_state9 F_cellsIn9 F_unknownNear9 F_hitNear9 F_moveStart9 F_changed9 F_waiting9 F_seen G_near G_nearEnd B_chosen B_partOf B_rest B_unknowns B_partStart B_cells S_minedSet S_safeSet S_partSet S_tally S_askedTally S_groupOf S_groupSize S_links S_linkEnd S_pick S_groupMinedSet S_groupSafeSet O_sums O_nextSums R_found R_openEnds R_need R_waiting R_waits R_common R_met A_number Q_mined Q_all Q_choices Q_term Q_divisor Q_spare X_limbs X_sum Y_limbs Y_sum) ∧ px k9 F_moves9 F_changes9 F_state9 F_cellsIn9 F_unknownNear9 F_hitNear9 F_moveStart9 F_changed9 F_waiting9) := by
  refine xI_of (lv0 := [(0, .ref (ad 0)), (1, .int (iI x1)), (2, .int (iI x2))]) hst (by decide) (Nat.le_of_ble_eq_true rfl) rfl (Nat.le_of_ble_eq_true rfl) rfl rfl ?_
  intro p e s m args below meth c Q A C T ret XO thr
  replace C : Cx p ({ frames := 9, cells := 3, slots := 18, locals := 540 } : Room) m c 0 0 cX11_open 4 s args RX11 K A := C
  unfold P_X11_open at h
  refine wa_aload_n C 0 rfl dX11_open_0 rfl ?_
  refine wa_iload_n C 1 rfl dX11_open_1 rfl ?_
  refine wa_iload_n C 2 rfl dX11_open_2 rfl ?_
  refine wa_xVi C T XO (k := 0) (As := [.int (iI x1), .int (iI x2)]) (rest := []) (c_X11_cellAt l hst K ad x1 x2 rx1 rx2 _ _ h) gw_880 gw_877 dW_0 rfl gw_879 gs_38 gw_1 q_X11_cellAt rfl rfl rfl ⟨by decide, by decide⟩ rfl (Nat.le_of_ble_eq_true rfl) dX11_open_3 ⟨Nat.le_of_ble_eq_true rfl, Nat.le_of_ble_eq_true rfl⟩ ⟨Nat.le_of_ble_eq_true rfl, Nat.le_of_ble_eq_true rfl⟩ (fun z9 u9 hx9 => by obtain ⟨hk9, rfl, h9⟩ := hx9; exact ⟨by omega, _, _, _, _, _, _, _, _, _, rfl, h9⟩) (fun c_1 u9 rc_1 hp => ?_)
  replace C := C.more (cells' := 2) (slots' := 12) (Nat.le_of_ble_eq_true rfl) (Nat.le_of_ble_eq_true rfl)
  obtain ⟨rfl, h⟩ := hp
  replace h := h rc_1
  refine wa_istore_n C dX11_open_6 rfl (by decide) rfl ?_
  refine wa_aload_n C 1 rfl dX11_open_7 rfl ?_
  refine wa_getR C 0 0 dW_0 rfl rfl (by decide) okX11 gw_458 dX11_open_8 ?_
  refine wa_callVi C (k := 1) (As := []) (rest := []) (c_X2_allowsMove l K ad  _ h) gw_943 gw_940 dW_1 rfl gw_941 gw_942 gw_2 q_X2_allowsMove rfl rfl rfl ⟨by decide, by decide⟩ rfl (Nat.le_of_ble_eq_true rfl) dX11_open_11 (fun c_3 u9 rc_3 hp => ?_)
  obtain ⟨bc_3, rfl, h⟩ := hp
  replace h := h bc_3
  refine wa_if_eq C (tgt := 29) (inR_b bc_3) dX11_open_14 (by decide) (fun c_4 => ?_) (fun c_4 => ?_)
  · replace h := h.1 c_4
    exact thr 3 (Nat.le_of_ble_eq_true rfl) (Nat.le_of_ble_eq_true rfl) xcl_3 xin_3 xat_3 (Nat.le_of_ble_eq_true rfl) dX11_open_29 dX11_open_32 dX11_open_33 dX11_open_36 ⟨by decide, _, _, _, _, _, _, _, _, _, rfl, h⟩
  · replace h := h.2 c_4
    refine wa_aload_n C 1 rfl dX11_open_17 rfl ?_
    refine wa_getR C 0 0 dW_0 rfl rfl (by decide) okX11 gw_458 dX11_open_18 ?_
    refine wa_getR C 1 3 dW_1 rfl rfl (by decide) okX2 gw_99 dX11_open_21 ?_
    refine wa_iload_n C 0 rfl dX11_open_24 rfl ?_
    obtain ⟨t_5, h⟩ := h
    refine wa_iald C 14 dW_14 dX11_open_25 t_5.1 t_5.2 (fun v_6 ev_6 rv_6 => ?_)
    replace h := h v_6 ev_6 rv_6
    refine wa_if_eq C (tgt := 37) rv_6 dX11_open_26 (by decide) (fun c_7 => ?_) (fun c_7 => ?_)
    · replace h := h.1 c_7
      refine wa_aload_n C 1 rfl dX11_open_37 rfl ?_
      refine wa_getR C 0 0 dW_0 rfl rfl (by decide) okX11 gw_458 dX11_open_38 ?_
      refine wa_callVv C (k := 1) (As := []) (rest := []) (c_X2_beginMove l K ad  _ h) gw_951 gw_948 dW_1 rfl gw_949 gw_950 gw_2 q_X2_beginMove rfl rfl rfl ⟨by decide, by decide⟩ rfl (Nat.le_of_ble_eq_true rfl) dX11_open_41 (fun u9 hp => ?_)
      obtain ⟨F_moves_8, F_moveStart_9, rfl, h⟩ := hp
      refine wa_aload_n C 1 rfl dX11_open_44 rfl ?_
      refine wa_getR C 0 0 dW_0 rfl rfl (by decide) okX11 gw_458 dX11_open_45 ?_
      refine wa_iload_n C 0 rfl dX11_open_48 rfl ?_
      refine wa_callVv C (k := 1) (As := [.int (iI c_1)]) (rest := []) (c_X2_uncover l K ad c_1 rc_1 _ h) gw_649 gw_952 dW_1 rfl gw_647 gw_648 gw_2 q_X2_uncover rfl rfl rfl ⟨by decide, by decide⟩ rfl (Nat.le_of_ble_eq_true rfl) dX11_open_49 (fun u9 hp => ?_)
      obtain ⟨F_changes_10, F_state_11, F_cellsIn_12, F_unknownNear_13, F_hitNear_14, F_changed_15, F_waiting_16, rfl, h⟩ := hp
      refine wa_aload_n C 1 rfl dX11_open_52 rfl ?_
      refine wa_getR C 0 0 dW_0 rfl rfl (by decide) okX11 gw_458 dX11_open_53 ?_
      refine wa_getR C 1 1 dW_1 rfl rfl (by decide) okX2 gw_90 dX11_open_56 ?_
      refine wa_iload_n C 0 rfl dX11_open_59 rfl ?_
      obtain ⟨t_17, h⟩ := h
      refine wa_bald C 12 dW_12 dX11_open_60 t_17.1 t_17.2 (fun v_18 ev_18 rv_18 => ?_)
      replace h := h v_18 ev_18 rv_18
      obtain ⟨J_19, h, hJ_19⟩ := h
      have k_20 : ∀ (z_21 : Int), inR z_21 → J_19 z_21 → WA p l e ({ frames := 9, cells := 3, slots := 18, locals := 540 } : Room) s m args below meth c 2 12 Q K ad 4 A 78 [] [.int (iI z_21)] (dW D_hasBoard D_beganBlank F_mines F_moves_8 F_changes_10 G_width G_height G_size B_parts B_longest S_groups S_askedGroup S_taken R_waitingCount R_metCount A_grade A_cell A_mined A_withTotal A_numbers X_low X_high Y_low Y_high F_mined F_number F_state_11 F_cellsIn_12 F_unknownNear_13 F_hitNear_14 F_moveStart_9 F_changed_15 F_waiting_16 F_seen G_near G_nearEnd B_chosen B_partOf B_rest B_unknowns B_partStart B_cells S_minedSet S_safeSet S_partSet S_tally S_askedTally S_groupOf S_groupSize S_links S_linkEnd S_pick S_groupMinedSet S_groupSafeSet O_sums O_nextSums R_found R_openEnds R_need R_waiting R_waits R_common R_met A_number Q_mined Q_all Q_choices Q_term Q_divisor Q_spare X_limbs X_sum Y_limbs Y_sum) := by
        intro z_21 rz_21 h
        replace h := hJ_19 z_21 rz_21 h
        exact ret (Nat.le_of_ble_eq_true rfl) (Nat.le_of_ble_eq_true rfl) dX11_open_78 rz_21 ⟨_, _, _, _, _, _, _, _, _, rfl, h⟩
      refine wa_if_eq C (tgt := 69) (inR_b rv_18) dX11_open_61 (by decide) (fun c_22 => ?_) (fun c_22 => ?_)
      · replace h := h.1 c_22
        refine wa_aload_n C 1 rfl dX11_open_69 rfl ?_
        refine wa_getR C 0 0 dW_0 rfl rfl (by decide) okX11 gw_458 dX11_open_70 ?_
        refine wa_getR C 1 2 dW_1 rfl rfl (by decide) okX2 gw_94 dX11_open_73 ?_
        refine wa_iload_n C 0 rfl dX11_open_76 rfl ?_
        obtain ⟨t_23, h⟩ := h
        refine wa_iald C 13 dW_13 dX11_open_77 t_23.1 t_23.2 (fun v_24 ev_24 rv_24 => ?_)
        replace h := h v_24 ev_24 rv_24
        refine wa_sub C [] rfl ?_
        exact k_20 v_24 rv_24 h
      · replace h := h.2 c_22
        refine wa_bipush C (z := 9) dX11_open_64 (by decide) ?_
        refine wa_goto C (tgt := 78) dX11_open_66 (by decide) ?_
        refine wa_sub C [] rfl ?_
        exact k_20 9 (inR_k 9 rfl) h
    · replace h := h.2 c_7
      exact thr 3 (Nat.le_of_ble_eq_true rfl) (Nat.le_of_ble_eq_true rfl) xcl_3 xin_3 xat_3 (Nat.le_of_ble_eq_true rfl) dX11_open_29 dX11_open_32 dX11_open_33 dX11_open_36 ⟨by decide, _, _, _, _, _, _, _, _, _, rfl, h⟩
theorem dX11_flag_0 : decode cX11_flag 0 = .ok (.aload_n 0, 1) := by decide +kernel
theorem dX11_flag_1 : decode cX11_flag 1 = .ok (.iload_n 1, 1) := by decide +kernel
theorem dX11_flag_2 : decode cX11_flag 2 = .ok (.iload_n 2, 1) := by decide +kernel
theorem dX11_flag_3 : decode cX11_flag 3 = .ok (.invokevirtual 107, 3) := by decide +kernel
theorem dX11_flag_6 : decode cX11_flag 6 = .ok (.istore_n 3, 1) := by decide +kernel
theorem dX11_flag_7 : decode cX11_flag 7 = .ok (.aload_n 0, 1) := by decide +kernel
theorem dX11_flag_8 : decode cX11_flag 8 = .ok (.getfield 12, 3) := by decide +kernel
theorem dX11_flag_11 : decode cX11_flag 11 = .ok (.invokevirtual 125, 3) := by decide +kernel
theorem dX11_flag_14 : decode cX11_flag 14 = .ok (.ifCond .eq 14, 3) := by decide +kernel
theorem dX11_flag_17 : decode cX11_flag 17 = .ok (.aload_n 0, 1) := by decide +kernel
theorem dX11_flag_18 : decode cX11_flag 18 = .ok (.getfield 12, 3) := by decide +kernel
theorem dX11_flag_21 : decode cX11_flag 21 = .ok (.iload_n 3, 1) := by decide +kernel
theorem dX11_flag_22 : decode cX11_flag 22 = .ok (.invokevirtual 147, 3) := by decide +kernel
theorem dX11_flag_25 : decode cX11_flag 25 = .ok (.ifCond .ne 11, 3) := by decide +kernel
theorem dX11_flag_28 : decode cX11_flag 28 = .ok (.new 115, 3) := by decide +kernel
theorem dX11_flag_31 : decode cX11_flag 31 = .ok (.dup, 1) := by decide +kernel
theorem dX11_flag_32 : decode cX11_flag 32 = .ok (.invokespecial 117, 3) := by decide +kernel
theorem dX11_flag_35 : decode cX11_flag 35 = .ok (.athrow, 1) := by decide +kernel
theorem dX11_flag_36 : decode cX11_flag 36 = .ok (.aload_n 0, 1) := by decide +kernel
theorem dX11_flag_37 : decode cX11_flag 37 = .ok (.getfield 12, 3) := by decide +kernel
theorem dX11_flag_40 : decode cX11_flag 40 = .ok (.getfield 129, 3) := by decide +kernel
theorem dX11_flag_43 : decode cX11_flag 43 = .ok (.iload_n 3, 1) := by decide +kernel
theorem dX11_flag_44 : decode cX11_flag 44 = .ok (.iaload, 1) := by decide +kernel
theorem dX11_flag_45 : decode cX11_flag 45 = .ok (.ifCond .ne 7, 3) := by decide +kernel
theorem dX11_flag_48 : decode cX11_flag 48 = .ok (.iconst 1, 1) := by decide +kernel
theorem dX11_flag_49 : decode cX11_flag 49 = .ok (.goto 4, 3) := by decide +kernel
theorem dX11_flag_52 : decode cX11_flag 52 = .ok (.iconst 0, 1) := by decide +kernel
theorem dX11_flag_53 : decode cX11_flag 53 = .ok (.istore 4, 2) := by decide +kernel
theorem dX11_flag_55 : decode cX11_flag 55 = .ok (.aload_n 0, 1) := by decide +kernel
theorem dX11_flag_56 : decode cX11_flag 56 = .ok (.getfield 12, 3) := by decide +kernel
theorem dX11_flag_59 : decode cX11_flag 59 = .ok (.invokevirtual 133, 3) := by decide +kernel
theorem dX11_flag_62 : decode cX11_flag 62 = .ok (.aload_n 0, 1) := by decide +kernel
theorem dX11_flag_63 : decode cX11_flag 63 = .ok (.getfield 12, 3) := by decide +kernel
theorem dX11_flag_66 : decode cX11_flag 66 = .ok (.iload_n 3, 1) := by decide +kernel
theorem dX11_flag_67 : decode cX11_flag 67 = .ok (.iload 4, 2) := by decide +kernel
theorem dX11_flag_69 : decode cX11_flag 69 = .ok (.ifCond .eq 7, 3) := by decide +kernel
theorem dX11_flag_72 : decode cX11_flag 72 = .ok (.iconst 1, 1) := by decide +kernel
theorem dX11_flag_73 : decode cX11_flag 73 = .ok (.goto 4, 3) := by decide +kernel
theorem dX11_flag_76 : decode cX11_flag 76 = .ok (.iconst 0, 1) := by decide +kernel
theorem dX11_flag_77 : decode cX11_flag 77 = .ok (.invokevirtual 150, 3) := by decide +kernel
theorem dX11_flag_80 : decode cX11_flag 80 = .ok (.iload 4, 2) := by decide +kernel
theorem dX11_flag_82 : decode cX11_flag 82 = .ok (.ireturn, 1) := by decide +kernel
theorem q_X11_flag : yX11_flag.cls = RX11 ∧ yX11_flag.cls ≠ "java/lang/invoke/MethodHandle" ∧ yX11_flag.cls ≠ "java/lang/invoke/VarHandle" ∧ (parseMethodDescriptor yX11_flag.desc).map (fun d => d.parameters.length) = some 2 := ⟨rfl, by decide, by decide, by decide +kernel⟩
set_option maxRecDepth 100000 in
set_option maxHeartbeats 4000000 in
theorem c_X11_flag (l : Launch) (hst : l.stackTraces = false) (K : wK) (ad : Nat → Nat) {D_hasBoard : Int} {D_beganBlank : Int} {F_mines : Int} {F_moves : Int} {F_changes : Int} {G_width : Int} {G_height : Int} {G_size : Int} {B_parts : Int} {B_longest : Int} {S_groups : Int} {S_askedGroup : Int} {S_taken : Int} {R_waitingCount : Int} {R_metCount : Int} {A_grade : Int} {A_cell : Int} {A_mined : Int} {A_withTotal : Int} {A_numbers : Int} {X_low : Int} {X_high : Int} {Y_low : Int} {Y_high : Int} {F_mined : Int → Int} {F_number : Int → Int} {F_state : Int → Int} {F_cellsIn : Int → Int} {F_unknownNear : Int → Int} {F_hitNear : Int → Int} {F_moveStart : Int → Int} {F_changed : Int → Int} {F_waiting : Int → Int} {F_seen : Int → Int} {G_near : Int → Int} {G_nearEnd : Int → Int} {B_chosen : Int → Int} {B_partOf : Int → Int} {B_rest : Int → Int} {B_unknowns : Int → Int} {B_partStart : Int → Int} {B_cells : Int → Int} {S_minedSet : Int → Int} {S_safeSet : Int → Int} {S_partSet : Int → Int} {S_tally : Int → Int} {S_askedTally : Int → Int} {S_groupOf : Int → Int} {S_groupSize : Int → Int} {S_links : Int → Int} {S_linkEnd : Int → Int} {S_pick : Int → Int} {S_groupMinedSet : Int → Int} {S_groupSafeSet : Int → Int} {O_sums : Int → Int64} {O_nextSums : Int → Int64} {R_found : Int → Int} {R_openEnds : Int → Int} {R_need : Int → Int} {R_waiting : Int → Int} {R_waits : Int → Int} {R_common : Int → Int} {R_met : Int → Int} {A_number : Int → Int} {Q_mined : Int → Int64} {Q_all : Int → Int64} {Q_choices : Int → Int64} {Q_term : Int → Int64} {Q_divisor : Int → Int64} {Q_spare : Int → Int64} {X_limbs : Int → Int64} {X_sum : Int → Int64} {Y_limbs : Int → Int64} {Y_sum : Int → Int64} (x1 : Int) (x2 : Int) (rx1 : inR x1) (rx2 : inR x2) (post : Int → (Int) → (Int) → (Int → Int) → (Int → Int) → (Int → Int) → (Int → Int) → (Int → Int) → (Int → Int) → Prop) (px : Int → (Int) → (Int) → (Int → Int) → (Int → Int) → (Int → Int) → (Int → Int) → (Int → Int) → (Int → Int) → Prop) (h : P_X11_flag post px D_hasBoard F_moves F_changes G_width G_height F_state F_cellsIn F_unknownNear F_hitNear F_moveStart F_changed G_near G_nearEnd x1 x2) : xI l yX11_flag (Cond.code yX11_flag cX11_flag 5 (some .boolean) :: GT) ({ frames := 9, cells := 3, slots := 18, locals := 540 } : Room) 3 18 [.ref (ad 0), .int (iI x1), .int (iI x2)] K ad (dW D_hasBoard D_beganBlank F_mines F_moves F_changes G_width G_height G_size B_parts B_longest S_groups S_askedGroup S_taken R_waitingCount R_metCount A_grade A_cell A_mined A_withTotal A_numbers X_low X_high Y_low Y_high F_mined F_number F_state F_cellsIn F_unknownNear F_hitNear F_moveStart F_changed F_waiting F_seen G_near G_nearEnd B_chosen B_partOf B_rest B_unknowns B_partStart B_cells S_minedSet S_safeSet S_partSet S_tally S_askedTally S_groupOf S_groupSize S_links S_linkEnd S_pick S_groupMinedSet S_groupSafeSet O_sums O_nextSums R_found R_openEnds R_need R_waiting R_waits R_common R_met A_number Q_mined Q_all Q_choices Q_term Q_divisor Q_spare X_limbs X_sum Y_limbs Y_sum) (fun z9 u9 => (z9 = 0 ∨ z9 = 1) ∧ ∃ F_moves9 F_changes9 F_state9 F_cellsIn9 F_unknownNear9 F_hitNear9 F_moveStart9 F_changed9, u9 = (dW D_hasBoard D_beganBlank F_mines F_moves9 F_changes9 G_width G_height G_size B_parts B_longest S_groups S_askedGroup S_taken R_waitingCount R_metCount A_grade A_cell A_mined A_withTotal A_numbers X_low X_high Y_low Y_high F_mined F_number F_state9 F_cellsIn9 F_unknownNear9 F_hitNear9 F_moveStart9 F_changed9 F_waiting F_seen G_near G_nearEnd B_chosen B_partOf B_rest B_unknowns B_partStart B_cells S_minedSet S_safeSet S_partSet S_tally S_askedTally S_groupOf S_groupSize S_links S_linkEnd S_pick S_groupMinedSet S_groupSafeSet O_sums O_nextSums R_found R_openEnds R_need R_waiting R_waits R_common R_met A_number Q_mined Q_all Q_choices Q_term Q_divisor Q_spare X_limbs X_sum Y_limbs Y_sum) ∧ post z9 F_moves9 F_changes9 F_state9 F_cellsIn9 F_unknownNear9 F_hitNear9 F_moveStart9 F_changed9) (fun k9 u9 => (k9 = 1 ∨ k9 = 2 ∨ k9 = 3) ∧ ∃ F_moves9 F_changes9 F_state9 F_cellsIn9 F_unknownNear9 F_hitNear9 F_moveStart9 F_changed9, u9 = (dW D_hasBoard D_beganBlank F_mines F_moves9 F_changes9 G_width G_height G_size B_parts B_longest S_groups S_askedGroup S_taken R_waitingCount R_metCount A_grade A_cell A_mined A_withTotal A_numbers X_low X_high Y_low Y_high F_mined F_number F_state9 F_cellsIn9 F_unknownNear9 F_hitNear9 F_moveStart9 F_changed9 F_waiting F_seen G_near G_nearEnd B_chosen B_partOf B_rest B_unknowns B_partStart B_cells S_minedSet S_safeSet S_partSet S_tally S_askedTally S_groupOf S_groupSize S_links S_linkEnd S_pick S_groupMinedSet S_groupSafeSet O_sums O_nextSums R_found R_openEnds R_need R_waiting R_waits R_common R_met A_number Q_mined Q_all Q_choices Q_term Q_divisor Q_spare X_limbs X_sum Y_limbs Y_sum) ∧ px k9 F_moves9 F_changes9 F_state9 F_cellsIn9 F_unknownNear9 F_hitNear9 F_moveStart9 F_changed9) := by
  refine xZ_of (lv0 := [(0, .ref (ad 0)), (1, .int (iI x1)), (2, .int (iI x2))]) hst (by decide) (Nat.le_of_ble_eq_true rfl) rfl (Nat.le_of_ble_eq_true rfl) rfl rfl ?_
  intro p e s m args below meth c Q A C T ret XO thr
  replace C : Cx p ({ frames := 9, cells := 3, slots := 18, locals := 540 } : Room) m c 0 0 cX11_flag 5 s args RX11 K A := C
  unfold P_X11_flag at h
  refine wa_aload_n C 0 rfl dX11_flag_0 rfl ?_
  refine wa_iload_n C 1 rfl dX11_flag_1 rfl ?_
  refine wa_iload_n C 2 rfl dX11_flag_2 rfl ?_
  refine wa_xVi C T XO (k := 0) (As := [.int (iI x1), .int (iI x2)]) (rest := []) (c_X11_cellAt l hst K ad x1 x2 rx1 rx2 _ _ h) gw_880 gw_877 dW_0 rfl gw_879 gs_38 gw_1 q_X11_cellAt rfl rfl rfl ⟨by decide, by decide⟩ rfl (Nat.le_of_ble_eq_true rfl) dX11_flag_3 ⟨Nat.le_of_ble_eq_true rfl, Nat.le_of_ble_eq_true rfl⟩ ⟨Nat.le_of_ble_eq_true rfl, Nat.le_of_ble_eq_true rfl⟩ (fun z9 u9 hx9 => by obtain ⟨hk9, rfl, h9⟩ := hx9; exact ⟨by omega, _, _, _, _, _, _, _, _, rfl, h9⟩) (fun c_1 u9 rc_1 hp => ?_)
  replace C := C.more (cells' := 2) (slots' := 12) (Nat.le_of_ble_eq_true rfl) (Nat.le_of_ble_eq_true rfl)
  obtain ⟨rfl, h⟩ := hp
  replace h := h rc_1
  refine wa_istore_n C dX11_flag_6 rfl (by decide) rfl ?_
  refine wa_aload_n C 1 rfl dX11_flag_7 rfl ?_
  refine wa_getR C 0 0 dW_0 rfl rfl (by decide) okX11 gw_458 dX11_flag_8 ?_
  refine wa_callVi C (k := 1) (As := []) (rest := []) (c_X2_allowsMove l K ad  _ h) gw_943 gw_940 dW_1 rfl gw_941 gw_942 gw_2 q_X2_allowsMove rfl rfl rfl ⟨by decide, by decide⟩ rfl (Nat.le_of_ble_eq_true rfl) dX11_flag_11 (fun c_3 u9 rc_3 hp => ?_)
  obtain ⟨bc_3, rfl, h⟩ := hp
  replace h := h bc_3
  refine wa_if_eq C (tgt := 28) (inR_b bc_3) dX11_flag_14 (by decide) (fun c_4 => ?_) (fun c_4 => ?_)
  · replace h := h.1 c_4
    exact thr 3 (Nat.le_of_ble_eq_true rfl) (Nat.le_of_ble_eq_true rfl) xcl_3 xin_3 xat_3 (Nat.le_of_ble_eq_true rfl) dX11_flag_28 dX11_flag_31 dX11_flag_32 dX11_flag_35 ⟨by decide, _, _, _, _, _, _, _, _, rfl, h⟩
  · replace h := h.2 c_4
    refine wa_aload_n C 1 rfl dX11_flag_17 rfl ?_
    refine wa_getR C 0 0 dW_0 rfl rfl (by decide) okX11 gw_458 dX11_flag_18 ?_
    refine wa_iload_n C 0 rfl dX11_flag_21 rfl ?_
    refine wa_callVi C (k := 1) (As := [.int (iI c_1)]) (rest := []) (c_X2_isUnknown l K ad c_1 rc_1 _ h) gw_665 gw_960 dW_1 rfl gw_663 gw_664 gw_2 q_X2_isUnknown rfl rfl rfl ⟨by decide, by decide⟩ rfl (Nat.le_of_ble_eq_true rfl) dX11_flag_22 (fun c_5 u9 rc_5 hp => ?_)
    obtain ⟨bc_5, rfl, h⟩ := hp
    replace h := h bc_5
    refine wa_if_ne C (tgt := 36) (inR_b bc_5) dX11_flag_25 (by decide) (fun c_6 => ?_) (fun c_6 => ?_)
    · replace h := h.1 c_6
      refine wa_aload_n C 1 rfl dX11_flag_36 rfl ?_
      refine wa_getR C 0 0 dW_0 rfl rfl (by decide) okX11 gw_458 dX11_flag_37 ?_
      refine wa_getR C 1 3 dW_1 rfl rfl (by decide) okX2 gw_99 dX11_flag_40 ?_
      refine wa_iload_n C 0 rfl dX11_flag_43 rfl ?_
      obtain ⟨t_7, h⟩ := h
      refine wa_iald C 14 dW_14 dX11_flag_44 t_7.1 t_7.2 (fun v_8 ev_8 rv_8 => ?_)
      replace h := h v_8 ev_8 rv_8
      obtain ⟨J_9, h, hJ_9⟩ := h
      have k_10 : ∀ (z_11 : Int), inR z_11 → J_9 z_11 → WA p l e ({ frames := 9, cells := 3, slots := 18, locals := 540 } : Room) s m args below meth c 2 12 Q K ad 5 A 53 [(0, .ref (ad 0)), (3, .int (iI c_1))] [.int (iI z_11)] (dW D_hasBoard D_beganBlank F_mines F_moves F_changes G_width G_height G_size B_parts B_longest S_groups S_askedGroup S_taken R_waitingCount R_metCount A_grade A_cell A_mined A_withTotal A_numbers X_low X_high Y_low Y_high F_mined F_number F_state F_cellsIn F_unknownNear F_hitNear F_moveStart F_changed F_waiting F_seen G_near G_nearEnd B_chosen B_partOf B_rest B_unknowns B_partStart B_cells S_minedSet S_safeSet S_partSet S_tally S_askedTally S_groupOf S_groupSize S_links S_linkEnd S_pick S_groupMinedSet S_groupSafeSet O_sums O_nextSums R_found R_openEnds R_need R_waiting R_waits R_common R_met A_number Q_mined Q_all Q_choices Q_term Q_divisor Q_spare X_limbs X_sum Y_limbs Y_sum) := by
        intro z_11 rz_11 h
        replace h := hJ_9 z_11 rz_11 h
        refine wa_istore C dX11_flag_53 (by decide) rfl ?_
        refine wa_aload_n C 1 rfl dX11_flag_55 rfl ?_
        refine wa_getR C 0 0 dW_0 rfl rfl (by decide) okX11 gw_458 dX11_flag_56 ?_
        refine wa_callVv C (k := 1) (As := []) (rest := []) (c_X2_beginMove l K ad  _ h) gw_951 gw_948 dW_1 rfl gw_949 gw_950 gw_2 q_X2_beginMove rfl rfl rfl ⟨by decide, by decide⟩ rfl (Nat.le_of_ble_eq_true rfl) dX11_flag_59 (fun u9 hp => ?_)
        obtain ⟨F_moves_12, F_moveStart_13, rfl, h⟩ := hp
        refine wa_aload_n C 1 rfl dX11_flag_62 rfl ?_
        refine wa_getR C 0 0 dW_0 rfl rfl (by decide) okX11 gw_458 dX11_flag_63 ?_
        refine wa_iload_n C 2 rfl dX11_flag_66 rfl ?_
        refine wa_iload C 0 rfl dX11_flag_67 ?_
        obtain ⟨J_14, h, hJ_14⟩ := h
        have k_15 : ∀ (z_16 : Int), inR z_16 → J_14 z_16 → WA p l e ({ frames := 9, cells := 3, slots := 18, locals := 540 } : Room) s m args below meth c 2 12 Q K ad 5 A 77 [(4, .int (iI z_11))] [.int (iI z_16), .int (iI c_1), .ref (ad 1)] (dW D_hasBoard D_beganBlank F_mines F_moves_12 F_changes G_width G_height G_size B_parts B_longest S_groups S_askedGroup S_taken R_waitingCount R_metCount A_grade A_cell A_mined A_withTotal A_numbers X_low X_high Y_low Y_high F_mined F_number F_state F_cellsIn F_unknownNear F_hitNear F_moveStart_13 F_changed F_waiting F_seen G_near G_nearEnd B_chosen B_partOf B_rest B_unknowns B_partStart B_cells S_minedSet S_safeSet S_partSet S_tally S_askedTally S_groupOf S_groupSize S_links S_linkEnd S_pick S_groupMinedSet S_groupSafeSet O_sums O_nextSums R_found R_openEnds R_need R_waiting R_waits R_common R_met A_number Q_mined Q_all Q_choices Q_term Q_divisor Q_spare X_limbs X_sum Y_limbs Y_sum) := by
          intro z_16 rz_16 h
          replace h := hJ_14 z_16 rz_16 h
          refine wa_callVv C (k := 1) (As := [.int (iI c_1), .int (iI z_16)]) (rest := []) (c_X2_change l K ad c_1 z_16 rc_1 rz_16 _ h) gw_653 gw_961 dW_1 rfl gw_651 gw_652 gw_2 q_X2_change rfl rfl rfl ⟨by decide, by decide⟩ rfl (Nat.le_of_ble_eq_true rfl) dX11_flag_77 (fun u9 hp => ?_)
          obtain ⟨F_changes_17, F_state_18, F_cellsIn_19, F_unknownNear_20, F_hitNear_21, F_changed_22, rfl, h⟩ := hp
          refine wa_iload C 0 rfl dX11_flag_80 ?_
          obtain ⟨b_23, h⟩ := h
          exact ret (Nat.le_of_ble_eq_true rfl) (Nat.le_of_ble_eq_true rfl) dX11_flag_82 b_23 ⟨b_23, _, _, _, _, _, _, _, _, rfl, h⟩
        refine wa_if_eq C (tgt := 76) rz_11 dX11_flag_69 (by decide) (fun c_24 => ?_) (fun c_24 => ?_)
        · replace h := h.1 c_24
          refine wa_iconst C (z := 0) dX11_flag_76 rfl ?_
          refine wa_sub C [0] rfl ?_
          exact k_15 0 (inR_k 0 rfl) h
        · replace h := h.2 c_24
          refine wa_iconst C (z := 1) dX11_flag_72 rfl ?_
          refine wa_goto C (tgt := 77) dX11_flag_73 (by decide) ?_
          refine wa_sub C [0] rfl ?_
          exact k_15 1 (inR_k 1 rfl) h
      refine wa_if_ne C (tgt := 52) rv_8 dX11_flag_45 (by decide) (fun c_25 => ?_) (fun c_25 => ?_)
      · replace h := h.1 c_25
        refine wa_iconst C (z := 0) dX11_flag_52 rfl ?_
        refine wa_sub C [1, 0] rfl ?_
        exact k_10 0 (inR_k 0 rfl) h
      · replace h := h.2 c_25
        refine wa_iconst C (z := 1) dX11_flag_48 rfl ?_
        refine wa_goto C (tgt := 53) dX11_flag_49 (by decide) ?_
        refine wa_sub C [1, 0] rfl ?_
        exact k_10 1 (inR_k 1 rfl) h
    · replace h := h.2 c_6
      exact thr 3 (Nat.le_of_ble_eq_true rfl) (Nat.le_of_ble_eq_true rfl) xcl_3 xin_3 xat_3 (Nat.le_of_ble_eq_true rfl) dX11_flag_28 dX11_flag_31 dX11_flag_32 dX11_flag_35 ⟨by decide, _, _, _, _, _, _, _, _, rfl, h⟩
theorem dX11_chord_0 : decode cX11_chord 0 = .ok (.aload_n 0, 1) := by decide +kernel
theorem dX11_chord_1 : decode cX11_chord 1 = .ok (.iload_n 1, 1) := by decide +kernel
theorem dX11_chord_2 : decode cX11_chord 2 = .ok (.iload_n 2, 1) := by decide +kernel
theorem dX11_chord_3 : decode cX11_chord 3 = .ok (.invokevirtual 107, 3) := by decide +kernel
theorem dX11_chord_6 : decode cX11_chord 6 = .ok (.istore_n 3, 1) := by decide +kernel
theorem dX11_chord_7 : decode cX11_chord 7 = .ok (.aload_n 0, 1) := by decide +kernel
theorem dX11_chord_8 : decode cX11_chord 8 = .ok (.getfield 12, 3) := by decide +kernel
theorem dX11_chord_11 : decode cX11_chord 11 = .ok (.invokevirtual 125, 3) := by decide +kernel
theorem dX11_chord_14 : decode cX11_chord 14 = .ok (.ifCond .eq 14, 3) := by decide +kernel
theorem dX11_chord_17 : decode cX11_chord 17 = .ok (.aload_n 0, 1) := by decide +kernel
theorem dX11_chord_18 : decode cX11_chord 18 = .ok (.getfield 12, 3) := by decide +kernel
theorem dX11_chord_21 : decode cX11_chord 21 = .ok (.iload_n 3, 1) := by decide +kernel
theorem dX11_chord_22 : decode cX11_chord 22 = .ok (.invokevirtual 153, 3) := by decide +kernel
theorem dX11_chord_25 : decode cX11_chord 25 = .ok (.ifCond .ne 11, 3) := by decide +kernel
theorem dX11_chord_28 : decode cX11_chord 28 = .ok (.new 115, 3) := by decide +kernel
theorem dX11_chord_31 : decode cX11_chord 31 = .ok (.dup, 1) := by decide +kernel
theorem dX11_chord_32 : decode cX11_chord 32 = .ok (.invokespecial 117, 3) := by decide +kernel
theorem dX11_chord_35 : decode cX11_chord 35 = .ok (.athrow, 1) := by decide +kernel
theorem dX11_chord_36 : decode cX11_chord 36 = .ok (.aload_n 0, 1) := by decide +kernel
theorem dX11_chord_37 : decode cX11_chord 37 = .ok (.getfield 12, 3) := by decide +kernel
theorem dX11_chord_40 : decode cX11_chord 40 = .ok (.invokevirtual 156, 3) := by decide +kernel
theorem dX11_chord_43 : decode cX11_chord 43 = .ok (.istore 4, 2) := by decide +kernel
theorem dX11_chord_45 : decode cX11_chord 45 = .ok (.aload_n 0, 1) := by decide +kernel
theorem dX11_chord_46 : decode cX11_chord 46 = .ok (.getfield 12, 3) := by decide +kernel
theorem dX11_chord_49 : decode cX11_chord 49 = .ok (.invokevirtual 133, 3) := by decide +kernel
theorem dX11_chord_52 : decode cX11_chord 52 = .ok (.aload_n 0, 1) := by decide +kernel
theorem dX11_chord_53 : decode cX11_chord 53 = .ok (.getfield 12, 3) := by decide +kernel
theorem dX11_chord_56 : decode cX11_chord 56 = .ok (.iload_n 3, 1) := by decide +kernel
theorem dX11_chord_57 : decode cX11_chord 57 = .ok (.invokevirtual 160, 3) := by decide +kernel
theorem dX11_chord_60 : decode cX11_chord 60 = .ok (.iload 4, 2) := by decide +kernel
theorem dX11_chord_62 : decode cX11_chord 62 = .ok (.aload_n 0, 1) := by decide +kernel
theorem dX11_chord_63 : decode cX11_chord 63 = .ok (.getfield 12, 3) := by decide +kernel
theorem dX11_chord_66 : decode cX11_chord 66 = .ok (.invokevirtual 156, 3) := by decide +kernel
theorem dX11_chord_69 : decode cX11_chord 69 = .ok (.isub, 1) := by decide +kernel
theorem dX11_chord_70 : decode cX11_chord 70 = .ok (.ireturn, 1) := by decide +kernel
theorem q_X11_chord : yX11_chord.cls = RX11 ∧ yX11_chord.cls ≠ "java/lang/invoke/MethodHandle" ∧ yX11_chord.cls ≠ "java/lang/invoke/VarHandle" ∧ (parseMethodDescriptor yX11_chord.desc).map (fun d => d.parameters.length) = some 2 := ⟨rfl, by decide, by decide, by decide +kernel⟩
set_option maxRecDepth 100000 in
set_option maxHeartbeats 4000000 in
theorem c_X11_chord (l : Launch) (hst : l.stackTraces = false) (K : wK) (ad : Nat → Nat) {D_hasBoard : Int} {D_beganBlank : Int} {F_mines : Int} {F_moves : Int} {F_changes : Int} {G_width : Int} {G_height : Int} {G_size : Int} {B_parts : Int} {B_longest : Int} {S_groups : Int} {S_askedGroup : Int} {S_taken : Int} {R_waitingCount : Int} {R_metCount : Int} {A_grade : Int} {A_cell : Int} {A_mined : Int} {A_withTotal : Int} {A_numbers : Int} {X_low : Int} {X_high : Int} {Y_low : Int} {Y_high : Int} {F_mined : Int → Int} {F_number : Int → Int} {F_state : Int → Int} {F_cellsIn : Int → Int} {F_unknownNear : Int → Int} {F_hitNear : Int → Int} {F_moveStart : Int → Int} {F_changed : Int → Int} {F_waiting : Int → Int} {F_seen : Int → Int} {G_near : Int → Int} {G_nearEnd : Int → Int} {B_chosen : Int → Int} {B_partOf : Int → Int} {B_rest : Int → Int} {B_unknowns : Int → Int} {B_partStart : Int → Int} {B_cells : Int → Int} {S_minedSet : Int → Int} {S_safeSet : Int → Int} {S_partSet : Int → Int} {S_tally : Int → Int} {S_askedTally : Int → Int} {S_groupOf : Int → Int} {S_groupSize : Int → Int} {S_links : Int → Int} {S_linkEnd : Int → Int} {S_pick : Int → Int} {S_groupMinedSet : Int → Int} {S_groupSafeSet : Int → Int} {O_sums : Int → Int64} {O_nextSums : Int → Int64} {R_found : Int → Int} {R_openEnds : Int → Int} {R_need : Int → Int} {R_waiting : Int → Int} {R_waits : Int → Int} {R_common : Int → Int} {R_met : Int → Int} {A_number : Int → Int} {Q_mined : Int → Int64} {Q_all : Int → Int64} {Q_choices : Int → Int64} {Q_term : Int → Int64} {Q_divisor : Int → Int64} {Q_spare : Int → Int64} {X_limbs : Int → Int64} {X_sum : Int → Int64} {Y_limbs : Int → Int64} {Y_sum : Int → Int64} (x1 : Int) (x2 : Int) (rx1 : inR x1) (rx2 : inR x2) (post : Int → (Int) → (Int) → (Int → Int) → (Int → Int) → (Int → Int) → (Int → Int) → (Int → Int) → (Int → Int) → (Int → Int) → Prop) (px : Int → (Int) → (Int) → (Int → Int) → (Int → Int) → (Int → Int) → (Int → Int) → (Int → Int) → (Int → Int) → (Int → Int) → Prop) (h : P_X11_chord post px D_hasBoard F_moves F_changes G_width G_height F_mined F_number F_state F_cellsIn F_unknownNear F_hitNear F_moveStart F_changed F_waiting G_near G_nearEnd x1 x2) : xI l yX11_chord (Cond.code yX11_chord cX11_chord 5 (some .int) :: GT) ({ frames := 9, cells := 3, slots := 18, locals := 540 } : Room) 3 18 [.ref (ad 0), .int (iI x1), .int (iI x2)] K ad (dW D_hasBoard D_beganBlank F_mines F_moves F_changes G_width G_height G_size B_parts B_longest S_groups S_askedGroup S_taken R_waitingCount R_metCount A_grade A_cell A_mined A_withTotal A_numbers X_low X_high Y_low Y_high F_mined F_number F_state F_cellsIn F_unknownNear F_hitNear F_moveStart F_changed F_waiting F_seen G_near G_nearEnd B_chosen B_partOf B_rest B_unknowns B_partStart B_cells S_minedSet S_safeSet S_partSet S_tally S_askedTally S_groupOf S_groupSize S_links S_linkEnd S_pick S_groupMinedSet S_groupSafeSet O_sums O_nextSums R_found R_openEnds R_need R_waiting R_waits R_common R_met A_number Q_mined Q_all Q_choices Q_term Q_divisor Q_spare X_limbs X_sum Y_limbs Y_sum) (fun z9 u9 => ∃ F_moves9 F_changes9 F_state9 F_cellsIn9 F_unknownNear9 F_hitNear9 F_moveStart9 F_changed9 F_waiting9, u9 = (dW D_hasBoard D_beganBlank F_mines F_moves9 F_changes9 G_width G_height G_size B_parts B_longest S_groups S_askedGroup S_taken R_waitingCount R_metCount A_grade A_cell A_mined A_withTotal A_numbers X_low X_high Y_low Y_high F_mined F_number F_state9 F_cellsIn9 F_unknownNear9 F_hitNear9 F_moveStart9 F_changed9 F_waiting9 F_seen G_near G_nearEnd B_chosen B_partOf B_rest B_unknowns B_partStart B_cells S_minedSet S_safeSet S_partSet S_tally S_askedTally S_groupOf S_groupSize S_links S_linkEnd S_pick S_groupMinedSet S_groupSafeSet O_sums O_nextSums R_found R_openEnds R_need R_waiting R_waits R_common R_met A_number Q_mined Q_all Q_choices Q_term Q_divisor Q_spare X_limbs X_sum Y_limbs Y_sum) ∧ post z9 F_moves9 F_changes9 F_state9 F_cellsIn9 F_unknownNear9 F_hitNear9 F_moveStart9 F_changed9 F_waiting9) (fun k9 u9 => (k9 = 1 ∨ k9 = 2 ∨ k9 = 3) ∧ ∃ F_moves9 F_changes9 F_state9 F_cellsIn9 F_unknownNear9 F_hitNear9 F_moveStart9 F_changed9 F_waiting9, u9 = (dW D_hasBoard D_beganBlank F_mines F_moves9 F_changes9 G_width G_height G_size B_parts B_longest S_groups S_askedGroup S_taken R_waitingCount R_metCount A_grade A_cell A_mined A_withTotal A_numbers X_low X_high Y_low Y_high F_mined F_number F_state9 F_cellsIn9 F_unknownNear9 F_hitNear9 F_moveStart9 F_changed9 F_waiting9 F_seen G_near G_nearEnd B_chosen B_partOf B_rest B_unknowns B_partStart B_cells S_minedSet S_safeSet S_partSet S_tally S_askedTally S_groupOf S_groupSize S_links S_linkEnd S_pick S_groupMinedSet S_groupSafeSet O_sums O_nextSums R_found R_openEnds R_need R_waiting R_waits R_common R_met A_number Q_mined Q_all Q_choices Q_term Q_divisor Q_spare X_limbs X_sum Y_limbs Y_sum) ∧ px k9 F_moves9 F_changes9 F_state9 F_cellsIn9 F_unknownNear9 F_hitNear9 F_moveStart9 F_changed9 F_waiting9) := by
  refine xI_of (lv0 := [(0, .ref (ad 0)), (1, .int (iI x1)), (2, .int (iI x2))]) hst (by decide) (Nat.le_of_ble_eq_true rfl) rfl (Nat.le_of_ble_eq_true rfl) rfl rfl ?_
  intro p e s m args below meth c Q A C T ret XO thr
  replace C : Cx p ({ frames := 9, cells := 3, slots := 18, locals := 540 } : Room) m c 0 0 cX11_chord 5 s args RX11 K A := C
  unfold P_X11_chord at h
  refine wa_aload_n C 0 rfl dX11_chord_0 rfl ?_
  refine wa_iload_n C 1 rfl dX11_chord_1 rfl ?_
  refine wa_iload_n C 2 rfl dX11_chord_2 rfl ?_
  refine wa_xVi C T XO (k := 0) (As := [.int (iI x1), .int (iI x2)]) (rest := []) (c_X11_cellAt l hst K ad x1 x2 rx1 rx2 _ _ h) gw_880 gw_877 dW_0 rfl gw_879 gs_38 gw_1 q_X11_cellAt rfl rfl rfl ⟨by decide, by decide⟩ rfl (Nat.le_of_ble_eq_true rfl) dX11_chord_3 ⟨Nat.le_of_ble_eq_true rfl, Nat.le_of_ble_eq_true rfl⟩ ⟨Nat.le_of_ble_eq_true rfl, Nat.le_of_ble_eq_true rfl⟩ (fun z9 u9 hx9 => by obtain ⟨hk9, rfl, h9⟩ := hx9; exact ⟨by omega, _, _, _, _, _, _, _, _, _, rfl, h9⟩) (fun c_1 u9 rc_1 hp => ?_)
  replace C := C.more (cells' := 2) (slots' := 12) (Nat.le_of_ble_eq_true rfl) (Nat.le_of_ble_eq_true rfl)
  obtain ⟨rfl, h⟩ := hp
  replace h := h rc_1
  refine wa_istore_n C dX11_chord_6 rfl (by decide) rfl ?_
  refine wa_aload_n C 1 rfl dX11_chord_7 rfl ?_
  refine wa_getR C 0 0 dW_0 rfl rfl (by decide) okX11 gw_458 dX11_chord_8 ?_
  refine wa_callVi C (k := 1) (As := []) (rest := []) (c_X2_allowsMove l K ad  _ h) gw_943 gw_940 dW_1 rfl gw_941 gw_942 gw_2 q_X2_allowsMove rfl rfl rfl ⟨by decide, by decide⟩ rfl (Nat.le_of_ble_eq_true rfl) dX11_chord_11 (fun c_3 u9 rc_3 hp => ?_)
  obtain ⟨bc_3, rfl, h⟩ := hp
  replace h := h bc_3
  refine wa_if_eq C (tgt := 28) (inR_b bc_3) dX11_chord_14 (by decide) (fun c_4 => ?_) (fun c_4 => ?_)
  · replace h := h.1 c_4
    exact thr 3 (Nat.le_of_ble_eq_true rfl) (Nat.le_of_ble_eq_true rfl) xcl_3 xin_3 xat_3 (Nat.le_of_ble_eq_true rfl) dX11_chord_28 dX11_chord_31 dX11_chord_32 dX11_chord_35 ⟨by decide, _, _, _, _, _, _, _, _, _, rfl, h⟩
  · replace h := h.2 c_4
    refine wa_aload_n C 1 rfl dX11_chord_17 rfl ?_
    refine wa_getR C 0 0 dW_0 rfl rfl (by decide) okX11 gw_458 dX11_chord_18 ?_
    refine wa_iload_n C 0 rfl dX11_chord_21 rfl ?_
    refine wa_callVi C (k := 1) (As := [.int (iI c_1)]) (rest := []) (c_X2_isReadyToChord l K ad c_1 rc_1 _ h) gw_972 gw_969 dW_1 rfl gw_970 gw_971 gw_2 q_X2_isReadyToChord rfl rfl rfl ⟨by decide, by decide⟩ rfl (Nat.le_of_ble_eq_true rfl) dX11_chord_22 (fun c_5 u9 rc_5 hp => ?_)
    obtain ⟨bc_5, rfl, h⟩ := hp
    replace h := h bc_5
    refine wa_if_ne C (tgt := 36) (inR_b bc_5) dX11_chord_25 (by decide) (fun c_6 => ?_) (fun c_6 => ?_)
    · replace h := h.1 c_6
      refine wa_aload_n C 1 rfl dX11_chord_36 rfl ?_
      refine wa_getR C 0 0 dW_0 rfl rfl (by decide) okX11 gw_458 dX11_chord_37 ?_
      refine wa_callVi C (k := 1) (As := []) (rest := []) (c_X2_unknownCells l K ad  _ h) gw_810 gw_973 dW_1 rfl gw_808 gw_809 gw_2 q_X2_unknownCells rfl rfl rfl ⟨by decide, by decide⟩ rfl (Nat.le_of_ble_eq_true rfl) dX11_chord_40 (fun c_7 u9 rc_7 hp => ?_)
      obtain ⟨rfl, h⟩ := hp
      replace h := h rc_7
      refine wa_istore C dX11_chord_43 (by decide) rfl ?_
      refine wa_aload_n C 2 rfl dX11_chord_45 rfl ?_
      refine wa_getR C 0 0 dW_0 rfl rfl (by decide) okX11 gw_458 dX11_chord_46 ?_
      refine wa_callVv C (k := 1) (As := []) (rest := []) (c_X2_beginMove l K ad  _ h) gw_951 gw_948 dW_1 rfl gw_949 gw_950 gw_2 q_X2_beginMove rfl rfl rfl ⟨by decide, by decide⟩ rfl (Nat.le_of_ble_eq_true rfl) dX11_chord_49 (fun u9 hp => ?_)
      obtain ⟨F_moves_8, F_moveStart_9, rfl, h⟩ := hp
      refine wa_aload_n C 2 rfl dX11_chord_52 rfl ?_
      refine wa_getR C 0 0 dW_0 rfl rfl (by decide) okX11 gw_458 dX11_chord_53 ?_
      refine wa_iload_n C 1 rfl dX11_chord_56 rfl ?_
      refine wa_callVv C (k := 1) (As := [.int (iI c_1)]) (rest := []) (c_X2_uncoverAround l K ad c_1 rc_1 _ h) gw_977 gw_974 dW_1 rfl gw_975 gw_976 gw_2 q_X2_uncoverAround rfl rfl rfl ⟨by decide, by decide⟩ rfl (Nat.le_of_ble_eq_true rfl) dX11_chord_57 (fun u9 hp => ?_)
      obtain ⟨F_changes_10, F_state_11, F_cellsIn_12, F_unknownNear_13, F_hitNear_14, F_changed_15, F_waiting_16, rfl, h⟩ := hp
      refine wa_iload C 0 rfl dX11_chord_60 ?_
      refine wa_aload_n C 2 rfl dX11_chord_62 rfl ?_
      refine wa_getR C 0 0 dW_0 rfl rfl (by decide) okX11 gw_458 dX11_chord_63 ?_
      refine wa_callVi C (k := 1) (As := []) (rest := [.int (iI c_7)]) (c_X2_unknownCells l K ad  _ h) gw_810 gw_973 dW_1 rfl gw_808 gw_809 gw_2 q_X2_unknownCells rfl rfl rfl ⟨by decide, by decide⟩ rfl (Nat.le_of_ble_eq_true rfl) dX11_chord_66 (fun c_17 u9 rc_17 hp => ?_)
      obtain ⟨rfl, h⟩ := hp
      replace h := h rc_17
      refine wa_isub C dX11_chord_69 ?_
      obtain ⟨r_18, h⟩ := h
      exact ret (Nat.le_of_ble_eq_true rfl) (Nat.le_of_ble_eq_true rfl) dX11_chord_70 r_18 ⟨_, _, _, _, _, _, _, _, _, rfl, h⟩
    · replace h := h.2 c_6
      exact thr 3 (Nat.le_of_ble_eq_true rfl) (Nat.le_of_ble_eq_true rfl) xcl_3 xin_3 xat_3 (Nat.le_of_ble_eq_true rfl) dX11_chord_28 dX11_chord_31 dX11_chord_32 dX11_chord_35 ⟨by decide, _, _, _, _, _, _, _, _, _, rfl, h⟩
theorem dX11_undo_0 : decode cX11_undo 0 = .ok (.aload_n 0, 1) := by decide +kernel
theorem dX11_undo_1 : decode cX11_undo 1 = .ok (.invokevirtual 163, 3) := by decide +kernel
theorem dX11_undo_4 : decode cX11_undo 4 = .ok (.aload_n 0, 1) := by decide +kernel
theorem dX11_undo_5 : decode cX11_undo 5 = .ok (.getfield 12, 3) := by decide +kernel
theorem dX11_undo_8 : decode cX11_undo 8 = .ok (.getfield 111, 3) := by decide +kernel
theorem dX11_undo_11 : decode cX11_undo 11 = .ok (.ifCond .ne 11, 3) := by decide +kernel
theorem dX11_undo_14 : decode cX11_undo 14 = .ok (.new 115, 3) := by decide +kernel
theorem dX11_undo_17 : decode cX11_undo 17 = .ok (.dup, 1) := by decide +kernel
theorem dX11_undo_18 : decode cX11_undo 18 = .ok (.invokespecial 117, 3) := by decide +kernel
theorem dX11_undo_21 : decode cX11_undo 21 = .ok (.athrow, 1) := by decide +kernel
theorem dX11_undo_22 : decode cX11_undo 22 = .ok (.aload_n 0, 1) := by decide +kernel
theorem dX11_undo_23 : decode cX11_undo 23 = .ok (.getfield 12, 3) := by decide +kernel
theorem dX11_undo_26 : decode cX11_undo 26 = .ok (.invokevirtual 166, 3) := by decide +kernel
theorem dX11_undo_29 : decode cX11_undo 29 = .ok (.aload_n 0, 1) := by decide +kernel
theorem dX11_undo_30 : decode cX11_undo 30 = .ok (.getfield 12, 3) := by decide +kernel
theorem dX11_undo_33 : decode cX11_undo 33 = .ok (.getfield 111, 3) := by decide +kernel
theorem dX11_undo_36 : decode cX11_undo 36 = .ok (.ireturn, 1) := by decide +kernel
theorem q_X11_undo : yX11_undo.cls = RX11 ∧ yX11_undo.cls ≠ "java/lang/invoke/MethodHandle" ∧ yX11_undo.cls ≠ "java/lang/invoke/VarHandle" ∧ (parseMethodDescriptor yX11_undo.desc).map (fun d => d.parameters.length) = some 0 := ⟨rfl, by decide, by decide, by decide +kernel⟩
set_option maxRecDepth 100000 in
set_option maxHeartbeats 4000000 in
theorem c_X11_undo (l : Launch) (hst : l.stackTraces = false) (K : wK) (ad : Nat → Nat) {D_hasBoard : Int} {D_beganBlank : Int} {F_mines : Int} {F_moves : Int} {F_changes : Int} {G_width : Int} {G_height : Int} {G_size : Int} {B_parts : Int} {B_longest : Int} {S_groups : Int} {S_askedGroup : Int} {S_taken : Int} {R_waitingCount : Int} {R_metCount : Int} {A_grade : Int} {A_cell : Int} {A_mined : Int} {A_withTotal : Int} {A_numbers : Int} {X_low : Int} {X_high : Int} {Y_low : Int} {Y_high : Int} {F_mined : Int → Int} {F_number : Int → Int} {F_state : Int → Int} {F_cellsIn : Int → Int} {F_unknownNear : Int → Int} {F_hitNear : Int → Int} {F_moveStart : Int → Int} {F_changed : Int → Int} {F_waiting : Int → Int} {F_seen : Int → Int} {G_near : Int → Int} {G_nearEnd : Int → Int} {B_chosen : Int → Int} {B_partOf : Int → Int} {B_rest : Int → Int} {B_unknowns : Int → Int} {B_partStart : Int → Int} {B_cells : Int → Int} {S_minedSet : Int → Int} {S_safeSet : Int → Int} {S_partSet : Int → Int} {S_tally : Int → Int} {S_askedTally : Int → Int} {S_groupOf : Int → Int} {S_groupSize : Int → Int} {S_links : Int → Int} {S_linkEnd : Int → Int} {S_pick : Int → Int} {S_groupMinedSet : Int → Int} {S_groupSafeSet : Int → Int} {O_sums : Int → Int64} {O_nextSums : Int → Int64} {R_found : Int → Int} {R_openEnds : Int → Int} {R_need : Int → Int} {R_waiting : Int → Int} {R_waits : Int → Int} {R_common : Int → Int} {R_met : Int → Int} {A_number : Int → Int} {Q_mined : Int → Int64} {Q_all : Int → Int64} {Q_choices : Int → Int64} {Q_term : Int → Int64} {Q_divisor : Int → Int64} {Q_spare : Int → Int64} {X_limbs : Int → Int64} {X_sum : Int → Int64} {Y_limbs : Int → Int64} {Y_sum : Int → Int64}   (post : Int → (Int) → (Int) → (Int → Int) → (Int → Int) → (Int → Int) → (Int → Int) → Prop) (px : Int → (Int) → (Int) → (Int → Int) → (Int → Int) → (Int → Int) → (Int → Int) → Prop) (h : P_X11_undo post px D_hasBoard F_moves F_changes F_state F_cellsIn F_unknownNear F_hitNear F_moveStart F_changed G_near G_nearEnd) : xI l yX11_undo (Cond.code yX11_undo cX11_undo 1 (some .int) :: GT) ({ frames := 8, cells := 2, slots := 12, locals := 480 } : Room) 2 12 [.ref (ad 0)] K ad (dW D_hasBoard D_beganBlank F_mines F_moves F_changes G_width G_height G_size B_parts B_longest S_groups S_askedGroup S_taken R_waitingCount R_metCount A_grade A_cell A_mined A_withTotal A_numbers X_low X_high Y_low Y_high F_mined F_number F_state F_cellsIn F_unknownNear F_hitNear F_moveStart F_changed F_waiting F_seen G_near G_nearEnd B_chosen B_partOf B_rest B_unknowns B_partStart B_cells S_minedSet S_safeSet S_partSet S_tally S_askedTally S_groupOf S_groupSize S_links S_linkEnd S_pick S_groupMinedSet S_groupSafeSet O_sums O_nextSums R_found R_openEnds R_need R_waiting R_waits R_common R_met A_number Q_mined Q_all Q_choices Q_term Q_divisor Q_spare X_limbs X_sum Y_limbs Y_sum) (fun z9 u9 => ∃ F_moves9 F_changes9 F_state9 F_cellsIn9 F_unknownNear9 F_hitNear9, u9 = (dW D_hasBoard D_beganBlank F_mines F_moves9 F_changes9 G_width G_height G_size B_parts B_longest S_groups S_askedGroup S_taken R_waitingCount R_metCount A_grade A_cell A_mined A_withTotal A_numbers X_low X_high Y_low Y_high F_mined F_number F_state9 F_cellsIn9 F_unknownNear9 F_hitNear9 F_moveStart F_changed F_waiting F_seen G_near G_nearEnd B_chosen B_partOf B_rest B_unknowns B_partStart B_cells S_minedSet S_safeSet S_partSet S_tally S_askedTally S_groupOf S_groupSize S_links S_linkEnd S_pick S_groupMinedSet S_groupSafeSet O_sums O_nextSums R_found R_openEnds R_need R_waiting R_waits R_common R_met A_number Q_mined Q_all Q_choices Q_term Q_divisor Q_spare X_limbs X_sum Y_limbs Y_sum) ∧ post z9 F_moves9 F_changes9 F_state9 F_cellsIn9 F_unknownNear9 F_hitNear9) (fun k9 u9 => (k9 = 1 ∨ k9 = 3) ∧ ∃ F_moves9 F_changes9 F_state9 F_cellsIn9 F_unknownNear9 F_hitNear9, u9 = (dW D_hasBoard D_beganBlank F_mines F_moves9 F_changes9 G_width G_height G_size B_parts B_longest S_groups S_askedGroup S_taken R_waitingCount R_metCount A_grade A_cell A_mined A_withTotal A_numbers X_low X_high Y_low Y_high F_mined F_number F_state9 F_cellsIn9 F_unknownNear9 F_hitNear9 F_moveStart F_changed F_waiting F_seen G_near G_nearEnd B_chosen B_partOf B_rest B_unknowns B_partStart B_cells S_minedSet S_safeSet S_partSet S_tally S_askedTally S_groupOf S_groupSize S_links S_linkEnd S_pick S_groupMinedSet S_groupSafeSet O_sums O_nextSums R_found R_openEnds R_need R_waiting R_waits R_common R_met A_number Q_mined Q_all Q_choices Q_term Q_divisor Q_spare X_limbs X_sum Y_limbs Y_sum) ∧ px k9 F_moves9 F_changes9 F_state9 F_cellsIn9 F_unknownNear9 F_hitNear9) := by
  refine xI_of (lv0 := [(0, .ref (ad 0))]) hst (by decide) (Nat.le_of_ble_eq_true rfl) rfl (Nat.le_of_ble_eq_true rfl) rfl rfl ?_
  intro p e s m args below meth c Q A C T ret XO thr
  replace C : Cx p ({ frames := 8, cells := 2, slots := 12, locals := 480 } : Room) m c 0 0 cX11_undo 1 s args RX11 K A := C
  unfold P_X11_undo at h
  refine wa_aload_n C 0 rfl dX11_undo_0 rfl ?_
  refine wa_xVv C T XO (k := 0) (As := []) (rest := []) (c_X11_needBoard l hst K ad  _ _ h) gw_884 gw_881 dW_0 rfl gw_883 gs_39 gw_1 q_X11_needBoard rfl rfl rfl ⟨by decide, by decide⟩ rfl (Nat.le_of_ble_eq_true rfl) dX11_undo_1 ⟨Nat.le_of_ble_eq_true rfl, Nat.le_of_ble_eq_true rfl⟩ ⟨Nat.le_of_ble_eq_true rfl, Nat.le_of_ble_eq_true rfl⟩ (fun z9 u9 hx9 => by obtain ⟨hk9, rfl, h9⟩ := hx9; exact ⟨by omega, _, _, _, _, _, _, rfl, h9⟩) (fun u9 hp => ?_)
  replace C := C.more (cells' := 1) (slots' := 6) (Nat.le_of_ble_eq_true rfl) (Nat.le_of_ble_eq_true rfl)
  obtain ⟨rfl, h⟩ := hp
  refine wa_aload_n C 0 rfl dX11_undo_4 rfl ?_
  refine wa_getR C 0 0 dW_0 rfl rfl (by decide) okX11 gw_458 dX11_undo_5 ?_
  refine wa_getI C 1 8 dW_1 rfl rfl (by decide) okX2 gw_113 dX11_undo_8 (fun r_2 => ?_)
  refine wa_if_ne C (tgt := 22) r_2 dX11_undo_11 (by decide) (fun c_3 => ?_) (fun c_3 => ?_)
  · replace h := h.1 c_3
    refine wa_aload_n C 0 rfl dX11_undo_22 rfl ?_
    refine wa_getR C 0 0 dW_0 rfl rfl (by decide) okX11 gw_458 dX11_undo_23 ?_
    refine wa_callVv C (k := 1) (As := []) (rest := []) (c_X2_takeBackMove l K ad  _ h) gw_989 gw_986 dW_1 rfl gw_987 gw_988 gw_2 q_X2_takeBackMove rfl rfl rfl ⟨by decide, by decide⟩ rfl (Nat.le_of_ble_eq_true rfl) dX11_undo_26 (fun u9 hp => ?_)
    obtain ⟨F_moves_4, F_changes_5, F_state_6, F_cellsIn_7, F_unknownNear_8, F_hitNear_9, rfl, h⟩ := hp
    refine wa_aload_n C 0 rfl dX11_undo_29 rfl ?_
    refine wa_getR C 0 0 dW_0 rfl rfl (by decide) okX11 gw_458 dX11_undo_30 ?_
    refine wa_getI C 1 8 dW_1 rfl rfl (by decide) okX2 gw_113 dX11_undo_33 (fun r_10 => ?_)
    exact ret (Nat.le_of_ble_eq_true rfl) (Nat.le_of_ble_eq_true rfl) dX11_undo_36 r_10 ⟨_, _, _, _, _, _, rfl, h⟩
  · replace h := h.2 c_3
    exact thr 3 (Nat.le_of_ble_eq_true rfl) (Nat.le_of_ble_eq_true rfl) xcl_3 xin_3 xat_3 (Nat.le_of_ble_eq_true rfl) dX11_undo_14 dX11_undo_17 dX11_undo_18 dX11_undo_21 ⟨by decide, _, _, _, _, _, _, rfl, h⟩
theorem dX11_shown_0 : decode cX11_shown 0 = .ok (.aload_n 0, 1) := by decide +kernel
theorem dX11_shown_1 : decode cX11_shown 1 = .ok (.iload_n 1, 1) := by decide +kernel
theorem dX11_shown_2 : decode cX11_shown 2 = .ok (.iload_n 2, 1) := by decide +kernel
theorem dX11_shown_3 : decode cX11_shown 3 = .ok (.invokevirtual 107, 3) := by decide +kernel
theorem dX11_shown_6 : decode cX11_shown 6 = .ok (.istore_n 3, 1) := by decide +kernel
theorem dX11_shown_7 : decode cX11_shown 7 = .ok (.aload_n 0, 1) := by decide +kernel
theorem dX11_shown_8 : decode cX11_shown 8 = .ok (.getfield 12, 3) := by decide +kernel
theorem dX11_shown_11 : decode cX11_shown 11 = .ok (.getfield 129, 3) := by decide +kernel
theorem dX11_shown_14 : decode cX11_shown 14 = .ok (.iload_n 3, 1) := by decide +kernel
theorem dX11_shown_15 : decode cX11_shown 15 = .ok (.iaload, 1) := by decide +kernel
theorem dX11_shown_16 : decode cX11_shown 16 = .ok (.tableswitch 44 1 3 #[38, 28, 41], 28) := by decide +kernel
theorem dX11_shown_44 : decode cX11_shown 44 = .ok (.aload_n 0, 1) := by decide +kernel
theorem dX11_shown_45 : decode cX11_shown 45 = .ok (.getfield 12, 3) := by decide +kernel
theorem dX11_shown_48 : decode cX11_shown 48 = .ok (.getfield 144, 3) := by decide +kernel
theorem dX11_shown_51 : decode cX11_shown 51 = .ok (.iload_n 3, 1) := by decide +kernel
theorem dX11_shown_52 : decode cX11_shown 52 = .ok (.iaload, 1) := by decide +kernel
theorem dX11_shown_53 : decode cX11_shown 53 = .ok (.ireturn, 1) := by decide +kernel
theorem dX11_shown_54 : decode cX11_shown 54 = .ok (.bipush 11, 2) := by decide +kernel
theorem dX11_shown_56 : decode cX11_shown 56 = .ok (.ireturn, 1) := by decide +kernel
theorem dX11_shown_57 : decode cX11_shown 57 = .ok (.bipush 12, 2) := by decide +kernel
theorem dX11_shown_59 : decode cX11_shown 59 = .ok (.ireturn, 1) := by decide +kernel
theorem dX11_shown_60 : decode cX11_shown 60 = .ok (.bipush 10, 2) := by decide +kernel
theorem dX11_shown_62 : decode cX11_shown 62 = .ok (.ireturn, 1) := by decide +kernel
theorem q_X11_shown : yX11_shown.cls = RX11 ∧ yX11_shown.cls ≠ "java/lang/invoke/MethodHandle" ∧ yX11_shown.cls ≠ "java/lang/invoke/VarHandle" ∧ (parseMethodDescriptor yX11_shown.desc).map (fun d => d.parameters.length) = some 2 := ⟨rfl, by decide, by decide, by decide +kernel⟩
set_option maxRecDepth 100000 in
set_option maxHeartbeats 4000000 in
theorem c_X11_shown (l : Launch) (hst : l.stackTraces = false) (K : wK) (ad : Nat → Nat) {D_hasBoard : Int} {D_beganBlank : Int} {F_mines : Int} {F_moves : Int} {F_changes : Int} {G_width : Int} {G_height : Int} {G_size : Int} {B_parts : Int} {B_longest : Int} {S_groups : Int} {S_askedGroup : Int} {S_taken : Int} {R_waitingCount : Int} {R_metCount : Int} {A_grade : Int} {A_cell : Int} {A_mined : Int} {A_withTotal : Int} {A_numbers : Int} {X_low : Int} {X_high : Int} {Y_low : Int} {Y_high : Int} {F_mined : Int → Int} {F_number : Int → Int} {F_state : Int → Int} {F_cellsIn : Int → Int} {F_unknownNear : Int → Int} {F_hitNear : Int → Int} {F_moveStart : Int → Int} {F_changed : Int → Int} {F_waiting : Int → Int} {F_seen : Int → Int} {G_near : Int → Int} {G_nearEnd : Int → Int} {B_chosen : Int → Int} {B_partOf : Int → Int} {B_rest : Int → Int} {B_unknowns : Int → Int} {B_partStart : Int → Int} {B_cells : Int → Int} {S_minedSet : Int → Int} {S_safeSet : Int → Int} {S_partSet : Int → Int} {S_tally : Int → Int} {S_askedTally : Int → Int} {S_groupOf : Int → Int} {S_groupSize : Int → Int} {S_links : Int → Int} {S_linkEnd : Int → Int} {S_pick : Int → Int} {S_groupMinedSet : Int → Int} {S_groupSafeSet : Int → Int} {O_sums : Int → Int64} {O_nextSums : Int → Int64} {R_found : Int → Int} {R_openEnds : Int → Int} {R_need : Int → Int} {R_waiting : Int → Int} {R_waits : Int → Int} {R_common : Int → Int} {R_met : Int → Int} {A_number : Int → Int} {Q_mined : Int → Int64} {Q_all : Int → Int64} {Q_choices : Int → Int64} {Q_term : Int → Int64} {Q_divisor : Int → Int64} {Q_spare : Int → Int64} {X_limbs : Int → Int64} {X_sum : Int → Int64} {Y_limbs : Int → Int64} {Y_sum : Int → Int64} (x1 : Int) (x2 : Int) (rx1 : inR x1) (rx2 : inR x2) (post : Int → Prop) (px : Int → Prop) (h : P_X11_shown post px D_hasBoard G_width G_height F_number F_state x1 x2) : xI l yX11_shown (Cond.code yX11_shown cX11_shown 4 (some .int) :: GT) ({ frames := 9, cells := 2, slots := 12, locals := 540 } : Room) 2 12 [.ref (ad 0), .int (iI x1), .int (iI x2)] K ad (dW D_hasBoard D_beganBlank F_mines F_moves F_changes G_width G_height G_size B_parts B_longest S_groups S_askedGroup S_taken R_waitingCount R_metCount A_grade A_cell A_mined A_withTotal A_numbers X_low X_high Y_low Y_high F_mined F_number F_state F_cellsIn F_unknownNear F_hitNear F_moveStart F_changed F_waiting F_seen G_near G_nearEnd B_chosen B_partOf B_rest B_unknowns B_partStart B_cells S_minedSet S_safeSet S_partSet S_tally S_askedTally S_groupOf S_groupSize S_links S_linkEnd S_pick S_groupMinedSet S_groupSafeSet O_sums O_nextSums R_found R_openEnds R_need R_waiting R_waits R_common R_met A_number Q_mined Q_all Q_choices Q_term Q_divisor Q_spare X_limbs X_sum Y_limbs Y_sum) (fun z9 u9 => u9 = (dW D_hasBoard D_beganBlank F_mines F_moves F_changes G_width G_height G_size B_parts B_longest S_groups S_askedGroup S_taken R_waitingCount R_metCount A_grade A_cell A_mined A_withTotal A_numbers X_low X_high Y_low Y_high F_mined F_number F_state F_cellsIn F_unknownNear F_hitNear F_moveStart F_changed F_waiting F_seen G_near G_nearEnd B_chosen B_partOf B_rest B_unknowns B_partStart B_cells S_minedSet S_safeSet S_partSet S_tally S_askedTally S_groupOf S_groupSize S_links S_linkEnd S_pick S_groupMinedSet S_groupSafeSet O_sums O_nextSums R_found R_openEnds R_need R_waiting R_waits R_common R_met A_number Q_mined Q_all Q_choices Q_term Q_divisor Q_spare X_limbs X_sum Y_limbs Y_sum) ∧ post z9) (fun k9 u9 => (k9 = 1 ∨ k9 = 2) ∧ u9 = (dW D_hasBoard D_beganBlank F_mines F_moves F_changes G_width G_height G_size B_parts B_longest S_groups S_askedGroup S_taken R_waitingCount R_metCount A_grade A_cell A_mined A_withTotal A_numbers X_low X_high Y_low Y_high F_mined F_number F_state F_cellsIn F_unknownNear F_hitNear F_moveStart F_changed F_waiting F_seen G_near G_nearEnd B_chosen B_partOf B_rest B_unknowns B_partStart B_cells S_minedSet S_safeSet S_partSet S_tally S_askedTally S_groupOf S_groupSize S_links S_linkEnd S_pick S_groupMinedSet S_groupSafeSet O_sums O_nextSums R_found R_openEnds R_need R_waiting R_waits R_common R_met A_number Q_mined Q_all Q_choices Q_term Q_divisor Q_spare X_limbs X_sum Y_limbs Y_sum) ∧ px k9) := by
  refine xI_of (lv0 := [(0, .ref (ad 0)), (1, .int (iI x1)), (2, .int (iI x2))]) hst (by decide) (Nat.le_of_ble_eq_true rfl) rfl (Nat.le_of_ble_eq_true rfl) rfl rfl ?_
  intro p e s m args below meth c Q A C T ret XO thr
  replace C : Cx p ({ frames := 9, cells := 2, slots := 12, locals := 540 } : Room) m c 0 0 cX11_shown 4 s args RX11 K A := C
  unfold P_X11_shown at h
  refine wa_aload_n C 0 rfl dX11_shown_0 rfl ?_
  refine wa_iload_n C 1 rfl dX11_shown_1 rfl ?_
  refine wa_iload_n C 2 rfl dX11_shown_2 rfl ?_
  refine wa_xVi C T XO (k := 0) (As := [.int (iI x1), .int (iI x2)]) (rest := []) (c_X11_cellAt l hst K ad x1 x2 rx1 rx2 _ _ h) gw_880 gw_877 dW_0 rfl gw_879 gs_38 gw_1 q_X11_cellAt rfl rfl rfl ⟨by decide, by decide⟩ rfl (Nat.le_of_ble_eq_true rfl) dX11_shown_3 ⟨Nat.le_of_ble_eq_true rfl, Nat.le_of_ble_eq_true rfl⟩ ⟨Nat.le_of_ble_eq_true rfl, Nat.le_of_ble_eq_true rfl⟩ (fun z9 u9 hx9 => by obtain ⟨hk9, rfl, h9⟩ := hx9; exact ⟨by omega, rfl, h9⟩) (fun c_1 u9 rc_1 hp => ?_)
  replace C := C.more (cells' := 2) (slots' := 12) (Nat.le_of_ble_eq_true rfl) (Nat.le_of_ble_eq_true rfl)
  obtain ⟨rfl, h⟩ := hp
  replace h := h rc_1
  refine wa_istore_n C dX11_shown_6 rfl (by decide) rfl ?_
  refine wa_aload_n C 1 rfl dX11_shown_7 rfl ?_
  refine wa_getR C 0 0 dW_0 rfl rfl (by decide) okX11 gw_458 dX11_shown_8 ?_
  refine wa_getR C 1 3 dW_1 rfl rfl (by decide) okX2 gw_99 dX11_shown_11 ?_
  refine wa_iload_n C 0 rfl dX11_shown_14 rfl ?_
  obtain ⟨t_3, h⟩ := h
  refine wa_iald C 14 dW_14 dX11_shown_15 t_3.1 t_3.2 (fun v_4 ev_4 rv_4 => ?_)
  replace h := h v_4 ev_4 rv_4
  rcases (show v_4 = 1 ∨ v_4 = 2 ∨ v_4 = 3 ∨ (v_4 < 1 ∨ 3 < v_4) by omega) with c_5 | c_5 | c_5 | c_5
  · replace h := h.1 c_5
    refine wa_tabIn C (tgt := 54) rv_4 dX11_shown_16 (by omega) (by omega) (by rw [c_5]; rfl) (by decide) ?_
    refine wa_bipush C (z := 11) dX11_shown_54 (by decide) ?_
    exact ret (Nat.le_of_ble_eq_true rfl) (Nat.le_of_ble_eq_true rfl) dX11_shown_56 (inR_k 11 rfl) ⟨rfl, h⟩
  · replace h := h.2.1 c_5
    refine wa_tabIn C (tgt := 44) rv_4 dX11_shown_16 (by omega) (by omega) (by rw [c_5]; rfl) (by decide) ?_
    refine wa_aload_n C 1 rfl dX11_shown_44 rfl ?_
    refine wa_getR C 0 0 dW_0 rfl rfl (by decide) okX11 gw_458 dX11_shown_45 ?_
    refine wa_getR C 1 2 dW_1 rfl rfl (by decide) okX2 gw_94 dX11_shown_48 ?_
    refine wa_iload_n C 0 rfl dX11_shown_51 rfl ?_
    obtain ⟨t_6, h⟩ := h
    refine wa_iald C 13 dW_13 dX11_shown_52 t_6.1 t_6.2 (fun v_7 ev_7 rv_7 => ?_)
    replace h := h v_7 ev_7 rv_7
    exact ret (Nat.le_of_ble_eq_true rfl) (Nat.le_of_ble_eq_true rfl) dX11_shown_53 rv_7 ⟨rfl, h⟩
  · replace h := h.2.2.1 c_5
    refine wa_tabIn C (tgt := 57) rv_4 dX11_shown_16 (by omega) (by omega) (by rw [c_5]; rfl) (by decide) ?_
    refine wa_bipush C (z := 12) dX11_shown_57 (by decide) ?_
    exact ret (Nat.le_of_ble_eq_true rfl) (Nat.le_of_ble_eq_true rfl) dX11_shown_59 (inR_k 12 rfl) ⟨rfl, h⟩
  · replace h := h.2.2.2 c_5
    refine wa_tabOut C (tgt := 60) rv_4 dX11_shown_16 c_5 (by decide) ?_
    refine wa_bipush C (z := 10) dX11_shown_60 (by decide) ?_
    exact ret (Nat.le_of_ble_eq_true rfl) (Nat.le_of_ble_eq_true rfl) dX11_shown_62 (inR_k 10 rfl) ⟨rfl, h⟩
theorem dX11_hint_0 : decode cX11_hint 0 = .ok (.aload_n 0, 1) := by decide +kernel
theorem dX11_hint_1 : decode cX11_hint 1 = .ok (.invokevirtual 163, 3) := by decide +kernel
theorem dX11_hint_4 : decode cX11_hint 4 = .ok (.aload_n 0, 1) := by decide +kernel
theorem dX11_hint_5 : decode cX11_hint 5 = .ok (.getfield 49, 3) := by decide +kernel
theorem dX11_hint_8 : decode cX11_hint 8 = .ok (.invokevirtual 169, 3) := by decide +kernel
theorem dX11_hint_11 : decode cX11_hint 11 = .ok (.aload_n 0, 1) := by decide +kernel
theorem dX11_hint_12 : decode cX11_hint 12 = .ok (.getfield 49, 3) := by decide +kernel
theorem dX11_hint_15 : decode cX11_hint 15 = .ok (.getfield 172, 3) := by decide +kernel
theorem dX11_hint_18 : decode cX11_hint 18 = .ok (.ifCond .ne 5, 3) := by decide +kernel
theorem dX11_hint_21 : decode cX11_hint 21 = .ok (.iconst 0, 1) := by decide +kernel
theorem dX11_hint_22 : decode cX11_hint 22 = .ok (.ireturn, 1) := by decide +kernel
theorem dX11_hint_23 : decode cX11_hint 23 = .ok (.aload_n 0, 1) := by decide +kernel
theorem dX11_hint_24 : decode cX11_hint 24 = .ok (.getfield 49, 3) := by decide +kernel
theorem dX11_hint_27 : decode cX11_hint 27 = .ok (.invokevirtual 175, 3) := by decide +kernel
theorem dX11_hint_30 : decode cX11_hint 30 = .ok (.iconst 1, 1) := by decide +kernel
theorem dX11_hint_31 : decode cX11_hint 31 = .ok (.iconst 2, 1) := by decide +kernel
theorem dX11_hint_32 : decode cX11_hint 32 = .ok (.aload_n 0, 1) := by decide +kernel
theorem dX11_hint_33 : decode cX11_hint 33 = .ok (.getfield 49, 3) := by decide +kernel
theorem dX11_hint_36 : decode cX11_hint 36 = .ok (.getfield 178, 3) := by decide +kernel
theorem dX11_hint_39 : decode cX11_hint 39 = .ok (.imul, 1) := by decide +kernel
theorem dX11_hint_40 : decode cX11_hint 40 = .ok (.iadd, 1) := by decide +kernel
theorem dX11_hint_41 : decode cX11_hint 41 = .ok (.aload_n 0, 1) := by decide +kernel
theorem dX11_hint_42 : decode cX11_hint 42 = .ok (.getfield 49, 3) := by decide +kernel
theorem dX11_hint_45 : decode cX11_hint 45 = .ok (.getfield 181, 3) := by decide +kernel
theorem dX11_hint_48 : decode cX11_hint 48 = .ok (.ifCond .eq 7, 3) := by decide +kernel
theorem dX11_hint_51 : decode cX11_hint 51 = .ok (.iconst 1, 1) := by decide +kernel
theorem dX11_hint_52 : decode cX11_hint 52 = .ok (.goto 4, 3) := by decide +kernel
theorem dX11_hint_55 : decode cX11_hint 55 = .ok (.iconst 0, 1) := by decide +kernel
theorem dX11_hint_56 : decode cX11_hint 56 = .ok (.iadd, 1) := by decide +kernel
theorem dX11_hint_57 : decode cX11_hint 57 = .ok (.ireturn, 1) := by decide +kernel
theorem q_X11_hint : yX11_hint.cls = RX11 ∧ yX11_hint.cls ≠ "java/lang/invoke/MethodHandle" ∧ yX11_hint.cls ≠ "java/lang/invoke/VarHandle" ∧ (parseMethodDescriptor yX11_hint.desc).map (fun d => d.parameters.length) = some 0 := ⟨rfl, by decide, by decide, by decide +kernel⟩
set_option maxRecDepth 100000 in
set_option maxHeartbeats 4000000 in
theorem c_X11_hint (l : Launch) (hst : l.stackTraces = false) (K : wK) (ad : Nat → Nat) {D_hasBoard : Int} {D_beganBlank : Int} {F_mines : Int} {F_moves : Int} {F_changes : Int} {G_width : Int} {G_height : Int} {G_size : Int} {B_parts : Int} {B_longest : Int} {S_groups : Int} {S_askedGroup : Int} {S_taken : Int} {R_waitingCount : Int} {R_metCount : Int} {A_grade : Int} {A_cell : Int} {A_mined : Int} {A_withTotal : Int} {A_numbers : Int} {X_low : Int} {X_high : Int} {Y_low : Int} {Y_high : Int} {F_mined : Int → Int} {F_number : Int → Int} {F_state : Int → Int} {F_cellsIn : Int → Int} {F_unknownNear : Int → Int} {F_hitNear : Int → Int} {F_moveStart : Int → Int} {F_changed : Int → Int} {F_waiting : Int → Int} {F_seen : Int → Int} {G_near : Int → Int} {G_nearEnd : Int → Int} {B_chosen : Int → Int} {B_partOf : Int → Int} {B_rest : Int → Int} {B_unknowns : Int → Int} {B_partStart : Int → Int} {B_cells : Int → Int} {S_minedSet : Int → Int} {S_safeSet : Int → Int} {S_partSet : Int → Int} {S_tally : Int → Int} {S_askedTally : Int → Int} {S_groupOf : Int → Int} {S_groupSize : Int → Int} {S_links : Int → Int} {S_linkEnd : Int → Int} {S_pick : Int → Int} {S_groupMinedSet : Int → Int} {S_groupSafeSet : Int → Int} {O_sums : Int → Int64} {O_nextSums : Int → Int64} {R_found : Int → Int} {R_openEnds : Int → Int} {R_need : Int → Int} {R_waiting : Int → Int} {R_waits : Int → Int} {R_common : Int → Int} {R_met : Int → Int} {A_number : Int → Int} {Q_mined : Int → Int64} {Q_all : Int → Int64} {Q_choices : Int → Int64} {Q_term : Int → Int64} {Q_divisor : Int → Int64} {Q_spare : Int → Int64} {X_limbs : Int → Int64} {X_sum : Int → Int64} {Y_limbs : Int → Int64} {Y_sum : Int → Int64}   (post : Int → (Int) → (Int) → (Int) → (Int) → (Int) → (Int) → (Int) → (Int) → (Int) → (Int) → (Int) → (Int) → (Int → Int) → (Int → Int) → (Int → Int) → (Int → Int) → (Int → Int) → (Int → Int) → (Int → Int) → (Int → Int) → (Int → Int) → (Int → Int) → (Int → Int) → (Int → Int) → (Int → Int) → (Int → Int) → (Int → Int) → (Int → Int) → (Int → Int) → (Int → Int) → (Int → Int64) → (Int → Int64) → (Int → Int) → (Int → Int) → (Int → Int) → (Int → Int) → (Int → Int) → (Int → Int) → (Int → Int) → (Int → Int) → Prop) (px : Int → (Int) → (Int) → (Int) → (Int) → (Int) → (Int) → (Int) → (Int) → (Int) → (Int) → (Int) → (Int) → (Int → Int) → (Int → Int) → (Int → Int) → (Int → Int) → (Int → Int) → (Int → Int) → (Int → Int) → (Int → Int) → (Int → Int) → (Int → Int) → (Int → Int) → (Int → Int) → (Int → Int) → (Int → Int) → (Int → Int) → (Int → Int) → (Int → Int) → (Int → Int) → (Int → Int64) → (Int → Int64) → (Int → Int) → (Int → Int) → (Int → Int) → (Int → Int) → (Int → Int) → (Int → Int) → (Int → Int) → (Int → Int) → Prop) (h : P_X11_hint post px D_hasBoard F_mines G_size B_parts B_longest S_groups S_askedGroup S_taken R_waitingCount R_metCount A_grade A_cell A_mined A_withTotal A_numbers F_number F_state F_cellsIn F_unknownNear F_hitNear G_near G_nearEnd B_chosen B_partOf B_rest B_unknowns B_partStart B_cells S_minedSet S_safeSet S_partSet S_tally S_askedTally S_groupOf S_groupSize S_links S_linkEnd S_pick S_groupMinedSet S_groupSafeSet O_sums O_nextSums R_found R_openEnds R_need R_waiting R_waits R_common R_met A_number) : xI l yX11_hint (Cond.code yX11_hint cX11_hint 1 (some .int) :: GT) ({ frames := 27, cells := 1, slots := 6, locals := 1620 } : Room) 1 6 [.ref (ad 0)] K ad (dW D_hasBoard D_beganBlank F_mines F_moves F_changes G_width G_height G_size B_parts B_longest S_groups S_askedGroup S_taken R_waitingCount R_metCount A_grade A_cell A_mined A_withTotal A_numbers X_low X_high Y_low Y_high F_mined F_number F_state F_cellsIn F_unknownNear F_hitNear F_moveStart F_changed F_waiting F_seen G_near G_nearEnd B_chosen B_partOf B_rest B_unknowns B_partStart B_cells S_minedSet S_safeSet S_partSet S_tally S_askedTally S_groupOf S_groupSize S_links S_linkEnd S_pick S_groupMinedSet S_groupSafeSet O_sums O_nextSums R_found R_openEnds R_need R_waiting R_waits R_common R_met A_number Q_mined Q_all Q_choices Q_term Q_divisor Q_spare X_limbs X_sum Y_limbs Y_sum) (fun z9 u9 => ∃ B_parts9 B_longest9 S_groups9 S_askedGroup9 S_taken9 R_waitingCount9 R_metCount9 A_grade9 A_cell9 A_mined9 A_withTotal9 A_numbers9 B_chosen9 B_partOf9 B_rest9 B_unknowns9 B_partStart9 B_cells9 S_minedSet9 S_safeSet9 S_partSet9 S_tally9 S_askedTally9 S_groupOf9 S_groupSize9 S_links9 S_linkEnd9 S_pick9 S_groupMinedSet9 S_groupSafeSet9 O_sums9 O_nextSums9 R_found9 R_openEnds9 R_need9 R_waiting9 R_waits9 R_common9 R_met9 A_number9, u9 = (dW D_hasBoard D_beganBlank F_mines F_moves F_changes G_width G_height G_size B_parts9 B_longest9 S_groups9 S_askedGroup9 S_taken9 R_waitingCount9 R_metCount9 A_grade9 A_cell9 A_mined9 A_withTotal9 A_numbers9 X_low X_high Y_low Y_high F_mined F_number F_state F_cellsIn F_unknownNear F_hitNear F_moveStart F_changed F_waiting F_seen G_near G_nearEnd B_chosen9 B_partOf9 B_rest9 B_unknowns9 B_partStart9 B_cells9 S_minedSet9 S_safeSet9 S_partSet9 S_tally9 S_askedTally9 S_groupOf9 S_groupSize9 S_links9 S_linkEnd9 S_pick9 S_groupMinedSet9 S_groupSafeSet9 O_sums9 O_nextSums9 R_found9 R_openEnds9 R_need9 R_waiting9 R_waits9 R_common9 R_met9 A_number9 Q_mined Q_all Q_choices Q_term Q_divisor Q_spare X_limbs X_sum Y_limbs Y_sum) ∧ post z9 B_parts9 B_longest9 S_groups9 S_askedGroup9 S_taken9 R_waitingCount9 R_metCount9 A_grade9 A_cell9 A_mined9 A_withTotal9 A_numbers9 B_chosen9 B_partOf9 B_rest9 B_unknowns9 B_partStart9 B_cells9 S_minedSet9 S_safeSet9 S_partSet9 S_tally9 S_askedTally9 S_groupOf9 S_groupSize9 S_links9 S_linkEnd9 S_pick9 S_groupMinedSet9 S_groupSafeSet9 O_sums9 O_nextSums9 R_found9 R_openEnds9 R_need9 R_waiting9 R_waits9 R_common9 R_met9 A_number9) (fun k9 u9 => (k9 = 1) ∧ ∃ B_parts9 B_longest9 S_groups9 S_askedGroup9 S_taken9 R_waitingCount9 R_metCount9 A_grade9 A_cell9 A_mined9 A_withTotal9 A_numbers9 B_chosen9 B_partOf9 B_rest9 B_unknowns9 B_partStart9 B_cells9 S_minedSet9 S_safeSet9 S_partSet9 S_tally9 S_askedTally9 S_groupOf9 S_groupSize9 S_links9 S_linkEnd9 S_pick9 S_groupMinedSet9 S_groupSafeSet9 O_sums9 O_nextSums9 R_found9 R_openEnds9 R_need9 R_waiting9 R_waits9 R_common9 R_met9 A_number9, u9 = (dW D_hasBoard D_beganBlank F_mines F_moves F_changes G_width G_height G_size B_parts9 B_longest9 S_groups9 S_askedGroup9 S_taken9 R_waitingCount9 R_metCount9 A_grade9 A_cell9 A_mined9 A_withTotal9 A_numbers9 X_low X_high Y_low Y_high F_mined F_number F_state F_cellsIn F_unknownNear F_hitNear F_moveStart F_changed F_waiting F_seen G_near G_nearEnd B_chosen9 B_partOf9 B_rest9 B_unknowns9 B_partStart9 B_cells9 S_minedSet9 S_safeSet9 S_partSet9 S_tally9 S_askedTally9 S_groupOf9 S_groupSize9 S_links9 S_linkEnd9 S_pick9 S_groupMinedSet9 S_groupSafeSet9 O_sums9 O_nextSums9 R_found9 R_openEnds9 R_need9 R_waiting9 R_waits9 R_common9 R_met9 A_number9 Q_mined Q_all Q_choices Q_term Q_divisor Q_spare X_limbs X_sum Y_limbs Y_sum) ∧ px k9 B_parts9 B_longest9 S_groups9 S_askedGroup9 S_taken9 R_waitingCount9 R_metCount9 A_grade9 A_cell9 A_mined9 A_withTotal9 A_numbers9 B_chosen9 B_partOf9 B_rest9 B_unknowns9 B_partStart9 B_cells9 S_minedSet9 S_safeSet9 S_partSet9 S_tally9 S_askedTally9 S_groupOf9 S_groupSize9 S_links9 S_linkEnd9 S_pick9 S_groupMinedSet9 S_groupSafeSet9 O_sums9 O_nextSums9 R_found9 R_openEnds9 R_need9 R_waiting9 R_waits9 R_common9 R_met9 A_number9) := by
  refine xI_of (lv0 := [(0, .ref (ad 0))]) hst (by decide) (Nat.le_of_ble_eq_true rfl) rfl (Nat.le_of_ble_eq_true rfl) rfl rfl ?_
  intro p e s m args below meth c Q A C T ret XO thr
  replace C : Cx p ({ frames := 27, cells := 1, slots := 6, locals := 1620 } : Room) m c 0 0 cX11_hint 1 s args RX11 K A := C
  unfold P_X11_hint at h
  refine wa_aload_n C 0 rfl dX11_hint_0 rfl ?_
  refine wa_xVv C T XO (k := 0) (As := []) (rest := []) (c_X11_needBoard l hst K ad  _ _ h) gw_884 gw_881 dW_0 rfl gw_883 gs_39 gw_1 q_X11_needBoard rfl rfl rfl ⟨by decide, by decide⟩ rfl (Nat.le_of_ble_eq_true rfl) dX11_hint_1 ⟨Nat.le_of_ble_eq_true rfl, Nat.le_of_ble_eq_true rfl⟩ ⟨Nat.le_of_ble_eq_true rfl, Nat.le_of_ble_eq_true rfl⟩ (fun z9 u9 hx9 => by obtain ⟨hk9, rfl, h9⟩ := hx9; exact ⟨by omega, _, _, _, _, _, _, _, _, _, _, _, _, _, _, _, _, _, _, _, _, _, _, _, _, _, _, _, _, _, _, _, _, _, _, _, _, _, _, _, _, rfl, h9⟩) (fun u9 hp => ?_)
  replace C := C.more (cells' := 1) (slots' := 6) (Nat.le_of_ble_eq_true rfl) (Nat.le_of_ble_eq_true rfl)
  obtain ⟨rfl, h⟩ := hp
  refine wa_aload_n C 0 rfl dX11_hint_4 rfl ?_
  refine wa_getR C 0 3 dW_0 rfl rfl (by decide) okX11 gw_461 dX11_hint_5 ?_
  refine wa_callVv C (k := 7) (As := []) (rest := []) (c_X0_seek l K ad  _ h) gw_1007 gw_1004 dW_7 rfl gw_1005 gw_1006 gw_8 q_X0_seek rfl rfl rfl ⟨by decide, by decide⟩ rfl (Nat.le_of_ble_eq_true rfl) dX11_hint_8 (fun u9 hp => ?_)
  obtain ⟨B_parts_2, B_longest_3, S_groups_4, S_askedGroup_5, S_taken_6, R_waitingCount_7, R_metCount_8, A_grade_9, A_cell_10, A_mined_11, A_withTotal_12, A_numbers_13, B_chosen_14, B_partOf_15, B_rest_16, B_unknowns_17, B_partStart_18, B_cells_19, S_minedSet_20, S_safeSet_21, S_partSet_22, S_tally_23, S_askedTally_24, S_groupOf_25, S_groupSize_26, S_links_27, S_linkEnd_28, S_pick_29, S_groupMinedSet_30, S_groupSafeSet_31, O_sums_32, O_nextSums_33, R_found_34, R_openEnds_35, R_need_36, R_waiting_37, R_waits_38, R_common_39, R_met_40, rfl, h⟩ := hp
  refine wa_aload_n C 0 rfl dX11_hint_11 rfl ?_
  refine wa_getR C 0 3 dW_0 rfl rfl (by decide) okX11 gw_461 dX11_hint_12 ?_
  refine wa_getI C 7 0 dW_7 rfl rfl (by decide) okX0 gw_342 dX11_hint_15 (fun r_41 => ?_)
  refine wa_if_ne C (tgt := 23) r_41 dX11_hint_18 (by decide) (fun c_42 => ?_) (fun c_42 => ?_)
  · replace h := h.1 c_42
    refine wa_aload_n C 0 rfl dX11_hint_23 rfl ?_
    refine wa_getR C 0 3 dW_0 rfl rfl (by decide) okX11 gw_461 dX11_hint_24 ?_
    refine wa_callVv C (k := 7) (As := []) (rest := []) (c_X0_explain l K ad  _ h) gw_1017 gw_1014 dW_7 rfl gw_1015 gw_1016 gw_8 q_X0_explain rfl rfl rfl ⟨by decide, by decide⟩ rfl (Nat.le_of_ble_eq_true rfl) dX11_hint_27 (fun u9 hp => ?_)
    obtain ⟨B_parts_43, B_longest_44, S_groups_45, S_askedGroup_46, S_taken_47, A_withTotal_48, A_numbers_49, B_chosen_50, B_partOf_51, B_rest_52, B_unknowns_53, B_partStart_54, B_cells_55, S_minedSet_56, S_safeSet_57, S_partSet_58, S_tally_59, S_askedTally_60, S_groupOf_61, S_groupSize_62, S_links_63, S_linkEnd_64, S_pick_65, S_groupMinedSet_66, S_groupSafeSet_67, O_sums_68, O_nextSums_69, A_number_70, rfl, h⟩ := hp
    refine wa_iconst C (z := 1) dX11_hint_30 rfl ?_
    refine wa_iconst C (z := 2) dX11_hint_31 rfl ?_
    refine wa_aload_n C 0 rfl dX11_hint_32 rfl ?_
    refine wa_getR C 0 3 dW_0 rfl rfl (by decide) okX11 gw_461 dX11_hint_33 ?_
    refine wa_getI C 7 1 dW_7 rfl rfl (by decide) okX0 gw_344 dX11_hint_36 (fun r_71 => ?_)
    refine wa_imul C dX11_hint_39 ?_
    refine wa_iadd C dX11_hint_40 ?_
    refine wa_aload_n C 0 rfl dX11_hint_41 rfl ?_
    refine wa_getR C 0 3 dW_0 rfl rfl (by decide) okX11 gw_461 dX11_hint_42 ?_
    refine wa_getZ C 7 2 dW_7 rfl rfl (by decide) okX0 gw_346 dX11_hint_45 (fun r_72 => ?_)
    obtain ⟨J_73, h, hJ_73⟩ := h
    have k_74 : ∀ (z_75 : Int), inR z_75 → J_73 z_75 → WA p l e ({ frames := 27, cells := 1, slots := 6, locals := 1620 } : Room) s m args below meth c 1 6 Q K ad 1 A 56 [] [.int (iI z_75), .int (iI (1 + (2 * A_cell_10)))] (dW D_hasBoard D_beganBlank F_mines F_moves F_changes G_width G_height G_size B_parts_43 B_longest_44 S_groups_45 S_askedGroup_46 S_taken_47 R_waitingCount_7 R_metCount_8 A_grade_9 A_cell_10 A_mined_11 A_withTotal_48 A_numbers_49 X_low X_high Y_low Y_high F_mined F_number F_state F_cellsIn F_unknownNear F_hitNear F_moveStart F_changed F_waiting F_seen G_near G_nearEnd B_chosen_50 B_partOf_51 B_rest_52 B_unknowns_53 B_partStart_54 B_cells_55 S_minedSet_56 S_safeSet_57 S_partSet_58 S_tally_59 S_askedTally_60 S_groupOf_61 S_groupSize_62 S_links_63 S_linkEnd_64 S_pick_65 S_groupMinedSet_66 S_groupSafeSet_67 O_sums_68 O_nextSums_69 R_found_34 R_openEnds_35 R_need_36 R_waiting_37 R_waits_38 R_common_39 R_met_40 A_number_70 Q_mined Q_all Q_choices Q_term Q_divisor Q_spare X_limbs X_sum Y_limbs Y_sum) := by
      intro z_75 rz_75 h
      replace h := hJ_73 z_75 rz_75 h
      refine wa_iadd C dX11_hint_56 ?_
      obtain ⟨r_76, h⟩ := h
      exact ret (Nat.le_of_ble_eq_true rfl) (Nat.le_of_ble_eq_true rfl) dX11_hint_57 r_76 ⟨_, _, _, _, _, _, _, _, _, _, _, _, _, _, _, _, _, _, _, _, _, _, _, _, _, _, _, _, _, _, _, _, _, _, _, _, _, _, _, _, rfl, h⟩
    refine wa_if_eq C (tgt := 55) (inR_b r_72) dX11_hint_48 (by decide) (fun c_77 => ?_) (fun c_77 => ?_)
    · replace h := h.1 c_77
      refine wa_iconst C (z := 0) dX11_hint_55 rfl ?_
      refine wa_sub C [] rfl ?_
      exact k_74 0 (inR_k 0 rfl) h
    · replace h := h.2 c_77
      refine wa_iconst C (z := 1) dX11_hint_51 rfl ?_
      refine wa_goto C (tgt := 56) dX11_hint_52 (by decide) ?_
      refine wa_sub C [] rfl ?_
      exact k_74 1 (inR_k 1 rfl) h
  · replace h := h.2 c_42
    refine wa_iconst C (z := 0) dX11_hint_21 rfl ?_
    exact ret (Nat.le_of_ble_eq_true rfl) (Nat.le_of_ble_eq_true rfl) dX11_hint_22 (inR_k 0 rfl) ⟨_, _, _, _, _, _, _, _, _, _, _, _, _, _, _, _, _, _, _, _, _, _, _, _, _, _, _, _, _, _, _, _, _, _, _, _, _, _, _, _, rfl, h⟩
theorem dX11_reason_0 : decode cX11_reason 0 = .ok (.aload_n 0, 1) := by decide +kernel
theorem dX11_reason_1 : decode cX11_reason 1 = .ok (.invokevirtual 163, 3) := by decide +kernel
theorem dX11_reason_4 : decode cX11_reason 4 = .ok (.iload_n 1, 1) := by decide +kernel
theorem dX11_reason_5 : decode cX11_reason 5 = .ok (.tableswitch 59 0 2 #[27, 35, 43], 27) := by decide +kernel
theorem dX11_reason_32 : decode cX11_reason 32 = .ok (.aload_n 0, 1) := by decide +kernel
theorem dX11_reason_33 : decode cX11_reason 33 = .ok (.getfield 49, 3) := by decide +kernel
theorem dX11_reason_36 : decode cX11_reason 36 = .ok (.getfield 172, 3) := by decide +kernel
theorem dX11_reason_39 : decode cX11_reason 39 = .ok (.ireturn, 1) := by decide +kernel
theorem dX11_reason_40 : decode cX11_reason 40 = .ok (.aload_n 0, 1) := by decide +kernel
theorem dX11_reason_41 : decode cX11_reason 41 = .ok (.getfield 49, 3) := by decide +kernel
theorem dX11_reason_44 : decode cX11_reason 44 = .ok (.getfield 183, 3) := by decide +kernel
theorem dX11_reason_47 : decode cX11_reason 47 = .ok (.ireturn, 1) := by decide +kernel
theorem dX11_reason_48 : decode cX11_reason 48 = .ok (.aload_n 0, 1) := by decide +kernel
theorem dX11_reason_49 : decode cX11_reason 49 = .ok (.getfield 49, 3) := by decide +kernel
theorem dX11_reason_52 : decode cX11_reason 52 = .ok (.getfield 186, 3) := by decide +kernel
theorem dX11_reason_55 : decode cX11_reason 55 = .ok (.ifCond .eq 7, 3) := by decide +kernel
theorem dX11_reason_58 : decode cX11_reason 58 = .ok (.iconst 1, 1) := by decide +kernel
theorem dX11_reason_59 : decode cX11_reason 59 = .ok (.goto 4, 3) := by decide +kernel
theorem dX11_reason_62 : decode cX11_reason 62 = .ok (.iconst 0, 1) := by decide +kernel
theorem dX11_reason_63 : decode cX11_reason 63 = .ok (.ireturn, 1) := by decide +kernel
theorem dX11_reason_64 : decode cX11_reason 64 = .ok (.new 189, 3) := by decide +kernel
theorem dX11_reason_67 : decode cX11_reason 67 = .ok (.dup, 1) := by decide +kernel
theorem dX11_reason_68 : decode cX11_reason 68 = .ok (.invokespecial 191, 3) := by decide +kernel
theorem dX11_reason_71 : decode cX11_reason 71 = .ok (.athrow, 1) := by decide +kernel
theorem q_X11_reason : yX11_reason.cls = RX11 ∧ yX11_reason.cls ≠ "java/lang/invoke/MethodHandle" ∧ yX11_reason.cls ≠ "java/lang/invoke/VarHandle" ∧ (parseMethodDescriptor yX11_reason.desc).map (fun d => d.parameters.length) = some 1 := ⟨rfl, by decide, by decide, by decide +kernel⟩
set_option maxRecDepth 100000 in
set_option maxHeartbeats 4000000 in
theorem c_X11_reason (l : Launch) (hst : l.stackTraces = false) (K : wK) (ad : Nat → Nat) {D_hasBoard : Int} {D_beganBlank : Int} {F_mines : Int} {F_moves : Int} {F_changes : Int} {G_width : Int} {G_height : Int} {G_size : Int} {B_parts : Int} {B_longest : Int} {S_groups : Int} {S_askedGroup : Int} {S_taken : Int} {R_waitingCount : Int} {R_metCount : Int} {A_grade : Int} {A_cell : Int} {A_mined : Int} {A_withTotal : Int} {A_numbers : Int} {X_low : Int} {X_high : Int} {Y_low : Int} {Y_high : Int} {F_mined : Int → Int} {F_number : Int → Int} {F_state : Int → Int} {F_cellsIn : Int → Int} {F_unknownNear : Int → Int} {F_hitNear : Int → Int} {F_moveStart : Int → Int} {F_changed : Int → Int} {F_waiting : Int → Int} {F_seen : Int → Int} {G_near : Int → Int} {G_nearEnd : Int → Int} {B_chosen : Int → Int} {B_partOf : Int → Int} {B_rest : Int → Int} {B_unknowns : Int → Int} {B_partStart : Int → Int} {B_cells : Int → Int} {S_minedSet : Int → Int} {S_safeSet : Int → Int} {S_partSet : Int → Int} {S_tally : Int → Int} {S_askedTally : Int → Int} {S_groupOf : Int → Int} {S_groupSize : Int → Int} {S_links : Int → Int} {S_linkEnd : Int → Int} {S_pick : Int → Int} {S_groupMinedSet : Int → Int} {S_groupSafeSet : Int → Int} {O_sums : Int → Int64} {O_nextSums : Int → Int64} {R_found : Int → Int} {R_openEnds : Int → Int} {R_need : Int → Int} {R_waiting : Int → Int} {R_waits : Int → Int} {R_common : Int → Int} {R_met : Int → Int} {A_number : Int → Int} {Q_mined : Int → Int64} {Q_all : Int → Int64} {Q_choices : Int → Int64} {Q_term : Int → Int64} {Q_divisor : Int → Int64} {Q_spare : Int → Int64} {X_limbs : Int → Int64} {X_sum : Int → Int64} {Y_limbs : Int → Int64} {Y_sum : Int → Int64} (x1 : Int) (rx1 : inR x1) (post : Int → Prop) (px : Int → Prop) (h : P_X11_reason post px D_hasBoard A_grade A_withTotal A_numbers x1) : xI l yX11_reason (Cond.code yX11_reason cX11_reason 2 (some .int) :: GT) ({ frames := 8, cells := 2, slots := 12, locals := 480 } : Room) 2 12 [.ref (ad 0), .int (iI x1)] K ad (dW D_hasBoard D_beganBlank F_mines F_moves F_changes G_width G_height G_size B_parts B_longest S_groups S_askedGroup S_taken R_waitingCount R_metCount A_grade A_cell A_mined A_withTotal A_numbers X_low X_high Y_low Y_high F_mined F_number F_state F_cellsIn F_unknownNear F_hitNear F_moveStart F_changed F_waiting F_seen G_near G_nearEnd B_chosen B_partOf B_rest B_unknowns B_partStart B_cells S_minedSet S_safeSet S_partSet S_tally S_askedTally S_groupOf S_groupSize S_links S_linkEnd S_pick S_groupMinedSet S_groupSafeSet O_sums O_nextSums R_found R_openEnds R_need R_waiting R_waits R_common R_met A_number Q_mined Q_all Q_choices Q_term Q_divisor Q_spare X_limbs X_sum Y_limbs Y_sum) (fun z9 u9 => u9 = (dW D_hasBoard D_beganBlank F_mines F_moves F_changes G_width G_height G_size B_parts B_longest S_groups S_askedGroup S_taken R_waitingCount R_metCount A_grade A_cell A_mined A_withTotal A_numbers X_low X_high Y_low Y_high F_mined F_number F_state F_cellsIn F_unknownNear F_hitNear F_moveStart F_changed F_waiting F_seen G_near G_nearEnd B_chosen B_partOf B_rest B_unknowns B_partStart B_cells S_minedSet S_safeSet S_partSet S_tally S_askedTally S_groupOf S_groupSize S_links S_linkEnd S_pick S_groupMinedSet S_groupSafeSet O_sums O_nextSums R_found R_openEnds R_need R_waiting R_waits R_common R_met A_number Q_mined Q_all Q_choices Q_term Q_divisor Q_spare X_limbs X_sum Y_limbs Y_sum) ∧ post z9) (fun k9 u9 => (k9 = 1 ∨ k9 = 2) ∧ u9 = (dW D_hasBoard D_beganBlank F_mines F_moves F_changes G_width G_height G_size B_parts B_longest S_groups S_askedGroup S_taken R_waitingCount R_metCount A_grade A_cell A_mined A_withTotal A_numbers X_low X_high Y_low Y_high F_mined F_number F_state F_cellsIn F_unknownNear F_hitNear F_moveStart F_changed F_waiting F_seen G_near G_nearEnd B_chosen B_partOf B_rest B_unknowns B_partStart B_cells S_minedSet S_safeSet S_partSet S_tally S_askedTally S_groupOf S_groupSize S_links S_linkEnd S_pick S_groupMinedSet S_groupSafeSet O_sums O_nextSums R_found R_openEnds R_need R_waiting R_waits R_common R_met A_number Q_mined Q_all Q_choices Q_term Q_divisor Q_spare X_limbs X_sum Y_limbs Y_sum) ∧ px k9) := by
  refine xI_of (lv0 := [(0, .ref (ad 0)), (1, .int (iI x1))]) hst (by decide) (Nat.le_of_ble_eq_true rfl) rfl (Nat.le_of_ble_eq_true rfl) rfl rfl ?_
  intro p e s m args below meth c Q A C T ret XO thr
  replace C : Cx p ({ frames := 8, cells := 2, slots := 12, locals := 480 } : Room) m c 0 0 cX11_reason 2 s args RX11 K A := C
  unfold P_X11_reason at h
  refine wa_aload_n C 0 rfl dX11_reason_0 rfl ?_
  refine wa_xVv C T XO (k := 0) (As := []) (rest := []) (c_X11_needBoard l hst K ad  _ _ h) gw_884 gw_881 dW_0 rfl gw_883 gs_39 gw_1 q_X11_needBoard rfl rfl rfl ⟨by decide, by decide⟩ rfl (Nat.le_of_ble_eq_true rfl) dX11_reason_1 ⟨Nat.le_of_ble_eq_true rfl, Nat.le_of_ble_eq_true rfl⟩ ⟨Nat.le_of_ble_eq_true rfl, Nat.le_of_ble_eq_true rfl⟩ (fun z9 u9 hx9 => by obtain ⟨hk9, rfl, h9⟩ := hx9; exact ⟨by omega, rfl, h9⟩) (fun u9 hp => ?_)
  replace C := C.more (cells' := 1) (slots' := 6) (Nat.le_of_ble_eq_true rfl) (Nat.le_of_ble_eq_true rfl)
  obtain ⟨rfl, h⟩ := hp
  refine wa_iload_n C 1 rfl dX11_reason_4 rfl ?_
  rcases (show x1 = 0 ∨ x1 = 1 ∨ x1 = 2 ∨ (x1 < 0 ∨ 2 < x1) by omega) with c_2 | c_2 | c_2 | c_2
  · replace h := h.1 c_2
    refine wa_tabIn C (tgt := 32) rx1 dX11_reason_5 (by omega) (by omega) (by rw [c_2]; rfl) (by decide) ?_
    refine wa_aload_n C 0 rfl dX11_reason_32 rfl ?_
    refine wa_getR C 0 3 dW_0 rfl rfl (by decide) okX11 gw_461 dX11_reason_33 ?_
    refine wa_getI C 7 0 dW_7 rfl rfl (by decide) okX0 gw_342 dX11_reason_36 (fun r_3 => ?_)
    exact ret (Nat.le_of_ble_eq_true rfl) (Nat.le_of_ble_eq_true rfl) dX11_reason_39 r_3 ⟨rfl, h⟩
  · replace h := h.2.1 c_2
    refine wa_tabIn C (tgt := 40) rx1 dX11_reason_5 (by omega) (by omega) (by rw [c_2]; rfl) (by decide) ?_
    refine wa_aload_n C 0 rfl dX11_reason_40 rfl ?_
    refine wa_getR C 0 3 dW_0 rfl rfl (by decide) okX11 gw_461 dX11_reason_41 ?_
    refine wa_getI C 7 5 dW_7 rfl rfl (by decide) okX0 gw_352 dX11_reason_44 (fun r_4 => ?_)
    exact ret (Nat.le_of_ble_eq_true rfl) (Nat.le_of_ble_eq_true rfl) dX11_reason_47 r_4 ⟨rfl, h⟩
  · replace h := h.2.2.1 c_2
    refine wa_tabIn C (tgt := 48) rx1 dX11_reason_5 (by omega) (by omega) (by rw [c_2]; rfl) (by decide) ?_
    refine wa_aload_n C 0 rfl dX11_reason_48 rfl ?_
    refine wa_getR C 0 3 dW_0 rfl rfl (by decide) okX11 gw_461 dX11_reason_49 ?_
    refine wa_getZ C 7 3 dW_7 rfl rfl (by decide) okX0 gw_348 dX11_reason_52 (fun r_5 => ?_)
    obtain ⟨J_6, h, hJ_6⟩ := h
    have k_7 : ∀ (z_8 : Int), inR z_8 → J_6 z_8 → WA p l e ({ frames := 8, cells := 2, slots := 12, locals := 480 } : Room) s m args below meth c 1 6 Q K ad 2 A 63 [] [.int (iI z_8)] (dW D_hasBoard D_beganBlank F_mines F_moves F_changes G_width G_height G_size B_parts B_longest S_groups S_askedGroup S_taken R_waitingCount R_metCount A_grade A_cell A_mined A_withTotal A_numbers X_low X_high Y_low Y_high F_mined F_number F_state F_cellsIn F_unknownNear F_hitNear F_moveStart F_changed F_waiting F_seen G_near G_nearEnd B_chosen B_partOf B_rest B_unknowns B_partStart B_cells S_minedSet S_safeSet S_partSet S_tally S_askedTally S_groupOf S_groupSize S_links S_linkEnd S_pick S_groupMinedSet S_groupSafeSet O_sums O_nextSums R_found R_openEnds R_need R_waiting R_waits R_common R_met A_number Q_mined Q_all Q_choices Q_term Q_divisor Q_spare X_limbs X_sum Y_limbs Y_sum) := by
      intro z_8 rz_8 h
      replace h := hJ_6 z_8 rz_8 h
      exact ret (Nat.le_of_ble_eq_true rfl) (Nat.le_of_ble_eq_true rfl) dX11_reason_63 rz_8 ⟨rfl, h⟩
    refine wa_if_eq C (tgt := 62) (inR_b r_5) dX11_reason_55 (by decide) (fun c_9 => ?_) (fun c_9 => ?_)
    · replace h := h.1 c_9
      refine wa_iconst C (z := 0) dX11_reason_62 rfl ?_
      refine wa_sub C [] rfl ?_
      exact k_7 0 (inR_k 0 rfl) h
    · replace h := h.2 c_9
      refine wa_iconst C (z := 1) dX11_reason_58 rfl ?_
      refine wa_goto C (tgt := 63) dX11_reason_59 (by decide) ?_
      refine wa_sub C [] rfl ?_
      exact k_7 1 (inR_k 1 rfl) h
  · replace h := h.2.2.2 c_2
    refine wa_tabOut C (tgt := 64) rx1 dX11_reason_5 c_2 (by decide) ?_
    exact thr 2 (Nat.le_of_ble_eq_true rfl) (Nat.le_of_ble_eq_true rfl) xcl_2 xin_2 xat_2 (Nat.le_of_ble_eq_true rfl) dX11_reason_64 dX11_reason_67 dX11_reason_68 dX11_reason_71 ⟨by decide, rfl, h⟩
theorem dX11_reasonCell_0 : decode cX11_reasonCell 0 = .ok (.aload_n 0, 1) := by decide +kernel
theorem dX11_reasonCell_1 : decode cX11_reasonCell 1 = .ok (.invokevirtual 163, 3) := by decide +kernel
theorem dX11_reasonCell_4 : decode cX11_reasonCell 4 = .ok (.iload_n 1, 1) := by decide +kernel
theorem dX11_reasonCell_5 : decode cX11_reasonCell 5 = .ok (.ifCond .lt 14, 3) := by decide +kernel
theorem dX11_reasonCell_8 : decode cX11_reasonCell 8 = .ok (.iload_n 1, 1) := by decide +kernel
theorem dX11_reasonCell_9 : decode cX11_reasonCell 9 = .ok (.aload_n 0, 1) := by decide +kernel
theorem dX11_reasonCell_10 : decode cX11_reasonCell 10 = .ok (.getfield 49, 3) := by decide +kernel
theorem dX11_reasonCell_13 : decode cX11_reasonCell 13 = .ok (.getfield 183, 3) := by decide +kernel
theorem dX11_reasonCell_16 : decode cX11_reasonCell 16 = .ok (.if_icmp .lt 11, 3) := by decide +kernel
theorem dX11_reasonCell_19 : decode cX11_reasonCell 19 = .ok (.new 189, 3) := by decide +kernel
theorem dX11_reasonCell_22 : decode cX11_reasonCell 22 = .ok (.dup, 1) := by decide +kernel
theorem dX11_reasonCell_23 : decode cX11_reasonCell 23 = .ok (.invokespecial 191, 3) := by decide +kernel
theorem dX11_reasonCell_26 : decode cX11_reasonCell 26 = .ok (.athrow, 1) := by decide +kernel
theorem dX11_reasonCell_27 : decode cX11_reasonCell 27 = .ok (.aload_n 0, 1) := by decide +kernel
theorem dX11_reasonCell_28 : decode cX11_reasonCell 28 = .ok (.getfield 49, 3) := by decide +kernel
theorem dX11_reasonCell_31 : decode cX11_reasonCell 31 = .ok (.getfield 192, 3) := by decide +kernel
theorem dX11_reasonCell_34 : decode cX11_reasonCell 34 = .ok (.iload_n 1, 1) := by decide +kernel
theorem dX11_reasonCell_35 : decode cX11_reasonCell 35 = .ok (.iaload, 1) := by decide +kernel
theorem dX11_reasonCell_36 : decode cX11_reasonCell 36 = .ok (.ireturn, 1) := by decide +kernel
theorem q_X11_reasonCell : yX11_reasonCell.cls = RX11 ∧ yX11_reasonCell.cls ≠ "java/lang/invoke/MethodHandle" ∧ yX11_reasonCell.cls ≠ "java/lang/invoke/VarHandle" ∧ (parseMethodDescriptor yX11_reasonCell.desc).map (fun d => d.parameters.length) = some 1 := ⟨rfl, by decide, by decide, by decide +kernel⟩
set_option maxRecDepth 100000 in
set_option maxHeartbeats 4000000 in
theorem c_X11_reasonCell (l : Launch) (hst : l.stackTraces = false) (K : wK) (ad : Nat → Nat) {D_hasBoard : Int} {D_beganBlank : Int} {F_mines : Int} {F_moves : Int} {F_changes : Int} {G_width : Int} {G_height : Int} {G_size : Int} {B_parts : Int} {B_longest : Int} {S_groups : Int} {S_askedGroup : Int} {S_taken : Int} {R_waitingCount : Int} {R_metCount : Int} {A_grade : Int} {A_cell : Int} {A_mined : Int} {A_withTotal : Int} {A_numbers : Int} {X_low : Int} {X_high : Int} {Y_low : Int} {Y_high : Int} {F_mined : Int → Int} {F_number : Int → Int} {F_state : Int → Int} {F_cellsIn : Int → Int} {F_unknownNear : Int → Int} {F_hitNear : Int → Int} {F_moveStart : Int → Int} {F_changed : Int → Int} {F_waiting : Int → Int} {F_seen : Int → Int} {G_near : Int → Int} {G_nearEnd : Int → Int} {B_chosen : Int → Int} {B_partOf : Int → Int} {B_rest : Int → Int} {B_unknowns : Int → Int} {B_partStart : Int → Int} {B_cells : Int → Int} {S_minedSet : Int → Int} {S_safeSet : Int → Int} {S_partSet : Int → Int} {S_tally : Int → Int} {S_askedTally : Int → Int} {S_groupOf : Int → Int} {S_groupSize : Int → Int} {S_links : Int → Int} {S_linkEnd : Int → Int} {S_pick : Int → Int} {S_groupMinedSet : Int → Int} {S_groupSafeSet : Int → Int} {O_sums : Int → Int64} {O_nextSums : Int → Int64} {R_found : Int → Int} {R_openEnds : Int → Int} {R_need : Int → Int} {R_waiting : Int → Int} {R_waits : Int → Int} {R_common : Int → Int} {R_met : Int → Int} {A_number : Int → Int} {Q_mined : Int → Int64} {Q_all : Int → Int64} {Q_choices : Int → Int64} {Q_term : Int → Int64} {Q_divisor : Int → Int64} {Q_spare : Int → Int64} {X_limbs : Int → Int64} {X_sum : Int → Int64} {Y_limbs : Int → Int64} {Y_sum : Int → Int64} (x1 : Int) (rx1 : inR x1) (post : Int → Prop) (px : Int → Prop) (h : P_X11_reasonCell post px D_hasBoard A_numbers A_number x1) : xI l yX11_reasonCell (Cond.code yX11_reasonCell cX11_reasonCell 2 (some .int) :: GT) ({ frames := 8, cells := 2, slots := 12, locals := 480 } : Room) 2 12 [.ref (ad 0), .int (iI x1)] K ad (dW D_hasBoard D_beganBlank F_mines F_moves F_changes G_width G_height G_size B_parts B_longest S_groups S_askedGroup S_taken R_waitingCount R_metCount A_grade A_cell A_mined A_withTotal A_numbers X_low X_high Y_low Y_high F_mined F_number F_state F_cellsIn F_unknownNear F_hitNear F_moveStart F_changed F_waiting F_seen G_near G_nearEnd B_chosen B_partOf B_rest B_unknowns B_partStart B_cells S_minedSet S_safeSet S_partSet S_tally S_askedTally S_groupOf S_groupSize S_links S_linkEnd S_pick S_groupMinedSet S_groupSafeSet O_sums O_nextSums R_found R_openEnds R_need R_waiting R_waits R_common R_met A_number Q_mined Q_all Q_choices Q_term Q_divisor Q_spare X_limbs X_sum Y_limbs Y_sum) (fun z9 u9 => u9 = (dW D_hasBoard D_beganBlank F_mines F_moves F_changes G_width G_height G_size B_parts B_longest S_groups S_askedGroup S_taken R_waitingCount R_metCount A_grade A_cell A_mined A_withTotal A_numbers X_low X_high Y_low Y_high F_mined F_number F_state F_cellsIn F_unknownNear F_hitNear F_moveStart F_changed F_waiting F_seen G_near G_nearEnd B_chosen B_partOf B_rest B_unknowns B_partStart B_cells S_minedSet S_safeSet S_partSet S_tally S_askedTally S_groupOf S_groupSize S_links S_linkEnd S_pick S_groupMinedSet S_groupSafeSet O_sums O_nextSums R_found R_openEnds R_need R_waiting R_waits R_common R_met A_number Q_mined Q_all Q_choices Q_term Q_divisor Q_spare X_limbs X_sum Y_limbs Y_sum) ∧ post z9) (fun k9 u9 => (k9 = 1 ∨ k9 = 2) ∧ u9 = (dW D_hasBoard D_beganBlank F_mines F_moves F_changes G_width G_height G_size B_parts B_longest S_groups S_askedGroup S_taken R_waitingCount R_metCount A_grade A_cell A_mined A_withTotal A_numbers X_low X_high Y_low Y_high F_mined F_number F_state F_cellsIn F_unknownNear F_hitNear F_moveStart F_changed F_waiting F_seen G_near G_nearEnd B_chosen B_partOf B_rest B_unknowns B_partStart B_cells S_minedSet S_safeSet S_partSet S_tally S_askedTally S_groupOf S_groupSize S_links S_linkEnd S_pick S_groupMinedSet S_groupSafeSet O_sums O_nextSums R_found R_openEnds R_need R_waiting R_waits R_common R_met A_number Q_mined Q_all Q_choices Q_term Q_divisor Q_spare X_limbs X_sum Y_limbs Y_sum) ∧ px k9) := by
  refine xI_of (lv0 := [(0, .ref (ad 0)), (1, .int (iI x1))]) hst (by decide) (Nat.le_of_ble_eq_true rfl) rfl (Nat.le_of_ble_eq_true rfl) rfl rfl ?_
  intro p e s m args below meth c Q A C T ret XO thr
  replace C : Cx p ({ frames := 8, cells := 2, slots := 12, locals := 480 } : Room) m c 0 0 cX11_reasonCell 2 s args RX11 K A := C
  unfold P_X11_reasonCell at h
  refine wa_aload_n C 0 rfl dX11_reasonCell_0 rfl ?_
  refine wa_xVv C T XO (k := 0) (As := []) (rest := []) (c_X11_needBoard l hst K ad  _ _ h) gw_884 gw_881 dW_0 rfl gw_883 gs_39 gw_1 q_X11_needBoard rfl rfl rfl ⟨by decide, by decide⟩ rfl (Nat.le_of_ble_eq_true rfl) dX11_reasonCell_1 ⟨Nat.le_of_ble_eq_true rfl, Nat.le_of_ble_eq_true rfl⟩ ⟨Nat.le_of_ble_eq_true rfl, Nat.le_of_ble_eq_true rfl⟩ (fun z9 u9 hx9 => by obtain ⟨hk9, rfl, h9⟩ := hx9; exact ⟨by omega, rfl, h9⟩) (fun u9 hp => ?_)
  replace C := C.more (cells' := 1) (slots' := 6) (Nat.le_of_ble_eq_true rfl) (Nat.le_of_ble_eq_true rfl)
  obtain ⟨rfl, h⟩ := hp
  refine wa_iload_n C 1 rfl dX11_reasonCell_4 rfl ?_
  refine wa_if_lt C (tgt := 19) rx1 dX11_reasonCell_5 (by decide) (fun c_2 => ?_) (fun c_2 => ?_)
  · replace h := h.1 c_2
    exact thr 2 (Nat.le_of_ble_eq_true rfl) (Nat.le_of_ble_eq_true rfl) xcl_2 xin_2 xat_2 (Nat.le_of_ble_eq_true rfl) dX11_reasonCell_19 dX11_reasonCell_22 dX11_reasonCell_23 dX11_reasonCell_26 ⟨by decide, rfl, h⟩
  · replace h := h.2 c_2
    refine wa_iload_n C 1 rfl dX11_reasonCell_8 rfl ?_
    refine wa_aload_n C 0 rfl dX11_reasonCell_9 rfl ?_
    refine wa_getR C 0 3 dW_0 rfl rfl (by decide) okX11 gw_461 dX11_reasonCell_10 ?_
    refine wa_getI C 7 5 dW_7 rfl rfl (by decide) okX0 gw_352 dX11_reasonCell_13 (fun r_3 => ?_)
    refine wa_icmp_lt C (tgt := 27) rx1 r_3 dX11_reasonCell_16 (by decide) (fun c_4 => ?_) (fun c_4 => ?_)
    · replace h := h.1 c_4
      refine wa_aload_n C 0 rfl dX11_reasonCell_27 rfl ?_
      refine wa_getR C 0 3 dW_0 rfl rfl (by decide) okX11 gw_461 dX11_reasonCell_28 ?_
      refine wa_getR C 7 4 dW_7 rfl rfl (by decide) okX0 gw_350 dX11_reasonCell_31 ?_
      refine wa_iload_n C 1 rfl dX11_reasonCell_34 rfl ?_
      obtain ⟨t_5, h⟩ := h
      refine wa_iald C 51 dW_51 dX11_reasonCell_35 t_5.1 t_5.2 (fun v_6 ev_6 rv_6 => ?_)
      replace h := h v_6 ev_6 rv_6
      exact ret (Nat.le_of_ble_eq_true rfl) (Nat.le_of_ble_eq_true rfl) dX11_reasonCell_36 rv_6 ⟨rfl, h⟩
    · replace h := h.2 c_4
      exact thr 2 (Nat.le_of_ble_eq_true rfl) (Nat.le_of_ble_eq_true rfl) xcl_2 xin_2 xat_2 (Nat.le_of_ble_eq_true rfl) dX11_reasonCell_19 dX11_reasonCell_22 dX11_reasonCell_23 dX11_reasonCell_26 ⟨by decide, rfl, h⟩
theorem dX11_follows_0 : decode cX11_follows 0 = .ok (.aload_n 0, 1) := by decide +kernel
theorem dX11_follows_1 : decode cX11_follows 1 = .ok (.iload_n 1, 1) := by decide +kernel
theorem dX11_follows_2 : decode cX11_follows 2 = .ok (.iload_n 2, 1) := by decide +kernel
theorem dX11_follows_3 : decode cX11_follows 3 = .ok (.invokevirtual 107, 3) := by decide +kernel
theorem dX11_follows_6 : decode cX11_follows 6 = .ok (.istore 4, 2) := by decide +kernel
theorem dX11_follows_8 : decode cX11_follows 8 = .ok (.aload_n 0, 1) := by decide +kernel
theorem dX11_follows_9 : decode cX11_follows 9 = .ok (.getfield 12, 3) := by decide +kernel
theorem dX11_follows_12 : decode cX11_follows 12 = .ok (.iload 4, 2) := by decide +kernel
theorem dX11_follows_14 : decode cX11_follows 14 = .ok (.invokevirtual 147, 3) := by decide +kernel
theorem dX11_follows_17 : decode cX11_follows 17 = .ok (.ifCond .ne 11, 3) := by decide +kernel
theorem dX11_follows_20 : decode cX11_follows 20 = .ok (.new 115, 3) := by decide +kernel
theorem dX11_follows_23 : decode cX11_follows 23 = .ok (.dup, 1) := by decide +kernel
theorem dX11_follows_24 : decode cX11_follows 24 = .ok (.invokespecial 117, 3) := by decide +kernel
theorem dX11_follows_27 : decode cX11_follows 27 = .ok (.athrow, 1) := by decide +kernel
theorem dX11_follows_28 : decode cX11_follows 28 = .ok (.aload_n 0, 1) := by decide +kernel
theorem dX11_follows_29 : decode cX11_follows 29 = .ok (.getfield 49, 3) := by decide +kernel
theorem dX11_follows_32 : decode cX11_follows 32 = .ok (.invokevirtual 193, 3) := by decide +kernel
theorem dX11_follows_35 : decode cX11_follows 35 = .ok (.aload_n 0, 1) := by decide +kernel
theorem dX11_follows_36 : decode cX11_follows 36 = .ok (.getfield 21, 3) := by decide +kernel
theorem dX11_follows_39 : decode cX11_follows 39 = .ok (.invokevirtual 196, 3) := by decide +kernel
theorem dX11_follows_42 : decode cX11_follows 42 = .ok (.aload_n 0, 1) := by decide +kernel
theorem dX11_follows_43 : decode cX11_follows 43 = .ok (.getfield 21, 3) := by decide +kernel
theorem dX11_follows_46 : decode cX11_follows 46 = .ok (.invokevirtual 199, 3) := by decide +kernel
theorem dX11_follows_49 : decode cX11_follows 49 = .ok (.ifCond .eq 11, 3) := by decide +kernel
theorem dX11_follows_52 : decode cX11_follows 52 = .ok (.new 115, 3) := by decide +kernel
theorem dX11_follows_55 : decode cX11_follows 55 = .ok (.dup, 1) := by decide +kernel
theorem dX11_follows_56 : decode cX11_follows 56 = .ok (.invokespecial 117, 3) := by decide +kernel
theorem dX11_follows_59 : decode cX11_follows 59 = .ok (.athrow, 1) := by decide +kernel
theorem dX11_follows_60 : decode cX11_follows 60 = .ok (.aload_n 0, 1) := by decide +kernel
theorem dX11_follows_61 : decode cX11_follows 61 = .ok (.getfield 35, 3) := by decide +kernel
theorem dX11_follows_64 : decode cX11_follows 64 = .ok (.iload 4, 2) := by decide +kernel
theorem dX11_follows_66 : decode cX11_follows 66 = .ok (.iload_n 3, 1) := by decide +kernel
theorem dX11_follows_67 : decode cX11_follows 67 = .ok (.aload_n 0, 1) := by decide +kernel
theorem dX11_follows_68 : decode cX11_follows 68 = .ok (.getfield 49, 3) := by decide +kernel
theorem dX11_follows_71 : decode cX11_follows 71 = .ok (.getfield 186, 3) := by decide +kernel
theorem dX11_follows_74 : decode cX11_follows 74 = .ok (.invokevirtual 202, 3) := by decide +kernel
theorem dX11_follows_77 : decode cX11_follows 77 = .ok (.ireturn, 1) := by decide +kernel
theorem q_X11_follows : yX11_follows.cls = RX11 ∧ yX11_follows.cls ≠ "java/lang/invoke/MethodHandle" ∧ yX11_follows.cls ≠ "java/lang/invoke/VarHandle" ∧ (parseMethodDescriptor yX11_follows.desc).map (fun d => d.parameters.length) = some 3 := ⟨rfl, by decide, by decide, by decide +kernel⟩
set_option maxRecDepth 100000 in
set_option maxHeartbeats 4000000 in
theorem c_X11_follows (l : Launch) (hst : l.stackTraces = false) (K : wK) (ad : Nat → Nat) {D_hasBoard : Int} {D_beganBlank : Int} {F_mines : Int} {F_moves : Int} {F_changes : Int} {G_width : Int} {G_height : Int} {G_size : Int} {B_parts : Int} {B_longest : Int} {S_groups : Int} {S_askedGroup : Int} {S_taken : Int} {R_waitingCount : Int} {R_metCount : Int} {A_grade : Int} {A_cell : Int} {A_mined : Int} {A_withTotal : Int} {A_numbers : Int} {X_low : Int} {X_high : Int} {Y_low : Int} {Y_high : Int} {F_mined : Int → Int} {F_number : Int → Int} {F_state : Int → Int} {F_cellsIn : Int → Int} {F_unknownNear : Int → Int} {F_hitNear : Int → Int} {F_moveStart : Int → Int} {F_changed : Int → Int} {F_waiting : Int → Int} {F_seen : Int → Int} {G_near : Int → Int} {G_nearEnd : Int → Int} {B_chosen : Int → Int} {B_partOf : Int → Int} {B_rest : Int → Int} {B_unknowns : Int → Int} {B_partStart : Int → Int} {B_cells : Int → Int} {S_minedSet : Int → Int} {S_safeSet : Int → Int} {S_partSet : Int → Int} {S_tally : Int → Int} {S_askedTally : Int → Int} {S_groupOf : Int → Int} {S_groupSize : Int → Int} {S_links : Int → Int} {S_linkEnd : Int → Int} {S_pick : Int → Int} {S_groupMinedSet : Int → Int} {S_groupSafeSet : Int → Int} {O_sums : Int → Int64} {O_nextSums : Int → Int64} {R_found : Int → Int} {R_openEnds : Int → Int} {R_need : Int → Int} {R_waiting : Int → Int} {R_waits : Int → Int} {R_common : Int → Int} {R_met : Int → Int} {A_number : Int → Int} {Q_mined : Int → Int64} {Q_all : Int → Int64} {Q_choices : Int → Int64} {Q_term : Int → Int64} {Q_divisor : Int → Int64} {Q_spare : Int → Int64} {X_limbs : Int → Int64} {X_sum : Int → Int64} {Y_limbs : Int → Int64} {Y_sum : Int → Int64} (x1 : Int) (x2 : Int) (x3 : Int) (rx1 : inR x1) (rx2 : inR x2) (bx3 : x3 = 0 ∨ x3 = 1) (post : Int → (Int) → (Int) → (Int) → (Int) → (Int) → (Int → Int) → (Int → Int) → (Int → Int) → (Int → Int) → (Int → Int) → (Int → Int) → (Int → Int) → (Int → Int) → (Int → Int) → (Int → Int) → (Int → Int) → (Int → Int) → (Int → Int) → (Int → Int) → (Int → Int) → (Int → Int) → (Int → Int) → (Int → Int) → (Int → Int64) → (Int → Int64) → Prop) (px : Int → (Int) → (Int) → (Int) → (Int) → (Int) → (Int → Int) → (Int → Int) → (Int → Int) → (Int → Int) → (Int → Int) → (Int → Int) → (Int → Int) → (Int → Int) → (Int → Int) → (Int → Int) → (Int → Int) → (Int → Int) → (Int → Int) → (Int → Int) → (Int → Int) → (Int → Int) → (Int → Int) → (Int → Int) → (Int → Int64) → (Int → Int64) → Prop) (h : P_X11_follows post px D_hasBoard F_mines G_width G_height G_size B_parts B_longest S_groups S_askedGroup S_taken A_withTotal A_numbers F_number F_state F_cellsIn F_unknownNear F_hitNear G_near G_nearEnd B_chosen B_partOf B_rest B_unknowns B_partStart B_cells S_minedSet S_safeSet S_partSet S_tally S_askedTally S_groupOf S_groupSize S_links S_linkEnd S_pick S_groupMinedSet S_groupSafeSet O_sums O_nextSums A_number x1 x2 x3) : xI l yX11_follows (Cond.code yX11_follows cX11_follows 5 (some .boolean) :: GT) ({ frames := 26, cells := 3, slots := 18, locals := 1560 } : Room) 3 18 [.ref (ad 0), .int (iI x1), .int (iI x2), .int (iI x3)] K ad (dW D_hasBoard D_beganBlank F_mines F_moves F_changes G_width G_height G_size B_parts B_longest S_groups S_askedGroup S_taken R_waitingCount R_metCount A_grade A_cell A_mined A_withTotal A_numbers X_low X_high Y_low Y_high F_mined F_number F_state F_cellsIn F_unknownNear F_hitNear F_moveStart F_changed F_waiting F_seen G_near G_nearEnd B_chosen B_partOf B_rest B_unknowns B_partStart B_cells S_minedSet S_safeSet S_partSet S_tally S_askedTally S_groupOf S_groupSize S_links S_linkEnd S_pick S_groupMinedSet S_groupSafeSet O_sums O_nextSums R_found R_openEnds R_need R_waiting R_waits R_common R_met A_number Q_mined Q_all Q_choices Q_term Q_divisor Q_spare X_limbs X_sum Y_limbs Y_sum) (fun z9 u9 => (z9 = 0 ∨ z9 = 1) ∧ ∃ B_parts9 B_longest9 S_groups9 S_askedGroup9 S_taken9 B_chosen9 B_partOf9 B_rest9 B_unknowns9 B_partStart9 B_cells9 S_minedSet9 S_safeSet9 S_partSet9 S_tally9 S_askedTally9 S_groupOf9 S_groupSize9 S_links9 S_linkEnd9 S_pick9 S_groupMinedSet9 S_groupSafeSet9 O_sums9 O_nextSums9, u9 = (dW D_hasBoard D_beganBlank F_mines F_moves F_changes G_width G_height G_size B_parts9 B_longest9 S_groups9 S_askedGroup9 S_taken9 R_waitingCount R_metCount A_grade A_cell A_mined A_withTotal A_numbers X_low X_high Y_low Y_high F_mined F_number F_state F_cellsIn F_unknownNear F_hitNear F_moveStart F_changed F_waiting F_seen G_near G_nearEnd B_chosen9 B_partOf9 B_rest9 B_unknowns9 B_partStart9 B_cells9 S_minedSet9 S_safeSet9 S_partSet9 S_tally9 S_askedTally9 S_groupOf9 S_groupSize9 S_links9 S_linkEnd9 S_pick9 S_groupMinedSet9 S_groupSafeSet9 O_sums9 O_nextSums9 R_found R_openEnds R_need R_waiting R_waits R_common R_met A_number Q_mined Q_all Q_choices Q_term Q_divisor Q_spare X_limbs X_sum Y_limbs Y_sum) ∧ post z9 B_parts9 B_longest9 S_groups9 S_askedGroup9 S_taken9 B_chosen9 B_partOf9 B_rest9 B_unknowns9 B_partStart9 B_cells9 S_minedSet9 S_safeSet9 S_partSet9 S_tally9 S_askedTally9 S_groupOf9 S_groupSize9 S_links9 S_linkEnd9 S_pick9 S_groupMinedSet9 S_groupSafeSet9 O_sums9 O_nextSums9) (fun k9 u9 => (k9 = 1 ∨ k9 = 2 ∨ k9 = 3) ∧ ∃ B_parts9 B_longest9 S_groups9 S_askedGroup9 S_taken9 B_chosen9 B_partOf9 B_rest9 B_unknowns9 B_partStart9 B_cells9 S_minedSet9 S_safeSet9 S_partSet9 S_tally9 S_askedTally9 S_groupOf9 S_groupSize9 S_links9 S_linkEnd9 S_pick9 S_groupMinedSet9 S_groupSafeSet9 O_sums9 O_nextSums9, u9 = (dW D_hasBoard D_beganBlank F_mines F_moves F_changes G_width G_height G_size B_parts9 B_longest9 S_groups9 S_askedGroup9 S_taken9 R_waitingCount R_metCount A_grade A_cell A_mined A_withTotal A_numbers X_low X_high Y_low Y_high F_mined F_number F_state F_cellsIn F_unknownNear F_hitNear F_moveStart F_changed F_waiting F_seen G_near G_nearEnd B_chosen9 B_partOf9 B_rest9 B_unknowns9 B_partStart9 B_cells9 S_minedSet9 S_safeSet9 S_partSet9 S_tally9 S_askedTally9 S_groupOf9 S_groupSize9 S_links9 S_linkEnd9 S_pick9 S_groupMinedSet9 S_groupSafeSet9 O_sums9 O_nextSums9 R_found R_openEnds R_need R_waiting R_waits R_common R_met A_number Q_mined Q_all Q_choices Q_term Q_divisor Q_spare X_limbs X_sum Y_limbs Y_sum) ∧ px k9 B_parts9 B_longest9 S_groups9 S_askedGroup9 S_taken9 B_chosen9 B_partOf9 B_rest9 B_unknowns9 B_partStart9 B_cells9 S_minedSet9 S_safeSet9 S_partSet9 S_tally9 S_askedTally9 S_groupOf9 S_groupSize9 S_links9 S_linkEnd9 S_pick9 S_groupMinedSet9 S_groupSafeSet9 O_sums9 O_nextSums9) := by
  refine xZ_of (lv0 := [(0, .ref (ad 0)), (1, .int (iI x1)), (2, .int (iI x2)), (3, .int (iI x3))]) hst (by decide) (Nat.le_of_ble_eq_true rfl) rfl (Nat.le_of_ble_eq_true rfl) rfl rfl ?_
  intro p e s m args below meth c Q A C T ret XO thr
  replace C : Cx p ({ frames := 26, cells := 3, slots := 18, locals := 1560 } : Room) m c 0 0 cX11_follows 5 s args RX11 K A := C
  unfold P_X11_follows at h
  refine wa_aload_n C 0 rfl dX11_follows_0 rfl ?_
  refine wa_iload_n C 1 rfl dX11_follows_1 rfl ?_
  refine wa_iload_n C 2 rfl dX11_follows_2 rfl ?_
  refine wa_xVi C T XO (k := 0) (As := [.int (iI x1), .int (iI x2)]) (rest := []) (c_X11_cellAt l hst K ad x1 x2 rx1 rx2 _ _ h) gw_880 gw_877 dW_0 rfl gw_879 gs_38 gw_1 q_X11_cellAt rfl rfl rfl ⟨by decide, by decide⟩ rfl (Nat.le_of_ble_eq_true rfl) dX11_follows_3 ⟨Nat.le_of_ble_eq_true rfl, Nat.le_of_ble_eq_true rfl⟩ ⟨Nat.le_of_ble_eq_true rfl, Nat.le_of_ble_eq_true rfl⟩ (fun z9 u9 hx9 => by obtain ⟨hk9, rfl, h9⟩ := hx9; exact ⟨by omega, _, _, _, _, _, _, _, _, _, _, _, _, _, _, _, _, _, _, _, _, _, _, _, _, _, rfl, h9⟩) (fun c_1 u9 rc_1 hp => ?_)
  replace C := C.more (cells' := 2) (slots' := 12) (Nat.le_of_ble_eq_true rfl) (Nat.le_of_ble_eq_true rfl)
  obtain ⟨rfl, h⟩ := hp
  replace h := h rc_1
  refine wa_istore C dX11_follows_6 (by decide) rfl ?_
  refine wa_aload_n C 1 rfl dX11_follows_8 rfl ?_
  refine wa_getR C 0 0 dW_0 rfl rfl (by decide) okX11 gw_458 dX11_follows_9 ?_
  refine wa_iload C 0 rfl dX11_follows_12 ?_
  refine wa_callVi C (k := 1) (As := [.int (iI c_1)]) (rest := []) (c_X2_isUnknown l K ad c_1 rc_1 _ h) gw_665 gw_960 dW_1 rfl gw_663 gw_664 gw_2 q_X2_isUnknown rfl rfl rfl ⟨by decide, by decide⟩ rfl (Nat.le_of_ble_eq_true rfl) dX11_follows_14 (fun c_3 u9 rc_3 hp => ?_)
  obtain ⟨bc_3, rfl, h⟩ := hp
  replace h := h bc_3
  refine wa_if_ne C (tgt := 28) (inR_b bc_3) dX11_follows_17 (by decide) (fun c_4 => ?_) (fun c_4 => ?_)
  · replace h := h.1 c_4
    refine wa_aload_n C 1 rfl dX11_follows_28 rfl ?_
    refine wa_getR C 0 3 dW_0 rfl rfl (by decide) okX11 gw_461 dX11_follows_29 ?_
    refine wa_callVv C (k := 7) (As := []) (rest := []) (c_X0_chooseNumbers l K ad  _ h) gw_1061 gw_1058 dW_7 rfl gw_1059 gw_1060 gw_8 q_X0_chooseNumbers rfl rfl rfl ⟨by decide, by decide⟩ rfl (Nat.le_of_ble_eq_true rfl) dX11_follows_32 (fun u9 hp => ?_)
    obtain ⟨B_chosen_5, rfl, h⟩ := hp
    refine wa_aload_n C 1 rfl dX11_follows_35 rfl ?_
    refine wa_getR C 0 1 dW_0 rfl rfl (by decide) okX11 gw_459 dX11_follows_36 ?_
    refine wa_callVv C (k := 3) (As := []) (rest := []) (c_X1_split l K ad  _ h) gw_732 gw_1067 dW_3 rfl gw_730 gw_731 gw_4 q_X1_split rfl rfl rfl ⟨by decide, by decide⟩ rfl (Nat.le_of_ble_eq_true rfl) dX11_follows_39 (fun u9 hp => ?_)
    obtain ⟨B_parts_6, B_longest_7, B_partOf_8, B_rest_9, B_unknowns_10, B_partStart_11, B_cells_12, rfl, h⟩ := hp
    refine wa_aload_n C 1 rfl dX11_follows_42 rfl ?_
    refine wa_getR C 0 1 dW_0 rfl rfl (by decide) okX11 gw_459 dX11_follows_43 ?_
    refine wa_callVi C (k := 3) (As := []) (rest := []) (c_X1_isTooLong l K ad  _ h) gw_749 gw_1068 dW_3 rfl gw_747 gw_748 gw_4 q_X1_isTooLong rfl rfl rfl ⟨by decide, by decide⟩ rfl (Nat.le_of_ble_eq_true rfl) dX11_follows_46 (fun c_13 u9 rc_13 hp => ?_)
    obtain ⟨bc_13, rfl, h⟩ := hp
    replace h := h bc_13
    refine wa_if_eq C (tgt := 60) (inR_b bc_13) dX11_follows_49 (by decide) (fun c_14 => ?_) (fun c_14 => ?_)
    · replace h := h.1 c_14
      refine wa_aload_n C 1 rfl dX11_follows_60 rfl ?_
      refine wa_getR C 0 2 dW_0 rfl rfl (by decide) okX11 gw_460 dX11_follows_61 ?_
      refine wa_iload C 0 rfl dX11_follows_64 ?_
      refine wa_iload_n C 4 rfl dX11_follows_66 rfl ?_
      refine wa_aload_n C 1 rfl dX11_follows_67 rfl ?_
      refine wa_getR C 0 3 dW_0 rfl rfl (by decide) okX11 gw_461 dX11_follows_68 ?_
      refine wa_getZ C 7 3 dW_7 rfl rfl (by decide) okX0 gw_348 dX11_follows_71 (fun r_15 => ?_)
      refine wa_callVi C (k := 5) (As := [.int (iI c_1), .int (iI x3), .int (iI A_withTotal)]) (rest := []) (c_X6_isSure l K ad c_1 x3 A_withTotal rc_1 bx3 r_15 _ h) gw_1024 gw_1069 dW_5 rfl gw_1022 gw_1023 gw_6 q_X6_isSure rfl rfl rfl ⟨by decide, by decide⟩ rfl (Nat.le_of_ble_eq_true rfl) dX11_follows_74 (fun c_16 u9 rc_16 hp => ?_)
      obtain ⟨bc_16, S_groups_17, S_askedGroup_18, S_taken_19, B_rest_20, B_unknowns_21, S_minedSet_22, S_safeSet_23, S_partSet_24, S_tally_25, S_askedTally_26, S_groupOf_27, S_groupSize_28, S_links_29, S_linkEnd_30, S_pick_31, S_groupMinedSet_32, S_groupSafeSet_33, O_sums_34, O_nextSums_35, rfl, h⟩ := hp
      replace h := h bc_16
      exact ret (Nat.le_of_ble_eq_true rfl) (Nat.le_of_ble_eq_true rfl) dX11_follows_77 bc_16 ⟨bc_16, _, _, _, _, _, _, _, _, _, _, _, _, _, _, _, _, _, _, _, _, _, _, _, _, _, rfl, h⟩
    · replace h := h.2 c_14
      exact thr 3 (Nat.le_of_ble_eq_true rfl) (Nat.le_of_ble_eq_true rfl) xcl_3 xin_3 xat_3 (Nat.le_of_ble_eq_true rfl) dX11_follows_52 dX11_follows_55 dX11_follows_56 dX11_follows_59 ⟨by decide, _, _, _, _, _, _, _, _, _, _, _, _, _, _, _, _, _, _, _, _, _, _, _, _, _, rfl, h⟩
  · replace h := h.2 c_4
    exact thr 3 (Nat.le_of_ble_eq_true rfl) (Nat.le_of_ble_eq_true rfl) xcl_3 xin_3 xat_3 (Nat.le_of_ble_eq_true rfl) dX11_follows_20 dX11_follows_23 dX11_follows_24 dX11_follows_27 ⟨by decide, _, _, _, _, _, _, _, _, _, _, _, _, _, _, _, _, _, _, _, _, _, _, _, _, _, rfl, h⟩
theorem dX11_isBorderTooLong_0 : decode cX11_isBorderTooLong 0 = .ok (.aload_n 0, 1) := by decide +kernel
theorem dX11_isBorderTooLong_1 : decode cX11_isBorderTooLong 1 = .ok (.getfield 21, 3) := by decide +kernel
theorem dX11_isBorderTooLong_4 : decode cX11_isBorderTooLong 4 = .ok (.invokevirtual 265, 3) := by decide +kernel
theorem dX11_isBorderTooLong_7 : decode cX11_isBorderTooLong 7 = .ok (.aload_n 0, 1) := by decide +kernel
theorem dX11_isBorderTooLong_8 : decode cX11_isBorderTooLong 8 = .ok (.getfield 21, 3) := by decide +kernel
theorem dX11_isBorderTooLong_11 : decode cX11_isBorderTooLong 11 = .ok (.invokevirtual 196, 3) := by decide +kernel
theorem dX11_isBorderTooLong_14 : decode cX11_isBorderTooLong 14 = .ok (.aload_n 0, 1) := by decide +kernel
theorem dX11_isBorderTooLong_15 : decode cX11_isBorderTooLong 15 = .ok (.getfield 21, 3) := by decide +kernel
theorem dX11_isBorderTooLong_18 : decode cX11_isBorderTooLong 18 = .ok (.invokevirtual 199, 3) := by decide +kernel
theorem dX11_isBorderTooLong_21 : decode cX11_isBorderTooLong 21 = .ok (.ireturn, 1) := by decide +kernel
theorem q_X11_isBorderTooLong : yX11_isBorderTooLong.cls = RX11 ∧ yX11_isBorderTooLong.cls ≠ "java/lang/invoke/MethodHandle" ∧ yX11_isBorderTooLong.cls ≠ "java/lang/invoke/VarHandle" ∧ (parseMethodDescriptor yX11_isBorderTooLong.desc).map (fun d => d.parameters.length) = some 0 := ⟨rfl, by decide, by decide, by decide +kernel⟩
set_option maxRecDepth 100000 in
set_option maxHeartbeats 4000000 in
theorem c_X11_isBorderTooLong (l : Launch) (K : wK) (ad : Nat → Nat) {D_hasBoard : Int} {D_beganBlank : Int} {F_mines : Int} {F_moves : Int} {F_changes : Int} {G_width : Int} {G_height : Int} {G_size : Int} {B_parts : Int} {B_longest : Int} {S_groups : Int} {S_askedGroup : Int} {S_taken : Int} {R_waitingCount : Int} {R_metCount : Int} {A_grade : Int} {A_cell : Int} {A_mined : Int} {A_withTotal : Int} {A_numbers : Int} {X_low : Int} {X_high : Int} {Y_low : Int} {Y_high : Int} {F_mined : Int → Int} {F_number : Int → Int} {F_state : Int → Int} {F_cellsIn : Int → Int} {F_unknownNear : Int → Int} {F_hitNear : Int → Int} {F_moveStart : Int → Int} {F_changed : Int → Int} {F_waiting : Int → Int} {F_seen : Int → Int} {G_near : Int → Int} {G_nearEnd : Int → Int} {B_chosen : Int → Int} {B_partOf : Int → Int} {B_rest : Int → Int} {B_unknowns : Int → Int} {B_partStart : Int → Int} {B_cells : Int → Int} {S_minedSet : Int → Int} {S_safeSet : Int → Int} {S_partSet : Int → Int} {S_tally : Int → Int} {S_askedTally : Int → Int} {S_groupOf : Int → Int} {S_groupSize : Int → Int} {S_links : Int → Int} {S_linkEnd : Int → Int} {S_pick : Int → Int} {S_groupMinedSet : Int → Int} {S_groupSafeSet : Int → Int} {O_sums : Int → Int64} {O_nextSums : Int → Int64} {R_found : Int → Int} {R_openEnds : Int → Int} {R_need : Int → Int} {R_waiting : Int → Int} {R_waits : Int → Int} {R_common : Int → Int} {R_met : Int → Int} {A_number : Int → Int} {Q_mined : Int → Int64} {Q_all : Int → Int64} {Q_choices : Int → Int64} {Q_term : Int → Int64} {Q_divisor : Int → Int64} {Q_spare : Int → Int64} {X_limbs : Int → Int64} {X_sum : Int → Int64} {Y_limbs : Int → Int64} {Y_sum : Int → Int64}   (post : Int → (Int) → (Int) → (Int → Int) → (Int → Int) → (Int → Int) → (Int → Int) → (Int → Int) → (Int → Int) → Prop) (h : P_X11_isBorderTooLong post G_size B_parts B_longest F_number F_state F_unknownNear F_hitNear G_near G_nearEnd B_chosen B_partOf B_rest B_unknowns B_partStart B_cells) : mI l yX11_isBorderTooLong (Cond.code yX11_isBorderTooLong cX11_isBorderTooLong 1 (some .boolean) :: GT) ({ frames := 6, cells := 0, slots := 0, locals := 360 } : Room) [.ref (ad 0)] K ad (dW D_hasBoard D_beganBlank F_mines F_moves F_changes G_width G_height G_size B_parts B_longest S_groups S_askedGroup S_taken R_waitingCount R_metCount A_grade A_cell A_mined A_withTotal A_numbers X_low X_high Y_low Y_high F_mined F_number F_state F_cellsIn F_unknownNear F_hitNear F_moveStart F_changed F_waiting F_seen G_near G_nearEnd B_chosen B_partOf B_rest B_unknowns B_partStart B_cells S_minedSet S_safeSet S_partSet S_tally S_askedTally S_groupOf S_groupSize S_links S_linkEnd S_pick S_groupMinedSet S_groupSafeSet O_sums O_nextSums R_found R_openEnds R_need R_waiting R_waits R_common R_met A_number Q_mined Q_all Q_choices Q_term Q_divisor Q_spare X_limbs X_sum Y_limbs Y_sum) (fun z9 u9 => (z9 = 0 ∨ z9 = 1) ∧ ∃ B_parts9 B_longest9 B_chosen9 B_partOf9 B_rest9 B_unknowns9 B_partStart9 B_cells9, u9 = (dW D_hasBoard D_beganBlank F_mines F_moves F_changes G_width G_height G_size B_parts9 B_longest9 S_groups S_askedGroup S_taken R_waitingCount R_metCount A_grade A_cell A_mined A_withTotal A_numbers X_low X_high Y_low Y_high F_mined F_number F_state F_cellsIn F_unknownNear F_hitNear F_moveStart F_changed F_waiting F_seen G_near G_nearEnd B_chosen9 B_partOf9 B_rest9 B_unknowns9 B_partStart9 B_cells9 S_minedSet S_safeSet S_partSet S_tally S_askedTally S_groupOf S_groupSize S_links S_linkEnd S_pick S_groupMinedSet S_groupSafeSet O_sums O_nextSums R_found R_openEnds R_need R_waiting R_waits R_common R_met A_number Q_mined Q_all Q_choices Q_term Q_divisor Q_spare X_limbs X_sum Y_limbs Y_sum) ∧ post z9 B_parts9 B_longest9 B_chosen9 B_partOf9 B_rest9 B_unknowns9 B_partStart9 B_cells9) := by
  refine mZ_of (lv0 := [(0, .ref (ad 0))]) (by decide) (Nat.le_of_ble_eq_true rfl) rfl ?_
  intro p e s m args below meth c Q A C ret
  replace C : Cx p ({ frames := 6, cells := 0, slots := 0, locals := 360 } : Room) m c 0 0 cX11_isBorderTooLong 1 s args RX11 K A := C
  unfold P_X11_isBorderTooLong at h
  refine wa_aload_n C 0 rfl dX11_isBorderTooLong_0 rfl ?_
  refine wa_getR C 0 1 dW_0 rfl rfl (by decide) okX11 gw_459 dX11_isBorderTooLong_1 ?_
  refine wa_callVv C (k := 3) (As := []) (rest := []) (c_X1_chooseAll l K ad  _ h) gw_724 gw_1081 dW_3 rfl gw_722 gw_723 gw_4 q_X1_chooseAll rfl rfl rfl ⟨by decide, by decide⟩ rfl (Nat.le_of_ble_eq_true rfl) dX11_isBorderTooLong_4 (fun u9 hp => ?_)
  obtain ⟨B_chosen_1, rfl, h⟩ := hp
  refine wa_aload_n C 0 rfl dX11_isBorderTooLong_7 rfl ?_
  refine wa_getR C 0 1 dW_0 rfl rfl (by decide) okX11 gw_459 dX11_isBorderTooLong_8 ?_
  refine wa_callVv C (k := 3) (As := []) (rest := []) (c_X1_split l K ad  _ h) gw_732 gw_1067 dW_3 rfl gw_730 gw_731 gw_4 q_X1_split rfl rfl rfl ⟨by decide, by decide⟩ rfl (Nat.le_of_ble_eq_true rfl) dX11_isBorderTooLong_11 (fun u9 hp => ?_)
  obtain ⟨B_parts_2, B_longest_3, B_partOf_4, B_rest_5, B_unknowns_6, B_partStart_7, B_cells_8, rfl, h⟩ := hp
  refine wa_aload_n C 0 rfl dX11_isBorderTooLong_14 rfl ?_
  refine wa_getR C 0 1 dW_0 rfl rfl (by decide) okX11 gw_459 dX11_isBorderTooLong_15 ?_
  refine wa_callVi C (k := 3) (As := []) (rest := []) (c_X1_isTooLong l K ad  _ h) gw_749 gw_1068 dW_3 rfl gw_747 gw_748 gw_4 q_X1_isTooLong rfl rfl rfl ⟨by decide, by decide⟩ rfl (Nat.le_of_ble_eq_true rfl) dX11_isBorderTooLong_18 (fun c_9 u9 rc_9 hp => ?_)
  obtain ⟨bc_9, rfl, h⟩ := hp
  replace h := h bc_9
  exact ret dX11_isBorderTooLong_21 bc_9 ⟨bc_9, _, _, _, _, _, _, _, _, rfl, h⟩
theorem dX11_ways_0 : decode cX11_ways 0 = .ok (.aload_n 0, 1) := by decide +kernel
theorem dX11_ways_1 : decode cX11_ways 1 = .ok (.invokevirtual 163, 3) := by decide +kernel
theorem dX11_ways_4 : decode cX11_ways 4 = .ok (.aload_n 0, 1) := by decide +kernel
theorem dX11_ways_5 : decode cX11_ways 5 = .ok (.invokevirtual 206, 3) := by decide +kernel
theorem dX11_ways_8 : decode cX11_ways 8 = .ok (.ifCond .eq 5, 3) := by decide +kernel
theorem dX11_ways_11 : decode cX11_ways 11 = .ok (.iconst (-1), 1) := by decide +kernel
theorem dX11_ways_12 : decode cX11_ways 12 = .ok (.ireturn, 1) := by decide +kernel
theorem dX11_ways_13 : decode cX11_ways 13 = .ok (.aload_n 0, 1) := by decide +kernel
theorem dX11_ways_14 : decode cX11_ways 14 = .ok (.getfield 56, 3) := by decide +kernel
theorem dX11_ways_17 : decode cX11_ways 17 = .ok (.iconst (-1), 1) := by decide +kernel
theorem dX11_ways_18 : decode cX11_ways 18 = .ok (.invokevirtual 209, 3) := by decide +kernel
theorem dX11_ways_21 : decode cX11_ways 21 = .ok (.aload_n 0, 1) := by decide +kernel
theorem dX11_ways_22 : decode cX11_ways 22 = .ok (.getfield 56, 3) := by decide +kernel
theorem dX11_ways_25 : decode cX11_ways 25 = .ok (.getfield 212, 3) := by decide +kernel
theorem dX11_ways_28 : decode cX11_ways 28 = .ok (.ldc 216, 2) := by decide +kernel
theorem dX11_ways_30 : decode cX11_ways 30 = .ok (.invokestatic 217, 3) := by decide +kernel
theorem dX11_ways_33 : decode cX11_ways 33 = .ok (.l2i, 1) := by decide +kernel
theorem dX11_ways_34 : decode cX11_ways 34 = .ok (.ireturn, 1) := by decide +kernel
theorem q_X11_ways : yX11_ways.cls = RX11 ∧ yX11_ways.cls ≠ "java/lang/invoke/MethodHandle" ∧ yX11_ways.cls ≠ "java/lang/invoke/VarHandle" ∧ (parseMethodDescriptor yX11_ways.desc).map (fun d => d.parameters.length) = some 0 := ⟨rfl, by decide, by decide, by decide +kernel⟩
set_option maxRecDepth 100000 in
set_option maxHeartbeats 4000000 in
theorem c_X11_ways (l : Launch) (hst : l.stackTraces = false) (K : wK) (ad : Nat → Nat) {D_hasBoard : Int} {D_beganBlank : Int} {F_mines : Int} {F_moves : Int} {F_changes : Int} {G_width : Int} {G_height : Int} {G_size : Int} {B_parts : Int} {B_longest : Int} {S_groups : Int} {S_askedGroup : Int} {S_taken : Int} {R_waitingCount : Int} {R_metCount : Int} {A_grade : Int} {A_cell : Int} {A_mined : Int} {A_withTotal : Int} {A_numbers : Int} {X_low : Int} {X_high : Int} {Y_low : Int} {Y_high : Int} {F_mined : Int → Int} {F_number : Int → Int} {F_state : Int → Int} {F_cellsIn : Int → Int} {F_unknownNear : Int → Int} {F_hitNear : Int → Int} {F_moveStart : Int → Int} {F_changed : Int → Int} {F_waiting : Int → Int} {F_seen : Int → Int} {G_near : Int → Int} {G_nearEnd : Int → Int} {B_chosen : Int → Int} {B_partOf : Int → Int} {B_rest : Int → Int} {B_unknowns : Int → Int} {B_partStart : Int → Int} {B_cells : Int → Int} {S_minedSet : Int → Int} {S_safeSet : Int → Int} {S_partSet : Int → Int} {S_tally : Int → Int} {S_askedTally : Int → Int} {S_groupOf : Int → Int} {S_groupSize : Int → Int} {S_links : Int → Int} {S_linkEnd : Int → Int} {S_pick : Int → Int} {S_groupMinedSet : Int → Int} {S_groupSafeSet : Int → Int} {O_sums : Int → Int64} {O_nextSums : Int → Int64} {R_found : Int → Int} {R_openEnds : Int → Int} {R_need : Int → Int} {R_waiting : Int → Int} {R_waits : Int → Int} {R_common : Int → Int} {R_met : Int → Int} {A_number : Int → Int} {Q_mined : Int → Int64} {Q_all : Int → Int64} {Q_choices : Int → Int64} {Q_term : Int → Int64} {Q_divisor : Int → Int64} {Q_spare : Int → Int64} {X_limbs : Int → Int64} {X_sum : Int → Int64} {Y_limbs : Int → Int64} {Y_sum : Int → Int64}   (post : Int → (Int) → (Int) → (Int) → (Int) → (Int) → (Int) → (Int) → (Int) → (Int) → (Int → Int) → (Int → Int) → (Int → Int) → (Int → Int) → (Int → Int) → (Int → Int) → (Int → Int) → (Int → Int) → (Int → Int) → (Int → Int) → (Int → Int) → (Int → Int) → (Int → Int) → (Int → Int) → (Int → Int) → (Int → Int) → (Int → Int) → (Int → Int) → (Int → Int64) → (Int → Int64) → (Int → Int64) → (Int → Int64) → (Int → Int64) → (Int → Int64) → (Int → Int64) → (Int → Int64) → Prop) (px : Int → (Int) → (Int) → (Int) → (Int) → (Int) → (Int) → (Int) → (Int) → (Int) → (Int → Int) → (Int → Int) → (Int → Int) → (Int → Int) → (Int → Int) → (Int → Int) → (Int → Int) → (Int → Int) → (Int → Int) → (Int → Int) → (Int → Int) → (Int → Int) → (Int → Int) → (Int → Int) → (Int → Int) → (Int → Int) → (Int → Int) → (Int → Int) → (Int → Int64) → (Int → Int64) → (Int → Int64) → (Int → Int64) → (Int → Int64) → (Int → Int64) → (Int → Int64) → (Int → Int64) → Prop) (h : P_X11_ways post px D_hasBoard F_mines G_size B_parts B_longest S_groups S_askedGroup S_taken X_low X_high Y_low Y_high F_number F_state F_cellsIn F_unknownNear F_hitNear G_near G_nearEnd B_chosen B_partOf B_rest B_unknowns B_partStart B_cells S_minedSet S_safeSet S_partSet S_tally S_askedTally S_groupOf S_groupSize S_links S_linkEnd S_pick S_groupMinedSet S_groupSafeSet Q_mined Q_all Q_choices Q_term X_limbs X_sum Y_limbs Y_sum) : xI l yX11_ways (Cond.code yX11_ways cX11_ways 1 (some .int) :: GT) ({ frames := 25, cells := 1, slots := 6, locals := 1500 } : Room) 1 6 [.ref (ad 0)] K ad (dW D_hasBoard D_beganBlank F_mines F_moves F_changes G_width G_height G_size B_parts B_longest S_groups S_askedGroup S_taken R_waitingCount R_metCount A_grade A_cell A_mined A_withTotal A_numbers X_low X_high Y_low Y_high F_mined F_number F_state F_cellsIn F_unknownNear F_hitNear F_moveStart F_changed F_waiting F_seen G_near G_nearEnd B_chosen B_partOf B_rest B_unknowns B_partStart B_cells S_minedSet S_safeSet S_partSet S_tally S_askedTally S_groupOf S_groupSize S_links S_linkEnd S_pick S_groupMinedSet S_groupSafeSet O_sums O_nextSums R_found R_openEnds R_need R_waiting R_waits R_common R_met A_number Q_mined Q_all Q_choices Q_term Q_divisor Q_spare X_limbs X_sum Y_limbs Y_sum) (fun z9 u9 => ∃ B_parts9 B_longest9 S_groups9 S_askedGroup9 S_taken9 X_low9 X_high9 Y_low9 Y_high9 B_chosen9 B_partOf9 B_rest9 B_unknowns9 B_partStart9 B_cells9 S_minedSet9 S_safeSet9 S_partSet9 S_tally9 S_askedTally9 S_groupOf9 S_groupSize9 S_links9 S_linkEnd9 S_pick9 S_groupMinedSet9 S_groupSafeSet9 Q_mined9 Q_all9 Q_choices9 Q_term9 X_limbs9 X_sum9 Y_limbs9 Y_sum9, u9 = (dW D_hasBoard D_beganBlank F_mines F_moves F_changes G_width G_height G_size B_parts9 B_longest9 S_groups9 S_askedGroup9 S_taken9 R_waitingCount R_metCount A_grade A_cell A_mined A_withTotal A_numbers X_low9 X_high9 Y_low9 Y_high9 F_mined F_number F_state F_cellsIn F_unknownNear F_hitNear F_moveStart F_changed F_waiting F_seen G_near G_nearEnd B_chosen9 B_partOf9 B_rest9 B_unknowns9 B_partStart9 B_cells9 S_minedSet9 S_safeSet9 S_partSet9 S_tally9 S_askedTally9 S_groupOf9 S_groupSize9 S_links9 S_linkEnd9 S_pick9 S_groupMinedSet9 S_groupSafeSet9 O_sums O_nextSums R_found R_openEnds R_need R_waiting R_waits R_common R_met A_number Q_mined9 Q_all9 Q_choices9 Q_term9 Q_divisor Q_spare X_limbs9 X_sum9 Y_limbs9 Y_sum9) ∧ post z9 B_parts9 B_longest9 S_groups9 S_askedGroup9 S_taken9 X_low9 X_high9 Y_low9 Y_high9 B_chosen9 B_partOf9 B_rest9 B_unknowns9 B_partStart9 B_cells9 S_minedSet9 S_safeSet9 S_partSet9 S_tally9 S_askedTally9 S_groupOf9 S_groupSize9 S_links9 S_linkEnd9 S_pick9 S_groupMinedSet9 S_groupSafeSet9 Q_mined9 Q_all9 Q_choices9 Q_term9 X_limbs9 X_sum9 Y_limbs9 Y_sum9) (fun k9 u9 => (k9 = 1) ∧ ∃ B_parts9 B_longest9 S_groups9 S_askedGroup9 S_taken9 X_low9 X_high9 Y_low9 Y_high9 B_chosen9 B_partOf9 B_rest9 B_unknowns9 B_partStart9 B_cells9 S_minedSet9 S_safeSet9 S_partSet9 S_tally9 S_askedTally9 S_groupOf9 S_groupSize9 S_links9 S_linkEnd9 S_pick9 S_groupMinedSet9 S_groupSafeSet9 Q_mined9 Q_all9 Q_choices9 Q_term9 X_limbs9 X_sum9 Y_limbs9 Y_sum9, u9 = (dW D_hasBoard D_beganBlank F_mines F_moves F_changes G_width G_height G_size B_parts9 B_longest9 S_groups9 S_askedGroup9 S_taken9 R_waitingCount R_metCount A_grade A_cell A_mined A_withTotal A_numbers X_low9 X_high9 Y_low9 Y_high9 F_mined F_number F_state F_cellsIn F_unknownNear F_hitNear F_moveStart F_changed F_waiting F_seen G_near G_nearEnd B_chosen9 B_partOf9 B_rest9 B_unknowns9 B_partStart9 B_cells9 S_minedSet9 S_safeSet9 S_partSet9 S_tally9 S_askedTally9 S_groupOf9 S_groupSize9 S_links9 S_linkEnd9 S_pick9 S_groupMinedSet9 S_groupSafeSet9 O_sums O_nextSums R_found R_openEnds R_need R_waiting R_waits R_common R_met A_number Q_mined9 Q_all9 Q_choices9 Q_term9 Q_divisor Q_spare X_limbs9 X_sum9 Y_limbs9 Y_sum9) ∧ px k9 B_parts9 B_longest9 S_groups9 S_askedGroup9 S_taken9 X_low9 X_high9 Y_low9 Y_high9 B_chosen9 B_partOf9 B_rest9 B_unknowns9 B_partStart9 B_cells9 S_minedSet9 S_safeSet9 S_partSet9 S_tally9 S_askedTally9 S_groupOf9 S_groupSize9 S_links9 S_linkEnd9 S_pick9 S_groupMinedSet9 S_groupSafeSet9 Q_mined9 Q_all9 Q_choices9 Q_term9 X_limbs9 X_sum9 Y_limbs9 Y_sum9) := by
  refine xI_of (lv0 := [(0, .ref (ad 0))]) hst (by decide) (Nat.le_of_ble_eq_true rfl) rfl (Nat.le_of_ble_eq_true rfl) rfl rfl ?_
  intro p e s m args below meth c Q A C T ret XO thr
  replace C : Cx p ({ frames := 25, cells := 1, slots := 6, locals := 1500 } : Room) m c 0 0 cX11_ways 1 s args RX11 K A := C
  unfold P_X11_ways at h
  refine wa_aload_n C 0 rfl dX11_ways_0 rfl ?_
  refine wa_xVv C T XO (k := 0) (As := []) (rest := []) (c_X11_needBoard l hst K ad  _ _ h) gw_884 gw_881 dW_0 rfl gw_883 gs_39 gw_1 q_X11_needBoard rfl rfl rfl ⟨by decide, by decide⟩ rfl (Nat.le_of_ble_eq_true rfl) dX11_ways_1 ⟨Nat.le_of_ble_eq_true rfl, Nat.le_of_ble_eq_true rfl⟩ ⟨Nat.le_of_ble_eq_true rfl, Nat.le_of_ble_eq_true rfl⟩ (fun z9 u9 hx9 => by obtain ⟨hk9, rfl, h9⟩ := hx9; exact ⟨by omega, _, _, _, _, _, _, _, _, _, _, _, _, _, _, _, _, _, _, _, _, _, _, _, _, _, _, _, _, _, _, _, _, _, _, _, rfl, h9⟩) (fun u9 hp => ?_)
  replace C := C.more (cells' := 1) (slots' := 6) (Nat.le_of_ble_eq_true rfl) (Nat.le_of_ble_eq_true rfl)
  obtain ⟨rfl, h⟩ := hp
  refine wa_aload_n C 0 rfl dX11_ways_4 rfl ?_
  refine wa_callVi C (k := 0) (As := []) (rest := []) (c_X11_isBorderTooLong l K ad  _ h) gw_1080 gw_1077 dW_0 rfl gw_1079 gs_43 gw_1 q_X11_isBorderTooLong rfl rfl rfl ⟨by decide, by decide⟩ rfl (Nat.le_of_ble_eq_true rfl) dX11_ways_5 (fun c_2 u9 rc_2 hp => ?_)
  obtain ⟨bc_2, B_parts_3, B_longest_4, B_chosen_5, B_partOf_6, B_rest_7, B_unknowns_8, B_partStart_9, B_cells_10, rfl, h⟩ := hp
  replace h := h bc_2
  refine wa_if_eq C (tgt := 13) (inR_b bc_2) dX11_ways_8 (by decide) (fun c_11 => ?_) (fun c_11 => ?_)
  · replace h := h.1 c_11
    refine wa_aload_n C 0 rfl dX11_ways_13 rfl ?_
    refine wa_getR C 0 4 dW_0 rfl rfl (by decide) okX11 gw_462 dX11_ways_14 ?_
    refine wa_iconst C (z := -1) dX11_ways_17 rfl ?_
    refine wa_callVv C (k := 8) (As := [.int (iI (-1))]) (rest := []) (c_X5_weigh l K ad (-1) (inR_k (-1) rfl) _ h) gw_1085 gw_1082 dW_8 rfl gw_1083 gw_1084 gw_9 q_X5_weigh rfl rfl rfl ⟨by decide, by decide⟩ rfl (Nat.le_of_ble_eq_true rfl) dX11_ways_18 (fun u9 hp => ?_)
    obtain ⟨S_groups_12, S_askedGroup_13, S_taken_14, X_low_15, X_high_16, Y_low_17, Y_high_18, B_rest_19, B_unknowns_20, S_minedSet_21, S_safeSet_22, S_partSet_23, S_tally_24, S_askedTally_25, S_groupOf_26, S_groupSize_27, S_links_28, S_linkEnd_29, S_pick_30, S_groupMinedSet_31, S_groupSafeSet_32, Q_mined_33, Q_all_34, Q_choices_35, Q_term_36, X_limbs_37, X_sum_38, Y_limbs_39, Y_sum_40, rfl, h⟩ := hp
    refine wa_aload_n C 0 rfl dX11_ways_21 rfl ?_
    refine wa_getR C 0 4 dW_0 rfl rfl (by decide) okX11 gw_462 dX11_ways_22 ?_
    refine wa_getR C 8 1 dW_8 rfl rfl (by decide) okX5 gw_409 dX11_ways_25 ?_
    refine wa_ldc C (z := 1000000007) gw_1134 rfl dX11_ways_28 ?_
    refine wa_callSl C (As := [.ref (ad 53), .int (iI 1000000007)]) (rest := []) (c_X10_remainder_53 l K ad 1000000007 (inR_k 1000000007 rfl) _ h) gw_1137 gw_1135 gw_1136 gw_23 q_X10_remainder rfl rfl rfl ⟨by decide, by decide⟩ rfl (Nat.le_of_ble_eq_true rfl) dX11_ways_30 (fun c_41 u9 hp => ?_)
    obtain ⟨rfl, h⟩ := hp
    refine wa_l2i C dX11_ways_33 ?_
    exact ret (Nat.le_of_ble_eq_true rfl) (Nat.le_of_ble_eq_true rfl) dX11_ways_34 (l2I_r _) ⟨_, _, _, _, _, _, _, _, _, _, _, _, _, _, _, _, _, _, _, _, _, _, _, _, _, _, _, _, _, _, _, _, _, _, _, rfl, h⟩
  · replace h := h.2 c_11
    refine wa_iconst C (z := -1) dX11_ways_11 rfl ?_
    exact ret (Nat.le_of_ble_eq_true rfl) (Nat.le_of_ble_eq_true rfl) dX11_ways_12 (inR_k (-1) rfl) ⟨_, _, _, _, _, _, _, _, _, _, _, _, _, _, _, _, _, _, _, _, _, _, _, _, _, _, _, _, _, _, _, _, _, _, _, rfl, h⟩
theorem dX11_weighUnknown_0 : decode cX11_weighUnknown 0 = .ok (.aload_n 0, 1) := by decide +kernel
theorem dX11_weighUnknown_1 : decode cX11_weighUnknown 1 = .ok (.getfield 12, 3) := by decide +kernel
theorem dX11_weighUnknown_4 : decode cX11_weighUnknown 4 = .ok (.iload_n 1, 1) := by decide +kernel
theorem dX11_weighUnknown_5 : decode cX11_weighUnknown 5 = .ok (.invokevirtual 147, 3) := by decide +kernel
theorem dX11_weighUnknown_8 : decode cX11_weighUnknown 8 = .ok (.ifCond .eq 10, 3) := by decide +kernel
theorem dX11_weighUnknown_11 : decode cX11_weighUnknown 11 = .ok (.aload_n 0, 1) := by decide +kernel
theorem dX11_weighUnknown_12 : decode cX11_weighUnknown 12 = .ok (.invokevirtual 206, 3) := by decide +kernel
theorem dX11_weighUnknown_15 : decode cX11_weighUnknown 15 = .ok (.ifCond .eq 11, 3) := by decide +kernel
theorem dX11_weighUnknown_18 : decode cX11_weighUnknown 18 = .ok (.new 115, 3) := by decide +kernel
theorem dX11_weighUnknown_21 : decode cX11_weighUnknown 21 = .ok (.dup, 1) := by decide +kernel
theorem dX11_weighUnknown_22 : decode cX11_weighUnknown 22 = .ok (.invokespecial 117, 3) := by decide +kernel
theorem dX11_weighUnknown_25 : decode cX11_weighUnknown 25 = .ok (.athrow, 1) := by decide +kernel
theorem dX11_weighUnknown_26 : decode cX11_weighUnknown 26 = .ok (.aload_n 0, 1) := by decide +kernel
theorem dX11_weighUnknown_27 : decode cX11_weighUnknown 27 = .ok (.getfield 56, 3) := by decide +kernel
theorem dX11_weighUnknown_30 : decode cX11_weighUnknown 30 = .ok (.iload_n 1, 1) := by decide +kernel
theorem dX11_weighUnknown_31 : decode cX11_weighUnknown 31 = .ok (.invokevirtual 209, 3) := by decide +kernel
theorem dX11_weighUnknown_34 : decode cX11_weighUnknown 34 = .ok (.aload_n 0, 1) := by decide +kernel
theorem dX11_weighUnknown_35 : decode cX11_weighUnknown 35 = .ok (.getfield 56, 3) := by decide +kernel
theorem dX11_weighUnknown_38 : decode cX11_weighUnknown 38 = .ok (.getfield 212, 3) := by decide +kernel
theorem dX11_weighUnknown_41 : decode cX11_weighUnknown 41 = .ok (.invokestatic 268, 3) := by decide +kernel
theorem dX11_weighUnknown_44 : decode cX11_weighUnknown 44 = .ok (.ifCond .eq 11, 3) := by decide +kernel
theorem dX11_weighUnknown_47 : decode cX11_weighUnknown 47 = .ok (.new 115, 3) := by decide +kernel
theorem dX11_weighUnknown_50 : decode cX11_weighUnknown 50 = .ok (.dup, 1) := by decide +kernel
theorem dX11_weighUnknown_51 : decode cX11_weighUnknown 51 = .ok (.invokespecial 117, 3) := by decide +kernel
theorem dX11_weighUnknown_54 : decode cX11_weighUnknown 54 = .ok (.athrow, 1) := by decide +kernel
theorem dX11_weighUnknown_55 : decode cX11_weighUnknown 55 = .ok (.return_, 1) := by decide +kernel
theorem q_X11_weighUnknown : yX11_weighUnknown.cls = RX11 ∧ yX11_weighUnknown.cls ≠ "java/lang/invoke/MethodHandle" ∧ yX11_weighUnknown.cls ≠ "java/lang/invoke/VarHandle" ∧ (parseMethodDescriptor yX11_weighUnknown.desc).map (fun d => d.parameters.length) = some 1 := ⟨rfl, by decide, by decide, by decide +kernel⟩
set_option maxRecDepth 100000 in
set_option maxHeartbeats 4000000 in
theorem c_X11_weighUnknown (l : Launch) (hst : l.stackTraces = false) (K : wK) (ad : Nat → Nat) {D_hasBoard : Int} {D_beganBlank : Int} {F_mines : Int} {F_moves : Int} {F_changes : Int} {G_width : Int} {G_height : Int} {G_size : Int} {B_parts : Int} {B_longest : Int} {S_groups : Int} {S_askedGroup : Int} {S_taken : Int} {R_waitingCount : Int} {R_metCount : Int} {A_grade : Int} {A_cell : Int} {A_mined : Int} {A_withTotal : Int} {A_numbers : Int} {X_low : Int} {X_high : Int} {Y_low : Int} {Y_high : Int} {F_mined : Int → Int} {F_number : Int → Int} {F_state : Int → Int} {F_cellsIn : Int → Int} {F_unknownNear : Int → Int} {F_hitNear : Int → Int} {F_moveStart : Int → Int} {F_changed : Int → Int} {F_waiting : Int → Int} {F_seen : Int → Int} {G_near : Int → Int} {G_nearEnd : Int → Int} {B_chosen : Int → Int} {B_partOf : Int → Int} {B_rest : Int → Int} {B_unknowns : Int → Int} {B_partStart : Int → Int} {B_cells : Int → Int} {S_minedSet : Int → Int} {S_safeSet : Int → Int} {S_partSet : Int → Int} {S_tally : Int → Int} {S_askedTally : Int → Int} {S_groupOf : Int → Int} {S_groupSize : Int → Int} {S_links : Int → Int} {S_linkEnd : Int → Int} {S_pick : Int → Int} {S_groupMinedSet : Int → Int} {S_groupSafeSet : Int → Int} {O_sums : Int → Int64} {O_nextSums : Int → Int64} {R_found : Int → Int} {R_openEnds : Int → Int} {R_need : Int → Int} {R_waiting : Int → Int} {R_waits : Int → Int} {R_common : Int → Int} {R_met : Int → Int} {A_number : Int → Int} {Q_mined : Int → Int64} {Q_all : Int → Int64} {Q_choices : Int → Int64} {Q_term : Int → Int64} {Q_divisor : Int → Int64} {Q_spare : Int → Int64} {X_limbs : Int → Int64} {X_sum : Int → Int64} {Y_limbs : Int → Int64} {Y_sum : Int → Int64} (x1 : Int) (rx1 : inR x1) (post : (Int) → (Int) → (Int) → (Int) → (Int) → (Int) → (Int) → (Int) → (Int) → (Int → Int) → (Int → Int) → (Int → Int) → (Int → Int) → (Int → Int) → (Int → Int) → (Int → Int) → (Int → Int) → (Int → Int) → (Int → Int) → (Int → Int) → (Int → Int) → (Int → Int) → (Int → Int) → (Int → Int) → (Int → Int) → (Int → Int) → (Int → Int) → (Int → Int64) → (Int → Int64) → (Int → Int64) → (Int → Int64) → (Int → Int64) → (Int → Int64) → (Int → Int64) → (Int → Int64) → Prop) (px : Int → (Int) → (Int) → (Int) → (Int) → (Int) → (Int) → (Int) → (Int) → (Int) → (Int → Int) → (Int → Int) → (Int → Int) → (Int → Int) → (Int → Int) → (Int → Int) → (Int → Int) → (Int → Int) → (Int → Int) → (Int → Int) → (Int → Int) → (Int → Int) → (Int → Int) → (Int → Int) → (Int → Int) → (Int → Int) → (Int → Int) → (Int → Int) → (Int → Int64) → (Int → Int64) → (Int → Int64) → (Int → Int64) → (Int → Int64) → (Int → Int64) → (Int → Int64) → (Int → Int64) → Prop) (h : P_X11_weighUnknown post px F_mines G_size B_parts B_longest S_groups S_askedGroup S_taken X_low X_high Y_low Y_high F_number F_state F_cellsIn F_unknownNear F_hitNear G_near G_nearEnd B_chosen B_partOf B_rest B_unknowns B_partStart B_cells S_minedSet S_safeSet S_partSet S_tally S_askedTally S_groupOf S_groupSize S_links S_linkEnd S_pick S_groupMinedSet S_groupSafeSet Q_mined Q_all Q_choices Q_term X_limbs X_sum Y_limbs Y_sum x1) : xV l yX11_weighUnknown (Cond.code yX11_weighUnknown cX11_weighUnknown 2 none :: GT) ({ frames := 25, cells := 1, slots := 6, locals := 1500 } : Room) 1 6 [.ref (ad 0), .int (iI x1)] K ad (dW D_hasBoard D_beganBlank F_mines F_moves F_changes G_width G_height G_size B_parts B_longest S_groups S_askedGroup S_taken R_waitingCount R_metCount A_grade A_cell A_mined A_withTotal A_numbers X_low X_high Y_low Y_high F_mined F_number F_state F_cellsIn F_unknownNear F_hitNear F_moveStart F_changed F_waiting F_seen G_near G_nearEnd B_chosen B_partOf B_rest B_unknowns B_partStart B_cells S_minedSet S_safeSet S_partSet S_tally S_askedTally S_groupOf S_groupSize S_links S_linkEnd S_pick S_groupMinedSet S_groupSafeSet O_sums O_nextSums R_found R_openEnds R_need R_waiting R_waits R_common R_met A_number Q_mined Q_all Q_choices Q_term Q_divisor Q_spare X_limbs X_sum Y_limbs Y_sum) (fun u9 => ∃ B_parts9 B_longest9 S_groups9 S_askedGroup9 S_taken9 X_low9 X_high9 Y_low9 Y_high9 B_chosen9 B_partOf9 B_rest9 B_unknowns9 B_partStart9 B_cells9 S_minedSet9 S_safeSet9 S_partSet9 S_tally9 S_askedTally9 S_groupOf9 S_groupSize9 S_links9 S_linkEnd9 S_pick9 S_groupMinedSet9 S_groupSafeSet9 Q_mined9 Q_all9 Q_choices9 Q_term9 X_limbs9 X_sum9 Y_limbs9 Y_sum9, u9 = (dW D_hasBoard D_beganBlank F_mines F_moves F_changes G_width G_height G_size B_parts9 B_longest9 S_groups9 S_askedGroup9 S_taken9 R_waitingCount R_metCount A_grade A_cell A_mined A_withTotal A_numbers X_low9 X_high9 Y_low9 Y_high9 F_mined F_number F_state F_cellsIn F_unknownNear F_hitNear F_moveStart F_changed F_waiting F_seen G_near G_nearEnd B_chosen9 B_partOf9 B_rest9 B_unknowns9 B_partStart9 B_cells9 S_minedSet9 S_safeSet9 S_partSet9 S_tally9 S_askedTally9 S_groupOf9 S_groupSize9 S_links9 S_linkEnd9 S_pick9 S_groupMinedSet9 S_groupSafeSet9 O_sums O_nextSums R_found R_openEnds R_need R_waiting R_waits R_common R_met A_number Q_mined9 Q_all9 Q_choices9 Q_term9 Q_divisor Q_spare X_limbs9 X_sum9 Y_limbs9 Y_sum9) ∧ post B_parts9 B_longest9 S_groups9 S_askedGroup9 S_taken9 X_low9 X_high9 Y_low9 Y_high9 B_chosen9 B_partOf9 B_rest9 B_unknowns9 B_partStart9 B_cells9 S_minedSet9 S_safeSet9 S_partSet9 S_tally9 S_askedTally9 S_groupOf9 S_groupSize9 S_links9 S_linkEnd9 S_pick9 S_groupMinedSet9 S_groupSafeSet9 Q_mined9 Q_all9 Q_choices9 Q_term9 X_limbs9 X_sum9 Y_limbs9 Y_sum9) (fun k9 u9 => (k9 = 3) ∧ ∃ B_parts9 B_longest9 S_groups9 S_askedGroup9 S_taken9 X_low9 X_high9 Y_low9 Y_high9 B_chosen9 B_partOf9 B_rest9 B_unknowns9 B_partStart9 B_cells9 S_minedSet9 S_safeSet9 S_partSet9 S_tally9 S_askedTally9 S_groupOf9 S_groupSize9 S_links9 S_linkEnd9 S_pick9 S_groupMinedSet9 S_groupSafeSet9 Q_mined9 Q_all9 Q_choices9 Q_term9 X_limbs9 X_sum9 Y_limbs9 Y_sum9, u9 = (dW D_hasBoard D_beganBlank F_mines F_moves F_changes G_width G_height G_size B_parts9 B_longest9 S_groups9 S_askedGroup9 S_taken9 R_waitingCount R_metCount A_grade A_cell A_mined A_withTotal A_numbers X_low9 X_high9 Y_low9 Y_high9 F_mined F_number F_state F_cellsIn F_unknownNear F_hitNear F_moveStart F_changed F_waiting F_seen G_near G_nearEnd B_chosen9 B_partOf9 B_rest9 B_unknowns9 B_partStart9 B_cells9 S_minedSet9 S_safeSet9 S_partSet9 S_tally9 S_askedTally9 S_groupOf9 S_groupSize9 S_links9 S_linkEnd9 S_pick9 S_groupMinedSet9 S_groupSafeSet9 O_sums O_nextSums R_found R_openEnds R_need R_waiting R_waits R_common R_met A_number Q_mined9 Q_all9 Q_choices9 Q_term9 Q_divisor Q_spare X_limbs9 X_sum9 Y_limbs9 Y_sum9) ∧ px k9 B_parts9 B_longest9 S_groups9 S_askedGroup9 S_taken9 X_low9 X_high9 Y_low9 Y_high9 B_chosen9 B_partOf9 B_rest9 B_unknowns9 B_partStart9 B_cells9 S_minedSet9 S_safeSet9 S_partSet9 S_tally9 S_askedTally9 S_groupOf9 S_groupSize9 S_links9 S_linkEnd9 S_pick9 S_groupMinedSet9 S_groupSafeSet9 Q_mined9 Q_all9 Q_choices9 Q_term9 X_limbs9 X_sum9 Y_limbs9 Y_sum9) := by
  refine xV_of (lv0 := [(0, .ref (ad 0)), (1, .int (iI x1))]) hst (by decide) (Nat.le_of_ble_eq_true rfl) rfl (Nat.le_of_ble_eq_true rfl) rfl rfl ?_
  intro p e s m args below meth c Q A C T ret XO thr
  replace C : Cx p ({ frames := 25, cells := 1, slots := 6, locals := 1500 } : Room) m c 0 0 cX11_weighUnknown 2 s args RX11 K A := C
  unfold P_X11_weighUnknown at h
  refine wa_aload_n C 0 rfl dX11_weighUnknown_0 rfl ?_
  refine wa_getR C 0 0 dW_0 rfl rfl (by decide) okX11 gw_458 dX11_weighUnknown_1 ?_
  refine wa_iload_n C 1 rfl dX11_weighUnknown_4 rfl ?_
  refine wa_callVi C (k := 1) (As := [.int (iI x1)]) (rest := []) (c_X2_isUnknown l K ad x1 rx1 _ h) gw_665 gw_960 dW_1 rfl gw_663 gw_664 gw_2 q_X2_isUnknown rfl rfl rfl ⟨by decide, by decide⟩ rfl (Nat.le_of_ble_eq_true rfl) dX11_weighUnknown_5 (fun c_1 u9 rc_1 hp => ?_)
  obtain ⟨bc_1, rfl, h⟩ := hp
  replace h := h bc_1
  refine wa_if_eq C (tgt := 18) (inR_b bc_1) dX11_weighUnknown_8 (by decide) (fun c_2 => ?_) (fun c_2 => ?_)
  · replace h := h.1 c_2
    exact thr 3 (Nat.le_of_ble_eq_true rfl) (Nat.le_of_ble_eq_true rfl) xcl_3 xin_3 xat_3 (Nat.le_of_ble_eq_true rfl) dX11_weighUnknown_18 dX11_weighUnknown_21 dX11_weighUnknown_22 dX11_weighUnknown_25 ⟨by decide, _, _, _, _, _, _, _, _, _, _, _, _, _, _, _, _, _, _, _, _, _, _, _, _, _, _, _, _, _, _, _, _, _, _, _, rfl, h⟩
  · replace h := h.2 c_2
    refine wa_aload_n C 0 rfl dX11_weighUnknown_11 rfl ?_
    refine wa_callVi C (k := 0) (As := []) (rest := []) (c_X11_isBorderTooLong l K ad  _ h) gw_1080 gw_1077 dW_0 rfl gw_1079 gs_43 gw_1 q_X11_isBorderTooLong rfl rfl rfl ⟨by decide, by decide⟩ rfl (Nat.le_of_ble_eq_true rfl) dX11_weighUnknown_12 (fun c_3 u9 rc_3 hp => ?_)
    obtain ⟨bc_3, B_parts_4, B_longest_5, B_chosen_6, B_partOf_7, B_rest_8, B_unknowns_9, B_partStart_10, B_cells_11, rfl, h⟩ := hp
    replace h := h bc_3
    refine wa_if_eq C (tgt := 26) (inR_b bc_3) dX11_weighUnknown_15 (by decide) (fun c_12 => ?_) (fun c_12 => ?_)
    · replace h := h.1 c_12
      refine wa_aload_n C 0 rfl dX11_weighUnknown_26 rfl ?_
      refine wa_getR C 0 4 dW_0 rfl rfl (by decide) okX11 gw_462 dX11_weighUnknown_27 ?_
      refine wa_iload_n C 1 rfl dX11_weighUnknown_30 rfl ?_
      refine wa_callVv C (k := 8) (As := [.int (iI x1)]) (rest := []) (c_X5_weigh l K ad x1 rx1 _ h) gw_1085 gw_1082 dW_8 rfl gw_1083 gw_1084 gw_9 q_X5_weigh rfl rfl rfl ⟨by decide, by decide⟩ rfl (Nat.le_of_ble_eq_true rfl) dX11_weighUnknown_31 (fun u9 hp => ?_)
      obtain ⟨S_groups_13, S_askedGroup_14, S_taken_15, X_low_16, X_high_17, Y_low_18, Y_high_19, B_rest_20, B_unknowns_21, S_minedSet_22, S_safeSet_23, S_partSet_24, S_tally_25, S_askedTally_26, S_groupOf_27, S_groupSize_28, S_links_29, S_linkEnd_30, S_pick_31, S_groupMinedSet_32, S_groupSafeSet_33, Q_mined_34, Q_all_35, Q_choices_36, Q_term_37, X_limbs_38, X_sum_39, Y_limbs_40, Y_sum_41, rfl, h⟩ := hp
      refine wa_aload_n C 0 rfl dX11_weighUnknown_34 rfl ?_
      refine wa_getR C 0 4 dW_0 rfl rfl (by decide) okX11 gw_462 dX11_weighUnknown_35 ?_
      refine wa_getR C 8 1 dW_8 rfl rfl (by decide) okX5 gw_409 dX11_weighUnknown_38 ?_
      refine wa_callSi C (As := [.ref (ad 53)]) (rest := []) (c_X10_isZero_53 l K ad  _ h) gw_1151 gw_1149 gw_1150 gw_23 q_X10_isZero rfl rfl rfl ⟨by decide, by decide⟩ rfl (Nat.le_of_ble_eq_true rfl) dX11_weighUnknown_41 (fun c_42 u9 rc_42 hp => ?_)
      obtain ⟨bc_42, rfl, h⟩ := hp
      replace h := h bc_42
      refine wa_if_eq C (tgt := 55) (inR_b bc_42) dX11_weighUnknown_44 (by decide) (fun c_43 => ?_) (fun c_43 => ?_)
      · replace h := h.1 c_43
        exact ret (Nat.le_of_ble_eq_true rfl) (Nat.le_of_ble_eq_true rfl) dX11_weighUnknown_55 ⟨_, _, _, _, _, _, _, _, _, _, _, _, _, _, _, _, _, _, _, _, _, _, _, _, _, _, _, _, _, _, _, _, _, _, _, rfl, h⟩
      · replace h := h.2 c_43
        exact thr 3 (Nat.le_of_ble_eq_true rfl) (Nat.le_of_ble_eq_true rfl) xcl_3 xin_3 xat_3 (Nat.le_of_ble_eq_true rfl) dX11_weighUnknown_47 dX11_weighUnknown_50 dX11_weighUnknown_51 dX11_weighUnknown_54 ⟨by decide, _, _, _, _, _, _, _, _, _, _, _, _, _, _, _, _, _, _, _, _, _, _, _, _, _, _, _, _, _, _, _, _, _, _, _, rfl, h⟩
    · replace h := h.2 c_12
      exact thr 3 (Nat.le_of_ble_eq_true rfl) (Nat.le_of_ble_eq_true rfl) xcl_3 xin_3 xat_3 (Nat.le_of_ble_eq_true rfl) dX11_weighUnknown_18 dX11_weighUnknown_21 dX11_weighUnknown_22 dX11_weighUnknown_25 ⟨by decide, _, _, _, _, _, _, _, _, _, _, _, _, _, _, _, _, _, _, _, _, _, _, _, _, _, _, _, _, _, _, _, _, _, _, _, rfl, h⟩
theorem dX11_share_0 : decode cX11_share 0 = .ok (.aload_n 0, 1) := by decide +kernel
theorem dX11_share_1 : decode cX11_share 1 = .ok (.iload_n 1, 1) := by decide +kernel
theorem dX11_share_2 : decode cX11_share 2 = .ok (.iload_n 2, 1) := by decide +kernel
theorem dX11_share_3 : decode cX11_share 3 = .ok (.invokevirtual 107, 3) := by decide +kernel
theorem dX11_share_6 : decode cX11_share 6 = .ok (.istore 5, 2) := by decide +kernel
theorem dX11_share_8 : decode cX11_share 8 = .ok (.iload_n 3, 1) := by decide +kernel
theorem dX11_share_9 : decode cX11_share 9 = .ok (.ifCond .lt 20, 3) := by decide +kernel
theorem dX11_share_12 : decode cX11_share 12 = .ok (.iload_n 3, 1) := by decide +kernel
theorem dX11_share_13 : decode cX11_share 13 = .ok (.iconst 1, 1) := by decide +kernel
theorem dX11_share_14 : decode cX11_share 14 = .ok (.if_icmp .gt 15, 3) := by decide +kernel
theorem dX11_share_17 : decode cX11_share 17 = .ok (.iload 4, 2) := by decide +kernel
theorem dX11_share_19 : decode cX11_share 19 = .ok (.ifCond .lt 10, 3) := by decide +kernel
theorem dX11_share_22 : decode cX11_share 22 = .ok (.iload 4, 2) := by decide +kernel
theorem dX11_share_24 : decode cX11_share 24 = .ok (.bipush 8, 2) := by decide +kernel
theorem dX11_share_26 : decode cX11_share 26 = .ok (.if_icmp .lt 11, 3) := by decide +kernel
theorem dX11_share_29 : decode cX11_share 29 = .ok (.new 189, 3) := by decide +kernel
theorem dX11_share_32 : decode cX11_share 32 = .ok (.dup, 1) := by decide +kernel
theorem dX11_share_33 : decode cX11_share 33 = .ok (.invokespecial 191, 3) := by decide +kernel
theorem dX11_share_36 : decode cX11_share 36 = .ok (.athrow, 1) := by decide +kernel
theorem dX11_share_37 : decode cX11_share 37 = .ok (.aload_n 0, 1) := by decide +kernel
theorem dX11_share_38 : decode cX11_share 38 = .ok (.iload 5, 2) := by decide +kernel
theorem dX11_share_40 : decode cX11_share 40 = .ok (.invokevirtual 223, 3) := by decide +kernel
theorem dX11_share_43 : decode cX11_share 43 = .ok (.iload 4, 2) := by decide +kernel
theorem dX11_share_45 : decode cX11_share 45 = .ok (.bipush 6, 2) := by decide +kernel
theorem dX11_share_47 : decode cX11_share 47 = .ok (.if_icmp .lt 5, 3) := by decide +kernel
theorem dX11_share_50 : decode cX11_share 50 = .ok (.iconst 0, 1) := by decide +kernel
theorem dX11_share_51 : decode cX11_share 51 = .ok (.ireturn, 1) := by decide +kernel
theorem dX11_share_52 : decode cX11_share 52 = .ok (.aload_n 0, 1) := by decide +kernel
theorem dX11_share_53 : decode cX11_share 53 = .ok (.getfield 56, 3) := by decide +kernel
theorem dX11_share_56 : decode cX11_share 56 = .ok (.invokevirtual 226, 3) := by decide +kernel
theorem dX11_share_59 : decode cX11_share 59 = .ok (.iload_n 3, 1) := by decide +kernel
theorem dX11_share_60 : decode cX11_share 60 = .ok (.ifCond .ne 16, 3) := by decide +kernel
theorem dX11_share_63 : decode cX11_share 63 = .ok (.aload_n 0, 1) := by decide +kernel
theorem dX11_share_64 : decode cX11_share 64 = .ok (.getfield 56, 3) := by decide +kernel
theorem dX11_share_67 : decode cX11_share 67 = .ok (.getfield 229, 3) := by decide +kernel
theorem dX11_share_70 : decode cX11_share 70 = .ok (.iload 4, 2) := by decide +kernel
theorem dX11_share_72 : decode cX11_share 72 = .ok (.laload, 1) := by decide +kernel
theorem dX11_share_73 : decode cX11_share 73 = .ok (.goto 13, 3) := by decide +kernel
theorem dX11_share_76 : decode cX11_share 76 = .ok (.aload_n 0, 1) := by decide +kernel
theorem dX11_share_77 : decode cX11_share 77 = .ok (.getfield 56, 3) := by decide +kernel
theorem dX11_share_80 : decode cX11_share 80 = .ok (.getfield 212, 3) := by decide +kernel
theorem dX11_share_83 : decode cX11_share 83 = .ok (.iload 4, 2) := by decide +kernel
theorem dX11_share_85 : decode cX11_share 85 = .ok (.laload, 1) := by decide +kernel
theorem dX11_share_86 : decode cX11_share 86 = .ok (.l2i, 1) := by decide +kernel
theorem dX11_share_87 : decode cX11_share 87 = .ok (.ireturn, 1) := by decide +kernel
theorem q_X11_share : yX11_share.cls = RX11 ∧ yX11_share.cls ≠ "java/lang/invoke/MethodHandle" ∧ yX11_share.cls ≠ "java/lang/invoke/VarHandle" ∧ (parseMethodDescriptor yX11_share.desc).map (fun d => d.parameters.length) = some 4 := ⟨rfl, by decide, by decide, by decide +kernel⟩
set_option maxRecDepth 100000 in
set_option maxHeartbeats 4000000 in
theorem c_X11_share (l : Launch) (hst : l.stackTraces = false) (K : wK) (ad : Nat → Nat) {D_hasBoard : Int} {D_beganBlank : Int} {F_mines : Int} {F_moves : Int} {F_changes : Int} {G_width : Int} {G_height : Int} {G_size : Int} {B_parts : Int} {B_longest : Int} {S_groups : Int} {S_askedGroup : Int} {S_taken : Int} {R_waitingCount : Int} {R_metCount : Int} {A_grade : Int} {A_cell : Int} {A_mined : Int} {A_withTotal : Int} {A_numbers : Int} {X_low : Int} {X_high : Int} {Y_low : Int} {Y_high : Int} {F_mined : Int → Int} {F_number : Int → Int} {F_state : Int → Int} {F_cellsIn : Int → Int} {F_unknownNear : Int → Int} {F_hitNear : Int → Int} {F_moveStart : Int → Int} {F_changed : Int → Int} {F_waiting : Int → Int} {F_seen : Int → Int} {G_near : Int → Int} {G_nearEnd : Int → Int} {B_chosen : Int → Int} {B_partOf : Int → Int} {B_rest : Int → Int} {B_unknowns : Int → Int} {B_partStart : Int → Int} {B_cells : Int → Int} {S_minedSet : Int → Int} {S_safeSet : Int → Int} {S_partSet : Int → Int} {S_tally : Int → Int} {S_askedTally : Int → Int} {S_groupOf : Int → Int} {S_groupSize : Int → Int} {S_links : Int → Int} {S_linkEnd : Int → Int} {S_pick : Int → Int} {S_groupMinedSet : Int → Int} {S_groupSafeSet : Int → Int} {O_sums : Int → Int64} {O_nextSums : Int → Int64} {R_found : Int → Int} {R_openEnds : Int → Int} {R_need : Int → Int} {R_waiting : Int → Int} {R_waits : Int → Int} {R_common : Int → Int} {R_met : Int → Int} {A_number : Int → Int} {Q_mined : Int → Int64} {Q_all : Int → Int64} {Q_choices : Int → Int64} {Q_term : Int → Int64} {Q_divisor : Int → Int64} {Q_spare : Int → Int64} {X_limbs : Int → Int64} {X_sum : Int → Int64} {Y_limbs : Int → Int64} {Y_sum : Int → Int64} (x1 : Int) (x2 : Int) (x3 : Int) (x4 : Int) (rx1 : inR x1) (rx2 : inR x2) (rx3 : inR x3) (rx4 : inR x4) (post : Int → (Int) → (Int) → (Int) → (Int) → (Int) → (Int) → (Int) → (Int) → (Int) → (Int → Int) → (Int → Int) → (Int → Int) → (Int → Int) → (Int → Int) → (Int → Int) → (Int → Int) → (Int → Int) → (Int → Int) → (Int → Int) → (Int → Int) → (Int → Int) → (Int → Int) → (Int → Int) → (Int → Int) → (Int → Int) → (Int → Int) → (Int → Int) → (Int → Int64) → (Int → Int64) → (Int → Int64) → (Int → Int64) → (Int → Int64) → (Int → Int64) → (Int → Int64) → (Int → Int64) → (Int → Int64) → (Int → Int64) → Prop) (px : Int → (Int) → (Int) → (Int) → (Int) → (Int) → (Int) → (Int) → (Int) → (Int) → (Int → Int) → (Int → Int) → (Int → Int) → (Int → Int) → (Int → Int) → (Int → Int) → (Int → Int) → (Int → Int) → (Int → Int) → (Int → Int) → (Int → Int) → (Int → Int) → (Int → Int) → (Int → Int) → (Int → Int) → (Int → Int) → (Int → Int) → (Int → Int) → (Int → Int64) → (Int → Int64) → (Int → Int64) → (Int → Int64) → (Int → Int64) → (Int → Int64) → (Int → Int64) → (Int → Int64) → (Int → Int64) → (Int → Int64) → Prop) (h : P_X11_share post px D_hasBoard F_mines G_width G_height G_size B_parts B_longest S_groups S_askedGroup S_taken X_low X_high Y_low Y_high F_number F_state F_cellsIn F_unknownNear F_hitNear G_near G_nearEnd B_chosen B_partOf B_rest B_unknowns B_partStart B_cells S_minedSet S_safeSet S_partSet S_tally S_askedTally S_groupOf S_groupSize S_links S_linkEnd S_pick S_groupMinedSet S_groupSafeSet Q_mined Q_all Q_choices Q_term Q_divisor Q_spare X_limbs X_sum Y_limbs Y_sum x1 x2 x3 x4) : xI l yX11_share (Cond.code yX11_share cX11_share 6 (some .int) :: GT) ({ frames := 26, cells := 4, slots := 24, locals := 1560 } : Room) 4 24 [.ref (ad 0), .int (iI x1), .int (iI x2), .int (iI x3), .int (iI x4)] K ad (dW D_hasBoard D_beganBlank F_mines F_moves F_changes G_width G_height G_size B_parts B_longest S_groups S_askedGroup S_taken R_waitingCount R_metCount A_grade A_cell A_mined A_withTotal A_numbers X_low X_high Y_low Y_high F_mined F_number F_state F_cellsIn F_unknownNear F_hitNear F_moveStart F_changed F_waiting F_seen G_near G_nearEnd B_chosen B_partOf B_rest B_unknowns B_partStart B_cells S_minedSet S_safeSet S_partSet S_tally S_askedTally S_groupOf S_groupSize S_links S_linkEnd S_pick S_groupMinedSet S_groupSafeSet O_sums O_nextSums R_found R_openEnds R_need R_waiting R_waits R_common R_met A_number Q_mined Q_all Q_choices Q_term Q_divisor Q_spare X_limbs X_sum Y_limbs Y_sum) (fun z9 u9 => ∃ B_parts9 B_longest9 S_groups9 S_askedGroup9 S_taken9 X_low9 X_high9 Y_low9 Y_high9 B_chosen9 B_partOf9 B_rest9 B_unknowns9 B_partStart9 B_cells9 S_minedSet9 S_safeSet9 S_partSet9 S_tally9 S_askedTally9 S_groupOf9 S_groupSize9 S_links9 S_linkEnd9 S_pick9 S_groupMinedSet9 S_groupSafeSet9 Q_mined9 Q_all9 Q_choices9 Q_term9 Q_divisor9 Q_spare9 X_limbs9 X_sum9 Y_limbs9 Y_sum9, u9 = (dW D_hasBoard D_beganBlank F_mines F_moves F_changes G_width G_height G_size B_parts9 B_longest9 S_groups9 S_askedGroup9 S_taken9 R_waitingCount R_metCount A_grade A_cell A_mined A_withTotal A_numbers X_low9 X_high9 Y_low9 Y_high9 F_mined F_number F_state F_cellsIn F_unknownNear F_hitNear F_moveStart F_changed F_waiting F_seen G_near G_nearEnd B_chosen9 B_partOf9 B_rest9 B_unknowns9 B_partStart9 B_cells9 S_minedSet9 S_safeSet9 S_partSet9 S_tally9 S_askedTally9 S_groupOf9 S_groupSize9 S_links9 S_linkEnd9 S_pick9 S_groupMinedSet9 S_groupSafeSet9 O_sums O_nextSums R_found R_openEnds R_need R_waiting R_waits R_common R_met A_number Q_mined9 Q_all9 Q_choices9 Q_term9 Q_divisor9 Q_spare9 X_limbs9 X_sum9 Y_limbs9 Y_sum9) ∧ post z9 B_parts9 B_longest9 S_groups9 S_askedGroup9 S_taken9 X_low9 X_high9 Y_low9 Y_high9 B_chosen9 B_partOf9 B_rest9 B_unknowns9 B_partStart9 B_cells9 S_minedSet9 S_safeSet9 S_partSet9 S_tally9 S_askedTally9 S_groupOf9 S_groupSize9 S_links9 S_linkEnd9 S_pick9 S_groupMinedSet9 S_groupSafeSet9 Q_mined9 Q_all9 Q_choices9 Q_term9 Q_divisor9 Q_spare9 X_limbs9 X_sum9 Y_limbs9 Y_sum9) (fun k9 u9 => (k9 = 1 ∨ k9 = 2 ∨ k9 = 3) ∧ ∃ B_parts9 B_longest9 S_groups9 S_askedGroup9 S_taken9 X_low9 X_high9 Y_low9 Y_high9 B_chosen9 B_partOf9 B_rest9 B_unknowns9 B_partStart9 B_cells9 S_minedSet9 S_safeSet9 S_partSet9 S_tally9 S_askedTally9 S_groupOf9 S_groupSize9 S_links9 S_linkEnd9 S_pick9 S_groupMinedSet9 S_groupSafeSet9 Q_mined9 Q_all9 Q_choices9 Q_term9 Q_divisor9 Q_spare9 X_limbs9 X_sum9 Y_limbs9 Y_sum9, u9 = (dW D_hasBoard D_beganBlank F_mines F_moves F_changes G_width G_height G_size B_parts9 B_longest9 S_groups9 S_askedGroup9 S_taken9 R_waitingCount R_metCount A_grade A_cell A_mined A_withTotal A_numbers X_low9 X_high9 Y_low9 Y_high9 F_mined F_number F_state F_cellsIn F_unknownNear F_hitNear F_moveStart F_changed F_waiting F_seen G_near G_nearEnd B_chosen9 B_partOf9 B_rest9 B_unknowns9 B_partStart9 B_cells9 S_minedSet9 S_safeSet9 S_partSet9 S_tally9 S_askedTally9 S_groupOf9 S_groupSize9 S_links9 S_linkEnd9 S_pick9 S_groupMinedSet9 S_groupSafeSet9 O_sums O_nextSums R_found R_openEnds R_need R_waiting R_waits R_common R_met A_number Q_mined9 Q_all9 Q_choices9 Q_term9 Q_divisor9 Q_spare9 X_limbs9 X_sum9 Y_limbs9 Y_sum9) ∧ px k9 B_parts9 B_longest9 S_groups9 S_askedGroup9 S_taken9 X_low9 X_high9 Y_low9 Y_high9 B_chosen9 B_partOf9 B_rest9 B_unknowns9 B_partStart9 B_cells9 S_minedSet9 S_safeSet9 S_partSet9 S_tally9 S_askedTally9 S_groupOf9 S_groupSize9 S_links9 S_linkEnd9 S_pick9 S_groupMinedSet9 S_groupSafeSet9 Q_mined9 Q_all9 Q_choices9 Q_term9 Q_divisor9 Q_spare9 X_limbs9 X_sum9 Y_limbs9 Y_sum9) := by
  refine xI_of (lv0 := [(0, .ref (ad 0)), (1, .int (iI x1)), (2, .int (iI x2)), (3, .int (iI x3)), (4, .int (iI x4))]) hst (by decide) (Nat.le_of_ble_eq_true rfl) rfl (Nat.le_of_ble_eq_true rfl) rfl rfl ?_
  intro p e s m args below meth c Q A C T ret XO thr
  replace C : Cx p ({ frames := 26, cells := 4, slots := 24, locals := 1560 } : Room) m c 0 0 cX11_share 6 s args RX11 K A := C
  unfold P_X11_share at h
  refine wa_aload_n C 0 rfl dX11_share_0 rfl ?_
  refine wa_iload_n C 1 rfl dX11_share_1 rfl ?_
  refine wa_iload_n C 2 rfl dX11_share_2 rfl ?_
  refine wa_xVi C T XO (k := 0) (As := [.int (iI x1), .int (iI x2)]) (rest := []) (c_X11_cellAt l hst K ad x1 x2 rx1 rx2 _ _ h) gw_880 gw_877 dW_0 rfl gw_879 gs_38 gw_1 q_X11_cellAt rfl rfl rfl ⟨by decide, by decide⟩ rfl (Nat.le_of_ble_eq_true rfl) dX11_share_3 ⟨Nat.le_of_ble_eq_true rfl, Nat.le_of_ble_eq_true rfl⟩ ⟨Nat.le_of_ble_eq_true rfl, Nat.le_of_ble_eq_true rfl⟩ (fun z9 u9 hx9 => by obtain ⟨hk9, rfl, h9⟩ := hx9; exact ⟨by omega, _, _, _, _, _, _, _, _, _, _, _, _, _, _, _, _, _, _, _, _, _, _, _, _, _, _, _, _, _, _, _, _, _, _, _, _, _, rfl, h9⟩) (fun c_1 u9 rc_1 hp => ?_)
  replace C := C.more (cells' := 2) (slots' := 12) (Nat.le_of_ble_eq_true rfl) (Nat.le_of_ble_eq_true rfl)
  obtain ⟨rfl, h⟩ := hp
  replace h := h rc_1
  refine wa_istore C dX11_share_6 (by decide) rfl ?_
  refine wa_iload_n C 4 rfl dX11_share_8 rfl ?_
  refine wa_if_lt C (tgt := 29) rx3 dX11_share_9 (by decide) (fun c_3 => ?_) (fun c_3 => ?_)
  · replace h := h.1 c_3
    exact thr 2 (Nat.le_of_ble_eq_true rfl) (Nat.le_of_ble_eq_true rfl) xcl_2 xin_2 xat_2 (Nat.le_of_ble_eq_true rfl) dX11_share_29 dX11_share_32 dX11_share_33 dX11_share_36 ⟨by decide, _, _, _, _, _, _, _, _, _, _, _, _, _, _, _, _, _, _, _, _, _, _, _, _, _, _, _, _, _, _, _, _, _, _, _, _, _, rfl, h⟩
  · replace h := h.2 c_3
    refine wa_iload_n C 4 rfl dX11_share_12 rfl ?_
    refine wa_iconst C (z := 1) dX11_share_13 rfl ?_
    refine wa_icmp_gt C (tgt := 29) rx3 (inR_k 1 rfl) dX11_share_14 (by decide) (fun c_4 => ?_) (fun c_4 => ?_)
    · replace h := h.1 c_4
      exact thr 2 (Nat.le_of_ble_eq_true rfl) (Nat.le_of_ble_eq_true rfl) xcl_2 xin_2 xat_2 (Nat.le_of_ble_eq_true rfl) dX11_share_29 dX11_share_32 dX11_share_33 dX11_share_36 ⟨by decide, _, _, _, _, _, _, _, _, _, _, _, _, _, _, _, _, _, _, _, _, _, _, _, _, _, _, _, _, _, _, _, _, _, _, _, _, _, rfl, h⟩
    · replace h := h.2 c_4
      refine wa_iload C 5 rfl dX11_share_17 ?_
      refine wa_if_lt C (tgt := 29) rx4 dX11_share_19 (by decide) (fun c_5 => ?_) (fun c_5 => ?_)
      · replace h := h.1 c_5
        exact thr 2 (Nat.le_of_ble_eq_true rfl) (Nat.le_of_ble_eq_true rfl) xcl_2 xin_2 xat_2 (Nat.le_of_ble_eq_true rfl) dX11_share_29 dX11_share_32 dX11_share_33 dX11_share_36 ⟨by decide, _, _, _, _, _, _, _, _, _, _, _, _, _, _, _, _, _, _, _, _, _, _, _, _, _, _, _, _, _, _, _, _, _, _, _, _, _, rfl, h⟩
      · replace h := h.2 c_5
        refine wa_iload C 5 rfl dX11_share_22 ?_
        refine wa_bipush C (z := 8) dX11_share_24 (by decide) ?_
        refine wa_icmp_lt C (tgt := 37) rx4 (inR_k 8 rfl) dX11_share_26 (by decide) (fun c_6 => ?_) (fun c_6 => ?_)
        · replace h := h.1 c_6
          refine wa_aload_n C 1 rfl dX11_share_37 rfl ?_
          refine wa_iload C 0 rfl dX11_share_38 ?_
          refine wa_xVv C T XO (k := 0) (As := [.int (iI c_1)]) (rest := []) (c_X11_weighUnknown l hst K ad c_1 rc_1 _ _ h) gw_1148 gw_1145 dW_0 rfl gw_1147 gs_46 gw_1 q_X11_weighUnknown rfl rfl rfl ⟨by decide, by decide⟩ rfl (Nat.le_of_ble_eq_true rfl) dX11_share_40 ⟨Nat.le_of_ble_eq_true rfl, Nat.le_of_ble_eq_true rfl⟩ ⟨Nat.le_of_ble_eq_true rfl, Nat.le_of_ble_eq_true rfl⟩ (fun z9 u9 hx9 => by obtain ⟨hk9, v9_0, v9_1, v9_2, v9_3, v9_4, v9_5, v9_6, v9_7, v9_8, v9_9, v9_10, v9_11, v9_12, v9_13, v9_14, v9_15, v9_16, v9_17, v9_18, v9_19, v9_20, v9_21, v9_22, v9_23, v9_24, v9_25, v9_26, v9_27, v9_28, v9_29, v9_30, v9_31, v9_32, v9_33, v9_34, rfl, h9⟩ := hx9; exact ⟨by omega, _, _, _, _, _, _, _, _, _, _, _, _, _, _, _, _, _, _, _, _, _, _, _, _, _, _, _, _, _, _, _, _, _, _, _, _, _, rfl, h9⟩) (fun u9 hp => ?_)
          replace C := C.more (cells' := 3) (slots' := 18) (Nat.le_of_ble_eq_true rfl) (Nat.le_of_ble_eq_true rfl)
          obtain ⟨B_parts_7, B_longest_8, S_groups_9, S_askedGroup_10, S_taken_11, X_low_12, X_high_13, Y_low_14, Y_high_15, B_chosen_16, B_partOf_17, B_rest_18, B_unknowns_19, B_partStart_20, B_cells_21, S_minedSet_22, S_safeSet_23, S_partSet_24, S_tally_25, S_askedTally_26, S_groupOf_27, S_groupSize_28, S_links_29, S_linkEnd_30, S_pick_31, S_groupMinedSet_32, S_groupSafeSet_33, Q_mined_34, Q_all_35, Q_choices_36, Q_term_37, X_limbs_38, X_sum_39, Y_limbs_40, Y_sum_41, rfl, h⟩ := hp
          refine wa_iload C 5 rfl dX11_share_43 ?_
          refine wa_bipush C (z := 6) dX11_share_45 (by decide) ?_
          refine wa_icmp_lt C (tgt := 52) rx4 (inR_k 6 rfl) dX11_share_47 (by decide) (fun c_78 => ?_) (fun c_78 => ?_)
          · replace h := h.1 c_78
            refine wa_aload_n C 1 rfl dX11_share_52 rfl ?_
            refine wa_getR C 0 4 dW_0 rfl rfl (by decide) okX11 gw_462 dX11_share_53 ?_
            refine wa_callVv C (k := 8) (As := []) (rest := []) (c_X5_reduce l K ad  _ h) gw_1155 gw_1152 dW_8 rfl gw_1153 gw_1154 gw_9 q_X5_reduce rfl rfl rfl ⟨by decide, by decide⟩ rfl (Nat.le_of_ble_eq_true rfl) dX11_share_56 (fun u9 hp => ?_)
            obtain ⟨Q_mined_79, Q_all_80, Q_term_81, Q_divisor_82, Q_spare_83, rfl, h⟩ := hp
            refine wa_iload_n C 4 rfl dX11_share_59 rfl ?_
            obtain ⟨J_84, h, hJ_84⟩ := h
            have k_85 : ∀ (z_86 : Int64), J_84 z_86 → WA p l e ({ frames := 26, cells := 4, slots := 24, locals := 1560 } : Room) s m args below meth c 3 18 Q K ad 6 A 86 [] [.long z_86] (dW D_hasBoard D_beganBlank F_mines F_moves F_changes G_width G_height G_size B_parts_7 B_longest_8 S_groups_9 S_askedGroup_10 S_taken_11 R_waitingCount R_metCount A_grade A_cell A_mined A_withTotal A_numbers X_low_12 X_high_13 Y_low_14 Y_high_15 F_mined F_number F_state F_cellsIn F_unknownNear F_hitNear F_moveStart F_changed F_waiting F_seen G_near G_nearEnd B_chosen_16 B_partOf_17 B_rest_18 B_unknowns_19 B_partStart_20 B_cells_21 S_minedSet_22 S_safeSet_23 S_partSet_24 S_tally_25 S_askedTally_26 S_groupOf_27 S_groupSize_28 S_links_29 S_linkEnd_30 S_pick_31 S_groupMinedSet_32 S_groupSafeSet_33 O_sums O_nextSums R_found R_openEnds R_need R_waiting R_waits R_common R_met A_number Q_mined_79 Q_all_80 Q_choices_36 Q_term_81 Q_divisor_82 Q_spare_83 X_limbs_38 X_sum_39 Y_limbs_40 Y_sum_41) := by
              intro z_86 h
              replace h := hJ_84 z_86 h
              refine wa_l2i C dX11_share_86 ?_
              exact ret (Nat.le_of_ble_eq_true rfl) (Nat.le_of_ble_eq_true rfl) dX11_share_87 (l2I_r _) ⟨_, _, _, _, _, _, _, _, _, _, _, _, _, _, _, _, _, _, _, _, _, _, _, _, _, _, _, _, _, _, _, _, _, _, _, _, _, rfl, h⟩
            refine wa_if_ne C (tgt := 76) rx3 dX11_share_60 (by decide) (fun c_87 => ?_) (fun c_87 => ?_)
            · replace h := h.1 c_87
              refine wa_aload_n C 1 rfl dX11_share_76 rfl ?_
              refine wa_getR C 0 4 dW_0 rfl rfl (by decide) okX11 gw_462 dX11_share_77 ?_
              refine wa_getR C 8 1 dW_8 rfl rfl (by decide) okX5 gw_409 dX11_share_80 ?_
              refine wa_iload C 5 rfl dX11_share_83 ?_
              obtain ⟨t_88, h⟩ := h
              refine wa_lald C 53 dW_53 dX11_share_85 t_88.1 t_88.2 (fun v_89 ev_89 => ?_)
              replace h := h v_89 ev_89
              refine wa_sub C [] rfl ?_
              exact k_85 v_89 h
            · replace h := h.2 c_87
              refine wa_aload_n C 1 rfl dX11_share_63 rfl ?_
              refine wa_getR C 0 4 dW_0 rfl rfl (by decide) okX11 gw_462 dX11_share_64 ?_
              refine wa_getR C 8 0 dW_8 rfl rfl (by decide) okX5 gw_407 dX11_share_67 ?_
              refine wa_iload C 5 rfl dX11_share_70 ?_
              obtain ⟨t_90, h⟩ := h
              refine wa_lald C 52 dW_52 dX11_share_72 t_90.1 t_90.2 (fun v_91 ev_91 => ?_)
              replace h := h v_91 ev_91
              refine wa_goto C (tgt := 86) dX11_share_73 (by decide) ?_
              refine wa_sub C [] rfl ?_
              exact k_85 v_91 h
          · replace h := h.2 c_78
            refine wa_iconst C (z := 0) dX11_share_50 rfl ?_
            exact ret (Nat.le_of_ble_eq_true rfl) (Nat.le_of_ble_eq_true rfl) dX11_share_51 (inR_k 0 rfl) ⟨_, _, _, _, _, _, _, _, _, _, _, _, _, _, _, _, _, _, _, _, _, _, _, _, _, _, _, _, _, _, _, _, _, _, _, _, _, rfl, h⟩
        · replace h := h.2 c_6
          exact thr 2 (Nat.le_of_ble_eq_true rfl) (Nat.le_of_ble_eq_true rfl) xcl_2 xin_2 xat_2 (Nat.le_of_ble_eq_true rfl) dX11_share_29 dX11_share_32 dX11_share_33 dX11_share_36 ⟨by decide, _, _, _, _, _, _, _, _, _, _, _, _, _, _, _, _, _, _, _, _, _, _, _, _, _, _, _, _, _, _, _, _, _, _, _, _, _, rfl, h⟩
theorem dX11_permille_0 : decode cX11_permille 0 = .ok (.aload_n 0, 1) := by decide +kernel
theorem dX11_permille_1 : decode cX11_permille 1 = .ok (.aload_n 0, 1) := by decide +kernel
theorem dX11_permille_2 : decode cX11_permille 2 = .ok (.iload_n 1, 1) := by decide +kernel
theorem dX11_permille_3 : decode cX11_permille 3 = .ok (.iload_n 2, 1) := by decide +kernel
theorem dX11_permille_4 : decode cX11_permille 4 = .ok (.invokevirtual 107, 3) := by decide +kernel
theorem dX11_permille_7 : decode cX11_permille 7 = .ok (.invokevirtual 223, 3) := by decide +kernel
theorem dX11_permille_10 : decode cX11_permille 10 = .ok (.aload_n 0, 1) := by decide +kernel
theorem dX11_permille_11 : decode cX11_permille 11 = .ok (.getfield 56, 3) := by decide +kernel
theorem dX11_permille_14 : decode cX11_permille 14 = .ok (.invokevirtual 231, 3) := by decide +kernel
theorem dX11_permille_17 : decode cX11_permille 17 = .ok (.ireturn, 1) := by decide +kernel
theorem q_X11_permille : yX11_permille.cls = RX11 ∧ yX11_permille.cls ≠ "java/lang/invoke/MethodHandle" ∧ yX11_permille.cls ≠ "java/lang/invoke/VarHandle" ∧ (parseMethodDescriptor yX11_permille.desc).map (fun d => d.parameters.length) = some 2 := ⟨rfl, by decide, by decide, by decide +kernel⟩
set_option maxRecDepth 100000 in
set_option maxHeartbeats 4000000 in
theorem c_X11_permille (l : Launch) (hst : l.stackTraces = false) (K : wK) (ad : Nat → Nat) {D_hasBoard : Int} {D_beganBlank : Int} {F_mines : Int} {F_moves : Int} {F_changes : Int} {G_width : Int} {G_height : Int} {G_size : Int} {B_parts : Int} {B_longest : Int} {S_groups : Int} {S_askedGroup : Int} {S_taken : Int} {R_waitingCount : Int} {R_metCount : Int} {A_grade : Int} {A_cell : Int} {A_mined : Int} {A_withTotal : Int} {A_numbers : Int} {X_low : Int} {X_high : Int} {Y_low : Int} {Y_high : Int} {F_mined : Int → Int} {F_number : Int → Int} {F_state : Int → Int} {F_cellsIn : Int → Int} {F_unknownNear : Int → Int} {F_hitNear : Int → Int} {F_moveStart : Int → Int} {F_changed : Int → Int} {F_waiting : Int → Int} {F_seen : Int → Int} {G_near : Int → Int} {G_nearEnd : Int → Int} {B_chosen : Int → Int} {B_partOf : Int → Int} {B_rest : Int → Int} {B_unknowns : Int → Int} {B_partStart : Int → Int} {B_cells : Int → Int} {S_minedSet : Int → Int} {S_safeSet : Int → Int} {S_partSet : Int → Int} {S_tally : Int → Int} {S_askedTally : Int → Int} {S_groupOf : Int → Int} {S_groupSize : Int → Int} {S_links : Int → Int} {S_linkEnd : Int → Int} {S_pick : Int → Int} {S_groupMinedSet : Int → Int} {S_groupSafeSet : Int → Int} {O_sums : Int → Int64} {O_nextSums : Int → Int64} {R_found : Int → Int} {R_openEnds : Int → Int} {R_need : Int → Int} {R_waiting : Int → Int} {R_waits : Int → Int} {R_common : Int → Int} {R_met : Int → Int} {A_number : Int → Int} {Q_mined : Int → Int64} {Q_all : Int → Int64} {Q_choices : Int → Int64} {Q_term : Int → Int64} {Q_divisor : Int → Int64} {Q_spare : Int → Int64} {X_limbs : Int → Int64} {X_sum : Int → Int64} {Y_limbs : Int → Int64} {Y_sum : Int → Int64} (x1 : Int) (x2 : Int) (rx1 : inR x1) (rx2 : inR x2) (post : Int → (Int) → (Int) → (Int) → (Int) → (Int) → (Int) → (Int) → (Int) → (Int) → (Int → Int) → (Int → Int) → (Int → Int) → (Int → Int) → (Int → Int) → (Int → Int) → (Int → Int) → (Int → Int) → (Int → Int) → (Int → Int) → (Int → Int) → (Int → Int) → (Int → Int) → (Int → Int) → (Int → Int) → (Int → Int) → (Int → Int) → (Int → Int) → (Int → Int64) → (Int → Int64) → (Int → Int64) → (Int → Int64) → (Int → Int64) → (Int → Int64) → (Int → Int64) → (Int → Int64) → (Int → Int64) → Prop) (px : Int → (Int) → (Int) → (Int) → (Int) → (Int) → (Int) → (Int) → (Int) → (Int) → (Int → Int) → (Int → Int) → (Int → Int) → (Int → Int) → (Int → Int) → (Int → Int) → (Int → Int) → (Int → Int) → (Int → Int) → (Int → Int) → (Int → Int) → (Int → Int) → (Int → Int) → (Int → Int) → (Int → Int) → (Int → Int) → (Int → Int) → (Int → Int) → (Int → Int64) → (Int → Int64) → (Int → Int64) → (Int → Int64) → (Int → Int64) → (Int → Int64) → (Int → Int64) → (Int → Int64) → (Int → Int64) → Prop) (h : P_X11_permille post px D_hasBoard F_mines G_width G_height G_size B_parts B_longest S_groups S_askedGroup S_taken X_low X_high Y_low Y_high F_number F_state F_cellsIn F_unknownNear F_hitNear G_near G_nearEnd B_chosen B_partOf B_rest B_unknowns B_partStart B_cells S_minedSet S_safeSet S_partSet S_tally S_askedTally S_groupOf S_groupSize S_links S_linkEnd S_pick S_groupMinedSet S_groupSafeSet Q_mined Q_all Q_choices Q_term Q_spare X_limbs X_sum Y_limbs Y_sum x1 x2) : xI l yX11_permille (Cond.code yX11_permille cX11_permille 3 (some .int) :: GT) ({ frames := 26, cells := 3, slots := 18, locals := 1560 } : Room) 3 18 [.ref (ad 0), .int (iI x1), .int (iI x2)] K ad (dW D_hasBoard D_beganBlank F_mines F_moves F_changes G_width G_height G_size B_parts B_longest S_groups S_askedGroup S_taken R_waitingCount R_metCount A_grade A_cell A_mined A_withTotal A_numbers X_low X_high Y_low Y_high F_mined F_number F_state F_cellsIn F_unknownNear F_hitNear F_moveStart F_changed F_waiting F_seen G_near G_nearEnd B_chosen B_partOf B_rest B_unknowns B_partStart B_cells S_minedSet S_safeSet S_partSet S_tally S_askedTally S_groupOf S_groupSize S_links S_linkEnd S_pick S_groupMinedSet S_groupSafeSet O_sums O_nextSums R_found R_openEnds R_need R_waiting R_waits R_common R_met A_number Q_mined Q_all Q_choices Q_term Q_divisor Q_spare X_limbs X_sum Y_limbs Y_sum) (fun z9 u9 => ∃ B_parts9 B_longest9 S_groups9 S_askedGroup9 S_taken9 X_low9 X_high9 Y_low9 Y_high9 B_chosen9 B_partOf9 B_rest9 B_unknowns9 B_partStart9 B_cells9 S_minedSet9 S_safeSet9 S_partSet9 S_tally9 S_askedTally9 S_groupOf9 S_groupSize9 S_links9 S_linkEnd9 S_pick9 S_groupMinedSet9 S_groupSafeSet9 Q_mined9 Q_all9 Q_choices9 Q_term9 Q_spare9 X_limbs9 X_sum9 Y_limbs9 Y_sum9, u9 = (dW D_hasBoard D_beganBlank F_mines F_moves F_changes G_width G_height G_size B_parts9 B_longest9 S_groups9 S_askedGroup9 S_taken9 R_waitingCount R_metCount A_grade A_cell A_mined A_withTotal A_numbers X_low9 X_high9 Y_low9 Y_high9 F_mined F_number F_state F_cellsIn F_unknownNear F_hitNear F_moveStart F_changed F_waiting F_seen G_near G_nearEnd B_chosen9 B_partOf9 B_rest9 B_unknowns9 B_partStart9 B_cells9 S_minedSet9 S_safeSet9 S_partSet9 S_tally9 S_askedTally9 S_groupOf9 S_groupSize9 S_links9 S_linkEnd9 S_pick9 S_groupMinedSet9 S_groupSafeSet9 O_sums O_nextSums R_found R_openEnds R_need R_waiting R_waits R_common R_met A_number Q_mined9 Q_all9 Q_choices9 Q_term9 Q_divisor Q_spare9 X_limbs9 X_sum9 Y_limbs9 Y_sum9) ∧ post z9 B_parts9 B_longest9 S_groups9 S_askedGroup9 S_taken9 X_low9 X_high9 Y_low9 Y_high9 B_chosen9 B_partOf9 B_rest9 B_unknowns9 B_partStart9 B_cells9 S_minedSet9 S_safeSet9 S_partSet9 S_tally9 S_askedTally9 S_groupOf9 S_groupSize9 S_links9 S_linkEnd9 S_pick9 S_groupMinedSet9 S_groupSafeSet9 Q_mined9 Q_all9 Q_choices9 Q_term9 Q_spare9 X_limbs9 X_sum9 Y_limbs9 Y_sum9) (fun k9 u9 => (k9 = 1 ∨ k9 = 2 ∨ k9 = 3) ∧ ∃ B_parts9 B_longest9 S_groups9 S_askedGroup9 S_taken9 X_low9 X_high9 Y_low9 Y_high9 B_chosen9 B_partOf9 B_rest9 B_unknowns9 B_partStart9 B_cells9 S_minedSet9 S_safeSet9 S_partSet9 S_tally9 S_askedTally9 S_groupOf9 S_groupSize9 S_links9 S_linkEnd9 S_pick9 S_groupMinedSet9 S_groupSafeSet9 Q_mined9 Q_all9 Q_choices9 Q_term9 Q_spare9 X_limbs9 X_sum9 Y_limbs9 Y_sum9, u9 = (dW D_hasBoard D_beganBlank F_mines F_moves F_changes G_width G_height G_size B_parts9 B_longest9 S_groups9 S_askedGroup9 S_taken9 R_waitingCount R_metCount A_grade A_cell A_mined A_withTotal A_numbers X_low9 X_high9 Y_low9 Y_high9 F_mined F_number F_state F_cellsIn F_unknownNear F_hitNear F_moveStart F_changed F_waiting F_seen G_near G_nearEnd B_chosen9 B_partOf9 B_rest9 B_unknowns9 B_partStart9 B_cells9 S_minedSet9 S_safeSet9 S_partSet9 S_tally9 S_askedTally9 S_groupOf9 S_groupSize9 S_links9 S_linkEnd9 S_pick9 S_groupMinedSet9 S_groupSafeSet9 O_sums O_nextSums R_found R_openEnds R_need R_waiting R_waits R_common R_met A_number Q_mined9 Q_all9 Q_choices9 Q_term9 Q_divisor Q_spare9 X_limbs9 X_sum9 Y_limbs9 Y_sum9) ∧ px k9 B_parts9 B_longest9 S_groups9 S_askedGroup9 S_taken9 X_low9 X_high9 Y_low9 Y_high9 B_chosen9 B_partOf9 B_rest9 B_unknowns9 B_partStart9 B_cells9 S_minedSet9 S_safeSet9 S_partSet9 S_tally9 S_askedTally9 S_groupOf9 S_groupSize9 S_links9 S_linkEnd9 S_pick9 S_groupMinedSet9 S_groupSafeSet9 Q_mined9 Q_all9 Q_choices9 Q_term9 Q_spare9 X_limbs9 X_sum9 Y_limbs9 Y_sum9) := by
  refine xI_of (lv0 := [(0, .ref (ad 0)), (1, .int (iI x1)), (2, .int (iI x2))]) hst (by decide) (Nat.le_of_ble_eq_true rfl) rfl (Nat.le_of_ble_eq_true rfl) rfl rfl ?_
  intro p e s m args below meth c Q A C T ret XO thr
  replace C : Cx p ({ frames := 26, cells := 3, slots := 18, locals := 1560 } : Room) m c 0 0 cX11_permille 3 s args RX11 K A := C
  unfold P_X11_permille at h
  refine wa_aload_n C 0 rfl dX11_permille_0 rfl ?_
  refine wa_aload_n C 0 rfl dX11_permille_1 rfl ?_
  refine wa_iload_n C 1 rfl dX11_permille_2 rfl ?_
  refine wa_iload_n C 2 rfl dX11_permille_3 rfl ?_
  refine wa_xVi C T XO (k := 0) (As := [.int (iI x1), .int (iI x2)]) (rest := [.ref (ad 0)]) (c_X11_cellAt l hst K ad x1 x2 rx1 rx2 _ _ h) gw_880 gw_877 dW_0 rfl gw_879 gs_38 gw_1 q_X11_cellAt rfl rfl rfl ⟨by decide, by decide⟩ rfl (Nat.le_of_ble_eq_true rfl) dX11_permille_4 ⟨Nat.le_of_ble_eq_true rfl, Nat.le_of_ble_eq_true rfl⟩ ⟨Nat.le_of_ble_eq_true rfl, Nat.le_of_ble_eq_true rfl⟩ (fun z9 u9 hx9 => by obtain ⟨hk9, rfl, h9⟩ := hx9; exact ⟨by omega, _, _, _, _, _, _, _, _, _, _, _, _, _, _, _, _, _, _, _, _, _, _, _, _, _, _, _, _, _, _, _, _, _, _, _, _, rfl, h9⟩) (fun c_1 u9 rc_1 hp => ?_)
  replace C := C.more (cells' := 2) (slots' := 12) (Nat.le_of_ble_eq_true rfl) (Nat.le_of_ble_eq_true rfl)
  obtain ⟨rfl, h⟩ := hp
  replace h := h rc_1
  refine wa_xVv C T XO (k := 0) (As := [.int (iI c_1)]) (rest := []) (c_X11_weighUnknown l hst K ad c_1 rc_1 _ _ h) gw_1148 gw_1145 dW_0 rfl gw_1147 gs_46 gw_1 q_X11_weighUnknown rfl rfl rfl ⟨by decide, by decide⟩ rfl (Nat.le_of_ble_eq_true rfl) dX11_permille_7 ⟨Nat.le_of_ble_eq_true rfl, Nat.le_of_ble_eq_true rfl⟩ ⟨Nat.le_of_ble_eq_true rfl, Nat.le_of_ble_eq_true rfl⟩ (fun z9 u9 hx9 => by obtain ⟨hk9, v9_0, v9_1, v9_2, v9_3, v9_4, v9_5, v9_6, v9_7, v9_8, v9_9, v9_10, v9_11, v9_12, v9_13, v9_14, v9_15, v9_16, v9_17, v9_18, v9_19, v9_20, v9_21, v9_22, v9_23, v9_24, v9_25, v9_26, v9_27, v9_28, v9_29, v9_30, v9_31, v9_32, v9_33, v9_34, rfl, h9⟩ := hx9; exact ⟨by omega, _, _, _, _, _, _, _, _, _, _, _, _, _, _, _, _, _, _, _, _, _, _, _, _, _, _, _, _, _, _, _, _, _, _, _, _, rfl, h9⟩) (fun u9 hp => ?_)
  replace C := C.more (cells' := 3) (slots' := 18) (Nat.le_of_ble_eq_true rfl) (Nat.le_of_ble_eq_true rfl)
  obtain ⟨B_parts_3, B_longest_4, S_groups_5, S_askedGroup_6, S_taken_7, X_low_8, X_high_9, Y_low_10, Y_high_11, B_chosen_12, B_partOf_13, B_rest_14, B_unknowns_15, B_partStart_16, B_cells_17, S_minedSet_18, S_safeSet_19, S_partSet_20, S_tally_21, S_askedTally_22, S_groupOf_23, S_groupSize_24, S_links_25, S_linkEnd_26, S_pick_27, S_groupMinedSet_28, S_groupSafeSet_29, Q_mined_30, Q_all_31, Q_choices_32, Q_term_33, X_limbs_34, X_sum_35, Y_limbs_36, Y_sum_37, rfl, h⟩ := hp
  refine wa_aload_n C 0 rfl dX11_permille_10 rfl ?_
  refine wa_getR C 0 4 dW_0 rfl rfl (by decide) okX11 gw_462 dX11_permille_11 ?_
  refine wa_callVi C (k := 8) (As := []) (rest := []) (c_X5_ofThousand l K ad  _ h) gw_1199 gw_1196 dW_8 rfl gw_1197 gw_1198 gw_9 q_X5_ofThousand rfl rfl rfl ⟨by decide, by decide⟩ rfl (Nat.le_of_ble_eq_true rfl) dX11_permille_14 (fun c_74 u9 rc_74 hp => ?_)
  obtain ⟨Q_mined_75, Q_term_76, Q_spare_77, rfl, h⟩ := hp
  replace h := h rc_74
  exact ret (Nat.le_of_ble_eq_true rfl) (Nat.le_of_ble_eq_true rfl) dX11_permille_17 rc_74 ⟨_, _, _, _, _, _, _, _, _, _, _, _, _, _, _, _, _, _, _, _, _, _, _, _, _, _, _, _, _, _, _, _, _, _, _, _, rfl, h⟩
theorem dX11_count_0 : decode cX11_count 0 = .ok (.aload_n 0, 1) := by decide +kernel
theorem dX11_count_1 : decode cX11_count 1 = .ok (.invokevirtual 163, 3) := by decide +kernel
theorem dX11_count_4 : decode cX11_count 4 = .ok (.iload_n 1, 1) := by decide +kernel
theorem dX11_count_5 : decode cX11_count 5 = .ok (.tableswitch 141 0 8 #[51, 62, 73, 81, 91, 101, 109, 117, 133], 51) := by decide +kernel
theorem dX11_count_56 : decode cX11_count 56 = .ok (.aload_n 0, 1) := by decide +kernel
theorem dX11_count_57 : decode cX11_count 57 = .ok (.getfield 12, 3) := by decide +kernel
theorem dX11_count_60 : decode cX11_count 60 = .ok (.getfield 234, 3) := by decide +kernel
theorem dX11_count_63 : decode cX11_count 63 = .ok (.getfield 238, 3) := by decide +kernel
theorem dX11_count_66 : decode cX11_count 66 = .ok (.ireturn, 1) := by decide +kernel
theorem dX11_count_67 : decode cX11_count 67 = .ok (.aload_n 0, 1) := by decide +kernel
theorem dX11_count_68 : decode cX11_count 68 = .ok (.getfield 12, 3) := by decide +kernel
theorem dX11_count_71 : decode cX11_count 71 = .ok (.getfield 234, 3) := by decide +kernel
theorem dX11_count_74 : decode cX11_count 74 = .ok (.getfield 241, 3) := by decide +kernel
theorem dX11_count_77 : decode cX11_count 77 = .ok (.ireturn, 1) := by decide +kernel
theorem dX11_count_78 : decode cX11_count 78 = .ok (.aload_n 0, 1) := by decide +kernel
theorem dX11_count_79 : decode cX11_count 79 = .ok (.getfield 12, 3) := by decide +kernel
theorem dX11_count_82 : decode cX11_count 82 = .ok (.getfield 122, 3) := by decide +kernel
theorem dX11_count_85 : decode cX11_count 85 = .ok (.ireturn, 1) := by decide +kernel
theorem dX11_count_86 : decode cX11_count 86 = .ok (.aload_n 0, 1) := by decide +kernel
theorem dX11_count_87 : decode cX11_count 87 = .ok (.getfield 12, 3) := by decide +kernel
theorem dX11_count_90 : decode cX11_count 90 = .ok (.getfield 244, 3) := by decide +kernel
theorem dX11_count_93 : decode cX11_count 93 = .ok (.iconst 2, 1) := by decide +kernel
theorem dX11_count_94 : decode cX11_count 94 = .ok (.iaload, 1) := by decide +kernel
theorem dX11_count_95 : decode cX11_count 95 = .ok (.ireturn, 1) := by decide +kernel
theorem dX11_count_96 : decode cX11_count 96 = .ok (.aload_n 0, 1) := by decide +kernel
theorem dX11_count_97 : decode cX11_count 97 = .ok (.getfield 12, 3) := by decide +kernel
theorem dX11_count_100 : decode cX11_count 100 = .ok (.getfield 244, 3) := by decide +kernel
theorem dX11_count_103 : decode cX11_count 103 = .ok (.iconst 1, 1) := by decide +kernel
theorem dX11_count_104 : decode cX11_count 104 = .ok (.iaload, 1) := by decide +kernel
theorem dX11_count_105 : decode cX11_count 105 = .ok (.ireturn, 1) := by decide +kernel
theorem dX11_count_106 : decode cX11_count 106 = .ok (.aload_n 0, 1) := by decide +kernel
theorem dX11_count_107 : decode cX11_count 107 = .ok (.getfield 12, 3) := by decide +kernel
theorem dX11_count_110 : decode cX11_count 110 = .ok (.invokevirtual 247, 3) := by decide +kernel
theorem dX11_count_113 : decode cX11_count 113 = .ok (.ireturn, 1) := by decide +kernel
theorem dX11_count_114 : decode cX11_count 114 = .ok (.aload_n 0, 1) := by decide +kernel
theorem dX11_count_115 : decode cX11_count 115 = .ok (.getfield 12, 3) := by decide +kernel
theorem dX11_count_118 : decode cX11_count 118 = .ok (.getfield 111, 3) := by decide +kernel
theorem dX11_count_121 : decode cX11_count 121 = .ok (.ireturn, 1) := by decide +kernel
theorem dX11_count_122 : decode cX11_count 122 = .ok (.aload_n 0, 1) := by decide +kernel
theorem dX11_count_123 : decode cX11_count 123 = .ok (.getfield 12, 3) := by decide +kernel
theorem dX11_count_126 : decode cX11_count 126 = .ok (.invokevirtual 250, 3) := by decide +kernel
theorem dX11_count_129 : decode cX11_count 129 = .ok (.ifCond .eq 7, 3) := by decide +kernel
theorem dX11_count_132 : decode cX11_count 132 = .ok (.iconst 1, 1) := by decide +kernel
theorem dX11_count_133 : decode cX11_count 133 = .ok (.goto 4, 3) := by decide +kernel
theorem dX11_count_136 : decode cX11_count 136 = .ok (.iconst 0, 1) := by decide +kernel
theorem dX11_count_137 : decode cX11_count 137 = .ok (.ireturn, 1) := by decide +kernel
theorem dX11_count_138 : decode cX11_count 138 = .ok (.aload_n 0, 1) := by decide +kernel
theorem dX11_count_139 : decode cX11_count 139 = .ok (.getfield 12, 3) := by decide +kernel
theorem dX11_count_142 : decode cX11_count 142 = .ok (.invokevirtual 253, 3) := by decide +kernel
theorem dX11_count_145 : decode cX11_count 145 = .ok (.ireturn, 1) := by decide +kernel
theorem dX11_count_146 : decode cX11_count 146 = .ok (.new 189, 3) := by decide +kernel
theorem dX11_count_149 : decode cX11_count 149 = .ok (.dup, 1) := by decide +kernel
theorem dX11_count_150 : decode cX11_count 150 = .ok (.invokespecial 191, 3) := by decide +kernel
theorem dX11_count_153 : decode cX11_count 153 = .ok (.athrow, 1) := by decide +kernel
theorem q_X11_count : yX11_count.cls = RX11 ∧ yX11_count.cls ≠ "java/lang/invoke/MethodHandle" ∧ yX11_count.cls ≠ "java/lang/invoke/VarHandle" ∧ (parseMethodDescriptor yX11_count.desc).map (fun d => d.parameters.length) = some 1 := ⟨rfl, by decide, by decide, by decide +kernel⟩
set_option maxRecDepth 100000 in
set_option maxHeartbeats 4000000 in
theorem c_X11_count (l : Launch) (hst : l.stackTraces = false) (K : wK) (ad : Nat → Nat) {D_hasBoard : Int} {D_beganBlank : Int} {F_mines : Int} {F_moves : Int} {F_changes : Int} {G_width : Int} {G_height : Int} {G_size : Int} {B_parts : Int} {B_longest : Int} {S_groups : Int} {S_askedGroup : Int} {S_taken : Int} {R_waitingCount : Int} {R_metCount : Int} {A_grade : Int} {A_cell : Int} {A_mined : Int} {A_withTotal : Int} {A_numbers : Int} {X_low : Int} {X_high : Int} {Y_low : Int} {Y_high : Int} {F_mined : Int → Int} {F_number : Int → Int} {F_state : Int → Int} {F_cellsIn : Int → Int} {F_unknownNear : Int → Int} {F_hitNear : Int → Int} {F_moveStart : Int → Int} {F_changed : Int → Int} {F_waiting : Int → Int} {F_seen : Int → Int} {G_near : Int → Int} {G_nearEnd : Int → Int} {B_chosen : Int → Int} {B_partOf : Int → Int} {B_rest : Int → Int} {B_unknowns : Int → Int} {B_partStart : Int → Int} {B_cells : Int → Int} {S_minedSet : Int → Int} {S_safeSet : Int → Int} {S_partSet : Int → Int} {S_tally : Int → Int} {S_askedTally : Int → Int} {S_groupOf : Int → Int} {S_groupSize : Int → Int} {S_links : Int → Int} {S_linkEnd : Int → Int} {S_pick : Int → Int} {S_groupMinedSet : Int → Int} {S_groupSafeSet : Int → Int} {O_sums : Int → Int64} {O_nextSums : Int → Int64} {R_found : Int → Int} {R_openEnds : Int → Int} {R_need : Int → Int} {R_waiting : Int → Int} {R_waits : Int → Int} {R_common : Int → Int} {R_met : Int → Int} {A_number : Int → Int} {Q_mined : Int → Int64} {Q_all : Int → Int64} {Q_choices : Int → Int64} {Q_term : Int → Int64} {Q_divisor : Int → Int64} {Q_spare : Int → Int64} {X_limbs : Int → Int64} {X_sum : Int → Int64} {Y_limbs : Int → Int64} {Y_sum : Int → Int64} (x1 : Int) (rx1 : inR x1) (post : Int → (Int → Int) → (Int → Int) → Prop) (px : Int → (Int → Int) → (Int → Int) → Prop) (h : P_X11_count post px D_hasBoard F_mines F_moves G_width G_height G_size F_mined F_number F_state F_cellsIn F_waiting F_seen G_near G_nearEnd x1) : xI l yX11_count (Cond.code yX11_count cX11_count 2 (some .int) :: GT) ({ frames := 8, cells := 2, slots := 12, locals := 480 } : Room) 2 12 [.ref (ad 0), .int (iI x1)] K ad (dW D_hasBoard D_beganBlank F_mines F_moves F_changes G_width G_height G_size B_parts B_longest S_groups S_askedGroup S_taken R_waitingCount R_metCount A_grade A_cell A_mined A_withTotal A_numbers X_low X_high Y_low Y_high F_mined F_number F_state F_cellsIn F_unknownNear F_hitNear F_moveStart F_changed F_waiting F_seen G_near G_nearEnd B_chosen B_partOf B_rest B_unknowns B_partStart B_cells S_minedSet S_safeSet S_partSet S_tally S_askedTally S_groupOf S_groupSize S_links S_linkEnd S_pick S_groupMinedSet S_groupSafeSet O_sums O_nextSums R_found R_openEnds R_need R_waiting R_waits R_common R_met A_number Q_mined Q_all Q_choices Q_term Q_divisor Q_spare X_limbs X_sum Y_limbs Y_sum) (fun z9 u9 => ∃ F_waiting9 F_seen9, u9 = (dW D_hasBoard D_beganBlank F_mines F_moves F_changes G_width G_height G_size B_parts B_longest S_groups S_askedGroup S_taken R_waitingCount R_metCount A_grade A_cell A_mined A_withTotal A_numbers X_low X_high Y_low Y_high F_mined F_number F_state F_cellsIn F_unknownNear F_hitNear F_moveStart F_changed F_waiting9 F_seen9 G_near G_nearEnd B_chosen B_partOf B_rest B_unknowns B_partStart B_cells S_minedSet S_safeSet S_partSet S_tally S_askedTally S_groupOf S_groupSize S_links S_linkEnd S_pick S_groupMinedSet S_groupSafeSet O_sums O_nextSums R_found R_openEnds R_need R_waiting R_waits R_common R_met A_number Q_mined Q_all Q_choices Q_term Q_divisor Q_spare X_limbs X_sum Y_limbs Y_sum) ∧ post z9 F_waiting9 F_seen9) (fun k9 u9 => (k9 = 1 ∨ k9 = 2) ∧ ∃ F_waiting9 F_seen9, u9 = (dW D_hasBoard D_beganBlank F_mines F_moves F_changes G_width G_height G_size B_parts B_longest S_groups S_askedGroup S_taken R_waitingCount R_metCount A_grade A_cell A_mined A_withTotal A_numbers X_low X_high Y_low Y_high F_mined F_number F_state F_cellsIn F_unknownNear F_hitNear F_moveStart F_changed F_waiting9 F_seen9 G_near G_nearEnd B_chosen B_partOf B_rest B_unknowns B_partStart B_cells S_minedSet S_safeSet S_partSet S_tally S_askedTally S_groupOf S_groupSize S_links S_linkEnd S_pick S_groupMinedSet S_groupSafeSet O_sums O_nextSums R_found R_openEnds R_need R_waiting R_waits R_common R_met A_number Q_mined Q_all Q_choices Q_term Q_divisor Q_spare X_limbs X_sum Y_limbs Y_sum) ∧ px k9 F_waiting9 F_seen9) := by
  refine xI_of (lv0 := [(0, .ref (ad 0)), (1, .int (iI x1))]) hst (by decide) (Nat.le_of_ble_eq_true rfl) rfl (Nat.le_of_ble_eq_true rfl) rfl rfl ?_
  intro p e s m args below meth c Q A C T ret XO thr
  replace C : Cx p ({ frames := 8, cells := 2, slots := 12, locals := 480 } : Room) m c 0 0 cX11_count 2 s args RX11 K A := C
  unfold P_X11_count at h
  refine wa_aload_n C 0 rfl dX11_count_0 rfl ?_
  refine wa_xVv C T XO (k := 0) (As := []) (rest := []) (c_X11_needBoard l hst K ad  _ _ h) gw_884 gw_881 dW_0 rfl gw_883 gs_39 gw_1 q_X11_needBoard rfl rfl rfl ⟨by decide, by decide⟩ rfl (Nat.le_of_ble_eq_true rfl) dX11_count_1 ⟨Nat.le_of_ble_eq_true rfl, Nat.le_of_ble_eq_true rfl⟩ ⟨Nat.le_of_ble_eq_true rfl, Nat.le_of_ble_eq_true rfl⟩ (fun z9 u9 hx9 => by obtain ⟨hk9, rfl, h9⟩ := hx9; exact ⟨by omega, _, _, rfl, h9⟩) (fun u9 hp => ?_)
  replace C := C.more (cells' := 1) (slots' := 6) (Nat.le_of_ble_eq_true rfl) (Nat.le_of_ble_eq_true rfl)
  obtain ⟨rfl, h⟩ := hp
  refine wa_iload_n C 1 rfl dX11_count_4 rfl ?_
  rcases (show x1 = 0 ∨ x1 = 1 ∨ x1 = 2 ∨ x1 = 3 ∨ x1 = 4 ∨ x1 = 5 ∨ x1 = 6 ∨ x1 = 7 ∨ x1 = 8 ∨ (x1 < 0 ∨ 8 < x1) by omega) with c_2 | c_2 | c_2 | c_2 | c_2 | c_2 | c_2 | c_2 | c_2 | c_2
  · replace h := h.1 c_2
    refine wa_tabIn C (tgt := 56) rx1 dX11_count_5 (by omega) (by omega) (by rw [c_2]; rfl) (by decide) ?_
    refine wa_aload_n C 0 rfl dX11_count_56 rfl ?_
    refine wa_getR C 0 0 dW_0 rfl rfl (by decide) okX11 gw_458 dX11_count_57 ?_
    refine wa_getR C 1 0 dW_1 rfl rfl (by decide) okX2 gw_88 dX11_count_60 ?_
    refine wa_getI C 2 1 dW_2 rfl rfl (by decide) okX3 gw_50 dX11_count_63 (fun r_3 => ?_)
    exact ret (Nat.le_of_ble_eq_true rfl) (Nat.le_of_ble_eq_true rfl) dX11_count_66 r_3 ⟨_, _, rfl, h⟩
  · replace h := h.2.1 c_2
    refine wa_tabIn C (tgt := 67) rx1 dX11_count_5 (by omega) (by omega) (by rw [c_2]; rfl) (by decide) ?_
    refine wa_aload_n C 0 rfl dX11_count_67 rfl ?_
    refine wa_getR C 0 0 dW_0 rfl rfl (by decide) okX11 gw_458 dX11_count_68 ?_
    refine wa_getR C 1 0 dW_1 rfl rfl (by decide) okX2 gw_88 dX11_count_71 ?_
    refine wa_getI C 2 0 dW_2 rfl rfl (by decide) okX3 gw_47 dX11_count_74 (fun r_4 => ?_)
    exact ret (Nat.le_of_ble_eq_true rfl) (Nat.le_of_ble_eq_true rfl) dX11_count_77 r_4 ⟨_, _, rfl, h⟩
  · replace h := h.2.2.1 c_2
    refine wa_tabIn C (tgt := 78) rx1 dX11_count_5 (by omega) (by omega) (by rw [c_2]; rfl) (by decide) ?_
    refine wa_aload_n C 0 rfl dX11_count_78 rfl ?_
    refine wa_getR C 0 0 dW_0 rfl rfl (by decide) okX11 gw_458 dX11_count_79 ?_
    refine wa_getI C 1 7 dW_1 rfl rfl (by decide) okX2 gw_111 dX11_count_82 (fun r_5 => ?_)
    exact ret (Nat.le_of_ble_eq_true rfl) (Nat.le_of_ble_eq_true rfl) dX11_count_85 r_5 ⟨_, _, rfl, h⟩
  · replace h := h.2.2.2.1 c_2
    refine wa_tabIn C (tgt := 86) rx1 dX11_count_5 (by omega) (by omega) (by rw [c_2]; rfl) (by decide) ?_
    refine wa_aload_n C 0 rfl dX11_count_86 rfl ?_
    refine wa_getR C 0 0 dW_0 rfl rfl (by decide) okX11 gw_458 dX11_count_87 ?_
    refine wa_getR C 1 4 dW_1 rfl rfl (by decide) okX2 gw_103 dX11_count_90 ?_
    refine wa_iconst C (z := 2) dX11_count_93 rfl ?_
    refine wa_iald C 15 dW_15 dX11_count_94 (by decide) (by decide) (fun v_6 ev_6 rv_6 => ?_)
    replace h := h v_6 ev_6 rv_6
    exact ret (Nat.le_of_ble_eq_true rfl) (Nat.le_of_ble_eq_true rfl) dX11_count_95 rv_6 ⟨_, _, rfl, h⟩
  · replace h := h.2.2.2.2.1 c_2
    refine wa_tabIn C (tgt := 96) rx1 dX11_count_5 (by omega) (by omega) (by rw [c_2]; rfl) (by decide) ?_
    refine wa_aload_n C 0 rfl dX11_count_96 rfl ?_
    refine wa_getR C 0 0 dW_0 rfl rfl (by decide) okX11 gw_458 dX11_count_97 ?_
    refine wa_getR C 1 4 dW_1 rfl rfl (by decide) okX2 gw_103 dX11_count_100 ?_
    refine wa_iconst C (z := 1) dX11_count_103 rfl ?_
    refine wa_iald C 15 dW_15 dX11_count_104 (by decide) (by decide) (fun v_7 ev_7 rv_7 => ?_)
    replace h := h v_7 ev_7 rv_7
    exact ret (Nat.le_of_ble_eq_true rfl) (Nat.le_of_ble_eq_true rfl) dX11_count_105 rv_7 ⟨_, _, rfl, h⟩
  · replace h := h.2.2.2.2.2.1 c_2
    refine wa_tabIn C (tgt := 106) rx1 dX11_count_5 (by omega) (by omega) (by rw [c_2]; rfl) (by decide) ?_
    refine wa_aload_n C 0 rfl dX11_count_106 rfl ?_
    refine wa_getR C 0 0 dW_0 rfl rfl (by decide) okX11 gw_458 dX11_count_107 ?_
    refine wa_callVi C (k := 1) (As := []) (rest := []) (c_X2_lives l K ad  _ h) gw_947 gw_1207 dW_1 rfl gw_945 gw_946 gw_2 q_X2_lives rfl rfl rfl ⟨by decide, by decide⟩ rfl (Nat.le_of_ble_eq_true rfl) dX11_count_110 (fun c_8 u9 rc_8 hp => ?_)
    obtain ⟨rfl, h⟩ := hp
    replace h := h rc_8
    exact ret (Nat.le_of_ble_eq_true rfl) (Nat.le_of_ble_eq_true rfl) dX11_count_113 rc_8 ⟨_, _, rfl, h⟩
  · replace h := h.2.2.2.2.2.2.1 c_2
    refine wa_tabIn C (tgt := 114) rx1 dX11_count_5 (by omega) (by omega) (by rw [c_2]; rfl) (by decide) ?_
    refine wa_aload_n C 0 rfl dX11_count_114 rfl ?_
    refine wa_getR C 0 0 dW_0 rfl rfl (by decide) okX11 gw_458 dX11_count_115 ?_
    refine wa_getI C 1 8 dW_1 rfl rfl (by decide) okX2 gw_113 dX11_count_118 (fun r_9 => ?_)
    exact ret (Nat.le_of_ble_eq_true rfl) (Nat.le_of_ble_eq_true rfl) dX11_count_121 r_9 ⟨_, _, rfl, h⟩
  · replace h := h.2.2.2.2.2.2.2.1 c_2
    refine wa_tabIn C (tgt := 122) rx1 dX11_count_5 (by omega) (by omega) (by rw [c_2]; rfl) (by decide) ?_
    refine wa_aload_n C 0 rfl dX11_count_122 rfl ?_
    refine wa_getR C 0 0 dW_0 rfl rfl (by decide) okX11 gw_458 dX11_count_123 ?_
    refine wa_callVi C (k := 1) (As := []) (rest := []) (c_X2_isSolved l K ad  _ h) gw_670 gw_1208 dW_1 rfl gw_668 gw_669 gw_2 q_X2_isSolved rfl rfl rfl ⟨by decide, by decide⟩ rfl (Nat.le_of_ble_eq_true rfl) dX11_count_126 (fun c_10 u9 rc_10 hp => ?_)
    obtain ⟨bc_10, rfl, h⟩ := hp
    replace h := h bc_10
    obtain ⟨J_11, h, hJ_11⟩ := h
    have k_12 : ∀ (z_13 : Int), inR z_13 → J_11 z_13 → WA p l e ({ frames := 8, cells := 2, slots := 12, locals := 480 } : Room) s m args below meth c 1 6 Q K ad 2 A 137 [] [.int (iI z_13)] (dW D_hasBoard D_beganBlank F_mines F_moves F_changes G_width G_height G_size B_parts B_longest S_groups S_askedGroup S_taken R_waitingCount R_metCount A_grade A_cell A_mined A_withTotal A_numbers X_low X_high Y_low Y_high F_mined F_number F_state F_cellsIn F_unknownNear F_hitNear F_moveStart F_changed F_waiting F_seen G_near G_nearEnd B_chosen B_partOf B_rest B_unknowns B_partStart B_cells S_minedSet S_safeSet S_partSet S_tally S_askedTally S_groupOf S_groupSize S_links S_linkEnd S_pick S_groupMinedSet S_groupSafeSet O_sums O_nextSums R_found R_openEnds R_need R_waiting R_waits R_common R_met A_number Q_mined Q_all Q_choices Q_term Q_divisor Q_spare X_limbs X_sum Y_limbs Y_sum) := by
      intro z_13 rz_13 h
      replace h := hJ_11 z_13 rz_13 h
      exact ret (Nat.le_of_ble_eq_true rfl) (Nat.le_of_ble_eq_true rfl) dX11_count_137 rz_13 ⟨_, _, rfl, h⟩
    refine wa_if_eq C (tgt := 136) (inR_b bc_10) dX11_count_129 (by decide) (fun c_14 => ?_) (fun c_14 => ?_)
    · replace h := h.1 c_14
      refine wa_iconst C (z := 0) dX11_count_136 rfl ?_
      refine wa_sub C [] rfl ?_
      exact k_12 0 (inR_k 0 rfl) h
    · replace h := h.2 c_14
      refine wa_iconst C (z := 1) dX11_count_132 rfl ?_
      refine wa_goto C (tgt := 137) dX11_count_133 (by decide) ?_
      refine wa_sub C [] rfl ?_
      exact k_12 1 (inR_k 1 rfl) h
  · replace h := h.2.2.2.2.2.2.2.2.1 c_2
    refine wa_tabIn C (tgt := 138) rx1 dX11_count_5 (by omega) (by omega) (by rw [c_2]; rfl) (by decide) ?_
    refine wa_aload_n C 0 rfl dX11_count_138 rfl ?_
    refine wa_getR C 0 0 dW_0 rfl rfl (by decide) okX11 gw_458 dX11_count_139 ?_
    refine wa_callVi C (k := 1) (As := []) (rest := []) (c_X2_leastOpenings l K ad  _ h) gw_1212 gw_1209 dW_1 rfl gw_1210 gw_1211 gw_2 q_X2_leastOpenings rfl rfl rfl ⟨by decide, by decide⟩ rfl (Nat.le_of_ble_eq_true rfl) dX11_count_142 (fun c_15 u9 rc_15 hp => ?_)
    obtain ⟨F_waiting_16, F_seen_17, rfl, h⟩ := hp
    replace h := h rc_15
    exact ret (Nat.le_of_ble_eq_true rfl) (Nat.le_of_ble_eq_true rfl) dX11_count_145 rc_15 ⟨_, _, rfl, h⟩
  · replace h := h.2.2.2.2.2.2.2.2.2 c_2
    refine wa_tabOut C (tgt := 146) rx1 dX11_count_5 c_2 (by decide) ?_
    exact thr 2 (Nat.le_of_ble_eq_true rfl) (Nat.le_of_ble_eq_true rfl) xcl_2 xin_2 xat_2 (Nat.le_of_ble_eq_true rfl) dX11_count_146 dX11_count_149 dX11_count_150 dX11_count_153 ⟨by decide, _, _, rfl, h⟩
