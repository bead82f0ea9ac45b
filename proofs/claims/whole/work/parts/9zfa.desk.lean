theorem dX11_make_0 : decode cX11_make 0 = .ok (.iload_n 1, 1) := by decide +kernel
theorem dX11_make_1 : decode cX11_make 1 = .ok (.iload_n 2, 1) := by decide +kernel
theorem dX11_make_2 : decode cX11_make 2 = .ok (.iload 4, 2) := by decide +kernel
theorem dX11_make_4 : decode cX11_make 4 = .ok (.invokestatic 69, 3) := by decide +kernel
theorem dX11_make_7 : decode cX11_make 7 = .ok (.ifCond .eq 31, 3) := by decide +kernel
theorem dX11_make_10 : decode cX11_make 10 = .ok (.iload_n 3, 1) := by decide +kernel
theorem dX11_make_11 : decode cX11_make 11 = .ok (.iconst 1, 1) := by decide +kernel
theorem dX11_make_12 : decode cX11_make 12 = .ok (.if_icmp .lt 26, 3) := by decide +kernel
theorem dX11_make_15 : decode cX11_make 15 = .ok (.iload_n 3, 1) := by decide +kernel
theorem dX11_make_16 : decode cX11_make 16 = .ok (.iload_n 1, 1) := by decide +kernel
theorem dX11_make_17 : decode cX11_make 17 = .ok (.iload_n 2, 1) := by decide +kernel
theorem dX11_make_18 : decode cX11_make 18 = .ok (.iload 4, 2) := by decide +kernel
theorem dX11_make_20 : decode cX11_make 20 = .ok (.invokestatic 75, 3) := by decide +kernel
theorem dX11_make_23 : decode cX11_make 23 = .ok (.if_icmp .gt 15, 3) := by decide +kernel
theorem dX11_make_26 : decode cX11_make 26 = .ok (.iload 6, 2) := by decide +kernel
theorem dX11_make_28 : decode cX11_make 28 = .ok (.iconst 1, 1) := by decide +kernel
theorem dX11_make_29 : decode cX11_make 29 = .ok (.if_icmp .lt 9, 3) := by decide +kernel
theorem dX11_make_32 : decode cX11_make 32 = .ok (.iload 6, 2) := by decide +kernel
theorem dX11_make_34 : decode cX11_make 34 = .ok (.iconst 3, 1) := by decide +kernel
theorem dX11_make_35 : decode cX11_make 35 = .ok (.if_icmp .le 11, 3) := by decide +kernel
theorem dX11_make_38 : decode cX11_make 38 = .ok (.new 79, 3) := by decide +kernel
theorem dX11_make_41 : decode cX11_make 41 = .ok (.dup, 1) := by decide +kernel
theorem dX11_make_42 : decode cX11_make 42 = .ok (.invokespecial 81, 3) := by decide +kernel
theorem dX11_make_45 : decode cX11_make 45 = .ok (.athrow, 1) := by decide +kernel
theorem dX11_make_46 : decode cX11_make 46 = .ok (.aload_n 0, 1) := by decide +kernel
theorem dX11_make_47 : decode cX11_make 47 = .ok (.getfield 12, 3) := by decide +kernel
theorem dX11_make_50 : decode cX11_make 50 = .ok (.iload_n 1, 1) := by decide +kernel
theorem dX11_make_51 : decode cX11_make 51 = .ok (.iload_n 2, 1) := by decide +kernel
theorem dX11_make_52 : decode cX11_make 52 = .ok (.iload 4, 2) := by decide +kernel
theorem dX11_make_54 : decode cX11_make 54 = .ok (.invokevirtual 82, 3) := by decide +kernel
theorem dX11_make_57 : decode cX11_make 57 = .ok (.aload_n 0, 1) := by decide +kernel
theorem dX11_make_58 : decode cX11_make 58 = .ok (.getfield 49, 3) := by decide +kernel
theorem dX11_make_61 : decode cX11_make 61 = .ok (.invokevirtual 86, 3) := by decide +kernel
theorem dX11_make_64 : decode cX11_make 64 = .ok (.aload_n 0, 1) := by decide +kernel
theorem dX11_make_65 : decode cX11_make 65 = .ok (.getfield 65, 3) := by decide +kernel
theorem dX11_make_68 : decode cX11_make 68 = .ok (.iload_n 3, 1) := by decide +kernel
theorem dX11_make_69 : decode cX11_make 69 = .ok (.iload 5, 2) := by decide +kernel
theorem dX11_make_71 : decode cX11_make 71 = .ok (.invokevirtual 89, 3) := by decide +kernel
theorem dX11_make_74 : decode cX11_make 74 = .ok (.aload_n 0, 1) := by decide +kernel
theorem dX11_make_75 : decode cX11_make 75 = .ok (.iconst 0, 1) := by decide +kernel
theorem dX11_make_76 : decode cX11_make 76 = .ok (.putfield 93, 3) := by decide +kernel
theorem dX11_make_79 : decode cX11_make 79 = .ok (.aload_n 0, 1) := by decide +kernel
theorem dX11_make_80 : decode cX11_make 80 = .ok (.aload_n 0, 1) := by decide +kernel
theorem dX11_make_81 : decode cX11_make 81 = .ok (.getfield 65, 3) := by decide +kernel
theorem dX11_make_84 : decode cX11_make 84 = .ok (.iload 6, 2) := by decide +kernel
theorem dX11_make_86 : decode cX11_make 86 = .ok (.invokevirtual 97, 3) := by decide +kernel
theorem dX11_make_89 : decode cX11_make 89 = .ok (.putfield 101, 3) := by decide +kernel
theorem dX11_make_92 : decode cX11_make 92 = .ok (.aload_n 0, 1) := by decide +kernel
theorem dX11_make_93 : decode cX11_make 93 = .ok (.getfield 12, 3) := by decide +kernel
theorem dX11_make_96 : decode cX11_make 96 = .ok (.invokevirtual 104, 3) := by decide +kernel
theorem dX11_make_99 : decode cX11_make 99 = .ok (.aload_n 0, 1) := by decide +kernel
theorem dX11_make_100 : decode cX11_make 100 = .ok (.getfield 101, 3) := by decide +kernel
theorem dX11_make_103 : decode cX11_make 103 = .ok (.ifCond .eq 7, 3) := by decide +kernel
theorem dX11_make_106 : decode cX11_make 106 = .ok (.iconst 1, 1) := by decide +kernel
theorem dX11_make_107 : decode cX11_make 107 = .ok (.goto 4, 3) := by decide +kernel
theorem dX11_make_110 : decode cX11_make 110 = .ok (.iconst 0, 1) := by decide +kernel
theorem dX11_make_111 : decode cX11_make 111 = .ok (.ireturn, 1) := by decide +kernel
theorem q_X11_make : yX11_make.cls = RX11 ∧ yX11_make.cls ≠ "java/lang/invoke/MethodHandle" ∧ yX11_make.cls ≠ "java/lang/invoke/VarHandle" ∧ (parseMethodDescriptor yX11_make.desc).map (fun d => d.parameters.length) = some 6 := ⟨rfl, by decide, by decide, by decide +kernel⟩
set_option maxRecDepth 100000 in
set_option maxHeartbeats 4000000 in
theorem c_X11_make (l : Launch) (hst : l.stackTraces = false) (K : wK) (ad : Nat → Nat) {D_hasBoard : Int} {D_beganBlank : Int} {F_mines : Int} {F_moves : Int} {F_changes : Int} {G_width : Int} {G_height : Int} {G_size : Int} {B_parts : Int} {B_longest : Int} {S_groups : Int} {S_askedGroup : Int} {S_taken : Int} {R_waitingCount : Int} {R_metCount : Int} {A_grade : Int} {A_cell : Int} {A_mined : Int} {A_withTotal : Int} {A_numbers : Int} {X_low : Int} {X_high : Int} {Y_low : Int} {Y_high : Int} {F_mined : Int → Int} {F_number : Int → Int} {F_state : Int → Int} {F_cellsIn : Int → Int} {F_unknownNear : Int → Int} {F_hitNear : Int → Int} {F_moveStart : Int → Int} {F_changed : Int → Int} {F_waiting : Int → Int} {F_seen : Int → Int} {G_near : Int → Int} {G_nearEnd : Int → Int} {B_chosen : Int → Int} {B_partOf : Int → Int} {B_rest : Int → Int} {B_unknowns : Int → Int} {B_partStart : Int → Int} {B_cells : Int → Int} {S_minedSet : Int → Int} {S_safeSet : Int → Int} {S_partSet : Int → Int} {S_tally : Int → Int} {S_askedTally : Int → Int} {S_groupOf : Int → Int} {S_groupSize : Int → Int} {S_links : Int → Int} {S_linkEnd : Int → Int} {S_pick : Int → Int} {S_groupMinedSet : Int → Int} {S_groupSafeSet : Int → Int} {O_sums : Int → Int64} {O_nextSums : Int → Int64} {R_found : Int → Int} {R_openEnds : Int → Int} {R_need : Int → Int} {R_waiting : Int → Int} {R_waits : Int → Int} {R_common : Int → Int} {R_met : Int → Int} {A_number : Int → Int} {Q_mined : Int → Int64} {Q_all : Int → Int64} {Q_choices : Int → Int64} {Q_term : Int → Int64} {Q_divisor : Int → Int64} {Q_spare : Int → Int64} {X_limbs : Int → Int64} {X_sum : Int → Int64} {Y_limbs : Int → Int64} {Y_sum : Int → Int64} (x1 : Int) (x2 : Int) (x3 : Int) (x4 : Int) (x5 : Int) (x6 : Int) (rx1 : inR x1) (rx2 : inR x2) (rx3 : inR x3) (rx4 : inR x4) (rx5 : inR x5) (rx6 : inR x6) (post : Int → (Int) → (Int) → (Int) → (Int) → (Int) → (Int) → (Int) → (Int) → (Int) → (Int) → (Int) → (Int) → (Int) → (Int) → (Int) → (Int) → (Int) → (Int) → (Int) → (Int) → (Int → Int) → (Int → Int) → (Int → Int) → (Int → Int) → (Int → Int) → (Int → Int) → (Int → Int) → (Int → Int) → (Int → Int) → (Int → Int) → (Int → Int) → (Int → Int) → (Int → Int) → (Int → Int) → (Int → Int) → (Int → Int) → (Int → Int) → (Int → Int) → (Int → Int) → (Int → Int) → (Int → Int) → (Int → Int) → (Int → Int) → (Int → Int) → (Int → Int) → (Int → Int) → (Int → Int) → (Int → Int) → (Int → Int64) → (Int → Int64) → (Int → Int) → (Int → Int) → (Int → Int) → (Int → Int) → (Int → Int) → (Int → Int) → (Int → Int) → Prop) (px : Int → (Int) → (Int) → (Int) → (Int) → (Int) → (Int) → (Int) → (Int) → (Int) → (Int) → (Int) → (Int) → (Int) → (Int) → (Int) → (Int) → (Int) → (Int) → (Int) → (Int) → (Int → Int) → (Int → Int) → (Int → Int) → (Int → Int) → (Int → Int) → (Int → Int) → (Int → Int) → (Int → Int) → (Int → Int) → (Int → Int) → (Int → Int) → (Int → Int) → (Int → Int) → (Int → Int) → (Int → Int) → (Int → Int) → (Int → Int) → (Int → Int) → (Int → Int) → (Int → Int) → (Int → Int) → (Int → Int) → (Int → Int) → (Int → Int) → (Int → Int) → (Int → Int) → (Int → Int) → (Int → Int) → (Int → Int64) → (Int → Int64) → (Int → Int) → (Int → Int) → (Int → Int) → (Int → Int) → (Int → Int) → (Int → Int) → (Int → Int) → Prop) (h : P_X11_make post px D_hasBoard D_beganBlank F_mines F_moves F_changes G_width G_height G_size B_parts B_longest S_groups S_askedGroup S_taken R_waitingCount R_metCount A_grade A_cell A_mined A_withTotal A_numbers F_mined F_number F_state F_cellsIn F_unknownNear F_hitNear F_changed F_waiting G_near G_nearEnd B_chosen B_partOf B_rest B_unknowns B_partStart B_cells S_minedSet S_safeSet S_partSet S_tally S_askedTally S_groupOf S_groupSize S_links S_linkEnd S_pick S_groupMinedSet S_groupSafeSet O_sums O_nextSums R_found R_openEnds R_need R_waiting R_waits R_common R_met x1 x2 x3 x4 x5 x6) : xI l yX11_make (Cond.code yX11_make cX11_make 7 (some .int) :: GT) ({ frames := 27, cells := 1, slots := 6, locals := 1620 } : Room) 1 6 [.ref (ad 0), .int (iI x1), .int (iI x2), .int (iI x3), .int (iI x4), .int (iI x5), .int (iI x6)] K ad (dW D_hasBoard D_beganBlank F_mines F_moves F_changes G_width G_height G_size B_parts B_longest S_groups S_askedGroup S_taken R_waitingCount R_metCount A_grade A_cell A_mined A_withTotal A_numbers X_low X_high Y_low Y_high F_mined F_number F_state F_cellsIn F_unknownNear F_hitNear F_moveStart F_changed F_waiting F_seen G_near G_nearEnd B_chosen B_partOf B_rest B_unknowns B_partStart B_cells S_minedSet S_safeSet S_partSet S_tally S_askedTally S_groupOf S_groupSize S_links S_linkEnd S_pick S_groupMinedSet S_groupSafeSet O_sums O_nextSums R_found R_openEnds R_need R_waiting R_waits R_common R_met A_number Q_mined Q_all Q_choices Q_term Q_divisor Q_spare X_limbs X_sum Y_limbs Y_sum) (fun z9 u9 => ∃ D_hasBoard9 D_beganBlank9 F_mines9 F_moves9 F_changes9 G_width9 G_height9 G_size9 B_parts9 B_longest9 S_groups9 S_askedGroup9 S_taken9 R_waitingCount9 R_metCount9 A_grade9 A_cell9 A_mined9 A_withTotal9 A_numbers9 F_mined9 F_number9 F_state9 F_cellsIn9 F_unknownNear9 F_hitNear9 F_changed9 F_waiting9 G_near9 G_nearEnd9 B_chosen9 B_partOf9 B_rest9 B_unknowns9 B_partStart9 B_cells9 S_minedSet9 S_safeSet9 S_partSet9 S_tally9 S_askedTally9 S_groupOf9 S_groupSize9 S_links9 S_linkEnd9 S_pick9 S_groupMinedSet9 S_groupSafeSet9 O_sums9 O_nextSums9 R_found9 R_openEnds9 R_need9 R_waiting9 R_waits9 R_common9 R_met9, u9 = (dW D_hasBoard9 D_beganBlank9 F_mines9 F_moves9 F_changes9 G_width9 G_height9 G_size9 B_parts9 B_longest9 S_groups9 S_askedGroup9 S_taken9 R_waitingCount9 R_metCount9 A_grade9 A_cell9 A_mined9 A_withTotal9 A_numbers9 X_low X_high Y_low Y_high F_mined9 F_number9 F_state9 F_cellsIn9 F_unknownNear9 F_hitNear9 F_moveStart F_changed9 F_waiting9 F_seen G_near9 G_nearEnd9 B_chosen9 B_partOf9 B_rest9 B_unknowns9 B_partStart9 B_cells9 S_minedSet9 S_safeSet9 S_partSet9 S_tally9 S_askedTally9 S_groupOf9 S_groupSize9 S_links9 S_linkEnd9 S_pick9 S_groupMinedSet9 S_groupSafeSet9 O_sums9 O_nextSums9 R_found9 R_openEnds9 R_need9 R_waiting9 R_waits9 R_common9 R_met9 A_number Q_mined Q_all Q_choices Q_term Q_divisor Q_spare X_limbs X_sum Y_limbs Y_sum) ∧ post z9 D_hasBoard9 D_beganBlank9 F_mines9 F_moves9 F_changes9 G_width9 G_height9 G_size9 B_parts9 B_longest9 S_groups9 S_askedGroup9 S_taken9 R_waitingCount9 R_metCount9 A_grade9 A_cell9 A_mined9 A_withTotal9 A_numbers9 F_mined9 F_number9 F_state9 F_cellsIn9 F_unknownNear9 F_hitNear9 F_changed9 F_waiting9 G_near9 G_nearEnd9 B_chosen9 B_partOf9 B_rest9 B_unknowns9 B_partStart9 B_cells9 S_minedSet9 S_safeSet9 S_partSet9 S_tally9 S_askedTally9 S_groupOf9 S_groupSize9 S_links9 S_linkEnd9 S_pick9 S_groupMinedSet9 S_groupSafeSet9 O_sums9 O_nextSums9 R_found9 R_openEnds9 R_need9 R_waiting9 R_waits9 R_common9 R_met9) (fun k9 u9 => (k9 = 4) ∧ ∃ D_hasBoard9 D_beganBlank9 F_mines9 F_moves9 F_changes9 G_width9 G_height9 G_size9 B_parts9 B_longest9 S_groups9 S_askedGroup9 S_taken9 R_waitingCount9 R_metCount9 A_grade9 A_cell9 A_mined9 A_withTotal9 A_numbers9 F_mined9 F_number9 F_state9 F_cellsIn9 F_unknownNear9 F_hitNear9 F_changed9 F_waiting9 G_near9 G_nearEnd9 B_chosen9 B_partOf9 B_rest9 B_unknowns9 B_partStart9 B_cells9 S_minedSet9 S_safeSet9 S_partSet9 S_tally9 S_askedTally9 S_groupOf9 S_groupSize9 S_links9 S_linkEnd9 S_pick9 S_groupMinedSet9 S_groupSafeSet9 O_sums9 O_nextSums9 R_found9 R_openEnds9 R_need9 R_waiting9 R_waits9 R_common9 R_met9, u9 = (dW D_hasBoard9 D_beganBlank9 F_mines9 F_moves9 F_changes9 G_width9 G_height9 G_size9 B_parts9 B_longest9 S_groups9 S_askedGroup9 S_taken9 R_waitingCount9 R_metCount9 A_grade9 A_cell9 A_mined9 A_withTotal9 A_numbers9 X_low X_high Y_low Y_high F_mined9 F_number9 F_state9 F_cellsIn9 F_unknownNear9 F_hitNear9 F_moveStart F_changed9 F_waiting9 F_seen G_near9 G_nearEnd9 B_chosen9 B_partOf9 B_rest9 B_unknowns9 B_partStart9 B_cells9 S_minedSet9 S_safeSet9 S_partSet9 S_tally9 S_askedTally9 S_groupOf9 S_groupSize9 S_links9 S_linkEnd9 S_pick9 S_groupMinedSet9 S_groupSafeSet9 O_sums9 O_nextSums9 R_found9 R_openEnds9 R_need9 R_waiting9 R_waits9 R_common9 R_met9 A_number Q_mined Q_all Q_choices Q_term Q_divisor Q_spare X_limbs X_sum Y_limbs Y_sum) ∧ px k9 D_hasBoard9 D_beganBlank9 F_mines9 F_moves9 F_changes9 G_width9 G_height9 G_size9 B_parts9 B_longest9 S_groups9 S_askedGroup9 S_taken9 R_waitingCount9 R_metCount9 A_grade9 A_cell9 A_mined9 A_withTotal9 A_numbers9 F_mined9 F_number9 F_state9 F_cellsIn9 F_unknownNear9 F_hitNear9 F_changed9 F_waiting9 G_near9 G_nearEnd9 B_chosen9 B_partOf9 B_rest9 B_unknowns9 B_partStart9 B_cells9 S_minedSet9 S_safeSet9 S_partSet9 S_tally9 S_askedTally9 S_groupOf9 S_groupSize9 S_links9 S_linkEnd9 S_pick9 S_groupMinedSet9 S_groupSafeSet9 O_sums9 O_nextSums9 R_found9 R_openEnds9 R_need9 R_waiting9 R_waits9 R_common9 R_met9) := by
  refine xI_of (lv0 := [(0, .ref (ad 0)), (1, .int (iI x1)), (2, .int (iI x2)), (3, .int (iI x3)), (4, .int (iI x4)), (5, .int (iI x5)), (6, .int (iI x6))]) hst (by decide) (Nat.le_of_ble_eq_true rfl) rfl (Nat.le_of_ble_eq_true rfl) rfl rfl ?_
  intro p e s m args below meth c Q A C T ret XO thr
  replace C : Cx p ({ frames := 27, cells := 1, slots := 6, locals := 1620 } : Room) m c 0 0 cX11_make 7 s args RX11 K A := C
  unfold P_X11_make at h
  refine wa_iload_n C 1 rfl dX11_make_0 rfl ?_
  refine wa_iload_n C 2 rfl dX11_make_1 rfl ?_
  refine wa_iload C 4 rfl dX11_make_2 ?_
  refine wa_callSi C (As := [.int (iI x1), .int (iI x2), .int (iI x4)]) (rest := []) (c_X3_isPossible l K ad x1 x2 x4 rx1 rx2 rx4 _ h) gw_493 gw_491 gw_492 gw_3 q_X3_isPossible rfl rfl rfl ⟨by decide, by decide⟩ rfl (Nat.le_of_ble_eq_true rfl) dX11_make_4 (fun c_1 u9 rc_1 hp => ?_)
  obtain ⟨bc_1, rfl, h⟩ := hp
  replace h := h bc_1
  refine wa_if_eq C (tgt := 38) (inR_b bc_1) dX11_make_7 (by decide) (fun c_2 => ?_) (fun c_2 => ?_)
  · replace h := h.1 c_2
    exact thr 4 (Nat.le_of_ble_eq_true rfl) (Nat.le_of_ble_eq_true rfl) xcl_4 xin_4 xat_4 (Nat.le_of_ble_eq_true rfl) dX11_make_38 dX11_make_41 dX11_make_42 dX11_make_45 ⟨by decide, _, _, _, _, _, _, _, _, _, _, _, _, _, _, _, _, _, _, _, _, _, _, _, _, _, _, _, _, _, _, _, _, _, _, _, _, _, _, _, _, _, _, _, _, _, _, _, _, _, _, _, _, _, _, _, _, _, rfl, h⟩
  · replace h := h.2 c_2
    refine wa_iload_n C 3 rfl dX11_make_10 rfl ?_
    refine wa_iconst C (z := 1) dX11_make_11 rfl ?_
    refine wa_icmp_lt C (tgt := 38) rx3 (inR_k 1 rfl) dX11_make_12 (by decide) (fun c_3 => ?_) (fun c_3 => ?_)
    · replace h := h.1 c_3
      exact thr 4 (Nat.le_of_ble_eq_true rfl) (Nat.le_of_ble_eq_true rfl) xcl_4 xin_4 xat_4 (Nat.le_of_ble_eq_true rfl) dX11_make_38 dX11_make_41 dX11_make_42 dX11_make_45 ⟨by decide, _, _, _, _, _, _, _, _, _, _, _, _, _, _, _, _, _, _, _, _, _, _, _, _, _, _, _, _, _, _, _, _, _, _, _, _, _, _, _, _, _, _, _, _, _, _, _, _, _, _, _, _, _, _, _, _, _, rfl, h⟩
    · replace h := h.2 c_3
      refine wa_iload_n C 3 rfl dX11_make_15 rfl ?_
      refine wa_iload_n C 1 rfl dX11_make_16 rfl ?_
      refine wa_iload_n C 2 rfl dX11_make_17 rfl ?_
      refine wa_iload C 4 rfl dX11_make_18 ?_
      refine wa_callSi C (As := [.int (iI x1), .int (iI x2), .int (iI x4)]) (rest := [.int (iI x3)]) (c_X4_freeCells l K ad x1 x2 x4 rx1 rx2 rx4 _ h) gw_496 gw_494 gw_495 gw_11 q_X4_freeCells rfl rfl rfl ⟨by decide, by decide⟩ rfl (Nat.le_of_ble_eq_true rfl) dX11_make_20 (fun c_4 u9 rc_4 hp => ?_)
      obtain ⟨rfl, h⟩ := hp
      replace h := h rc_4
      refine wa_icmp_gt C (tgt := 38) rx3 rc_4 dX11_make_23 (by decide) (fun c_5 => ?_) (fun c_5 => ?_)
      · replace h := h.1 c_5
        exact thr 4 (Nat.le_of_ble_eq_true rfl) (Nat.le_of_ble_eq_true rfl) xcl_4 xin_4 xat_4 (Nat.le_of_ble_eq_true rfl) dX11_make_38 dX11_make_41 dX11_make_42 dX11_make_45 ⟨by decide, _, _, _, _, _, _, _, _, _, _, _, _, _, _, _, _, _, _, _, _, _, _, _, _, _, _, _, _, _, _, _, _, _, _, _, _, _, _, _, _, _, _, _, _, _, _, _, _, _, _, _, _, _, _, _, _, _, rfl, h⟩
      · replace h := h.2 c_5
        refine wa_iload C 6 rfl dX11_make_26 ?_
        refine wa_iconst C (z := 1) dX11_make_28 rfl ?_
        refine wa_icmp_lt C (tgt := 38) rx6 (inR_k 1 rfl) dX11_make_29 (by decide) (fun c_6 => ?_) (fun c_6 => ?_)
        · replace h := h.1 c_6
          exact thr 4 (Nat.le_of_ble_eq_true rfl) (Nat.le_of_ble_eq_true rfl) xcl_4 xin_4 xat_4 (Nat.le_of_ble_eq_true rfl) dX11_make_38 dX11_make_41 dX11_make_42 dX11_make_45 ⟨by decide, _, _, _, _, _, _, _, _, _, _, _, _, _, _, _, _, _, _, _, _, _, _, _, _, _, _, _, _, _, _, _, _, _, _, _, _, _, _, _, _, _, _, _, _, _, _, _, _, _, _, _, _, _, _, _, _, _, rfl, h⟩
        · replace h := h.2 c_6
          refine wa_iload C 6 rfl dX11_make_32 ?_
          refine wa_iconst C (z := 3) dX11_make_34 rfl ?_
          refine wa_icmp_le C (tgt := 46) rx6 (inR_k 3 rfl) dX11_make_35 (by decide) (fun c_7 => ?_) (fun c_7 => ?_)
          · replace h := h.1 c_7
            refine wa_aload_n C 0 rfl dX11_make_46 rfl ?_
            refine wa_getR C 0 0 dW_0 rfl rfl (by decide) okX11 gw_458 dX11_make_47 ?_
            refine wa_iload_n C 1 rfl dX11_make_50 rfl ?_
            refine wa_iload_n C 2 rfl dX11_make_51 rfl ?_
            refine wa_iload C 4 rfl dX11_make_52 ?_
            refine wa_callVv C (k := 1) (As := [.int (iI x1), .int (iI x2), .int (iI x4)]) (rest := []) (c_X2_begin l K ad x1 x2 x4 rx1 rx2 rx4 _ h) gw_567 gw_564 dW_1 rfl gw_565 gw_566 gw_2 q_X2_begin rfl rfl rfl ⟨by decide, by decide⟩ rfl (Nat.le_of_ble_eq_true rfl) dX11_make_54 (fun u9 hp => ?_)
            obtain ⟨F_mines_8, F_moves_9, F_changes_10, G_width_11, G_height_12, G_size_13, F_mined_14, F_number_15, F_state_16, F_cellsIn_17, F_unknownNear_18, F_hitNear_19, G_near_20, G_nearEnd_21, rfl, h⟩ := hp
            refine wa_aload_n C 0 rfl dX11_make_57 rfl ?_
            refine wa_getR C 0 3 dW_0 rfl rfl (by decide) okX11 gw_461 dX11_make_58 ?_
            refine wa_callVv C (k := 7) (As := []) (rest := []) (c_X0_forget l K ad  _ h) gw_605 gw_602 dW_7 rfl gw_603 gw_604 gw_8 q_X0_forget rfl rfl rfl ⟨by decide, by decide⟩ rfl (Nat.le_of_ble_eq_true rfl) dX11_make_61 (fun u9 hp => ?_)
            obtain ⟨A_grade_22, A_cell_23, A_mined_24, A_withTotal_25, A_numbers_26, rfl, h⟩ := hp
            refine wa_aload_n C 0 rfl dX11_make_64 rfl ?_
            refine wa_getR C 0 5 dW_0 rfl rfl (by decide) okX11 gw_463 dX11_make_65 ?_
            refine wa_iload_n C 3 rfl dX11_make_68 rfl ?_
            refine wa_iload C 5 rfl dX11_make_69 ?_
            refine wa_callVv C (k := 11) (As := [.int (iI x3), .int (iI x5)]) (rest := []) (c_X4_scatter l K ad x3 x5 rx3 rx5 _ h) gw_609 gw_606 dW_11 rfl gw_607 gw_608 gw_11 q_X4_scatter rfl rfl rfl ⟨by decide, by decide⟩ rfl (Nat.le_of_ble_eq_true rfl) dX11_make_71 (fun u9 hp => ?_)
            obtain ⟨F_mines_27, F_mined_28, F_number_29, rfl, h⟩ := hp
            refine wa_aload_n C 0 rfl dX11_make_74 rfl ?_
            refine wa_iconst C (z := 0) dX11_make_75 rfl ?_
            refine wa_putZ C (ws' := (dW D_hasBoard 0 F_mines_27 F_moves_9 F_changes_10 G_width_11 G_height_12 G_size_13 B_parts B_longest S_groups S_askedGroup S_taken R_waitingCount R_metCount A_grade_22 A_cell_23 A_mined_24 A_withTotal_25 A_numbers_26 X_low X_high Y_low Y_high F_mined_28 F_number_29 F_state_16 F_cellsIn_17 F_unknownNear_18 F_hitNear_19 F_moveStart F_changed F_waiting F_seen G_near_20 G_nearEnd_21 B_chosen B_partOf B_rest B_unknowns B_partStart B_cells S_minedSet S_safeSet S_partSet S_tally S_askedTally S_groupOf S_groupSize S_links S_linkEnd S_pick S_groupMinedSet S_groupSafeSet O_sums O_nextSums R_found R_openEnds R_need R_waiting R_waits R_common R_met A_number Q_mined Q_all Q_choices Q_term Q_divisor Q_spare X_limbs X_sum Y_limbs Y_sum)) 0 7 dW_0 rfl (by decide) okX11 gw_465 rfl rfl (Nat.le_of_ble_eq_true rfl) (Or.inl rfl) (dWp_0_7 _) dX11_make_76 ?_
            refine wa_aload_n C 0 rfl dX11_make_79 rfl ?_
            refine wa_aload_n C 0 rfl dX11_make_80 rfl ?_
            refine wa_getR C 0 5 dW_0 rfl rfl (by decide) okX11 gw_463 dX11_make_81 ?_
            refine wa_iload C 6 rfl dX11_make_84 ?_
            refine wa_callVi C (k := 11) (As := [.int (iI x6)]) (rest := [.ref (ad 0)]) (c_X4_settle l K ad x6 rx6 _ h) gw_640 gw_637 dW_11 rfl gw_638 gw_639 gw_11 q_X4_settle rfl rfl rfl ⟨by decide, by decide⟩ rfl (Nat.le_of_ble_eq_true rfl) dX11_make_86 (fun c_30 u9 rc_30 hp => ?_)
            obtain ⟨bc_30, F_mines_31, F_moves_32, F_changes_33, B_parts_34, B_longest_35, S_groups_36, S_askedGroup_37, S_taken_38, R_waitingCount_39, R_metCount_40, F_mined_41, F_number_42, F_state_43, F_cellsIn_44, F_unknownNear_45, F_hitNear_46, F_changed_47, F_waiting_48, B_chosen_49, B_partOf_50, B_rest_51, B_unknowns_52, B_partStart_53, B_cells_54, S_minedSet_55, S_safeSet_56, S_partSet_57, S_tally_58, S_askedTally_59, S_groupOf_60, S_groupSize_61, S_links_62, S_linkEnd_63, S_pick_64, S_groupMinedSet_65, S_groupSafeSet_66, O_sums_67, O_nextSums_68, R_found_69, R_openEnds_70, R_need_71, R_waiting_72, R_waits_73, R_common_74, R_met_75, rfl, h⟩ := hp
            replace h := h bc_30
            refine wa_putZ C (ws' := (dW c_30 0 F_mines_31 F_moves_32 F_changes_33 G_width_11 G_height_12 G_size_13 B_parts_34 B_longest_35 S_groups_36 S_askedGroup_37 S_taken_38 R_waitingCount_39 R_metCount_40 A_grade_22 A_cell_23 A_mined_24 A_withTotal_25 A_numbers_26 X_low X_high Y_low Y_high F_mined_41 F_number_42 F_state_43 F_cellsIn_44 F_unknownNear_45 F_hitNear_46 F_moveStart F_changed_47 F_waiting_48 F_seen G_near_20 G_nearEnd_21 B_chosen_49 B_partOf_50 B_rest_51 B_unknowns_52 B_partStart_53 B_cells_54 S_minedSet_55 S_safeSet_56 S_partSet_57 S_tally_58 S_askedTally_59 S_groupOf_60 S_groupSize_61 S_links_62 S_linkEnd_63 S_pick_64 S_groupMinedSet_65 S_groupSafeSet_66 O_sums_67 O_nextSums_68 R_found_69 R_openEnds_70 R_need_71 R_waiting_72 R_waits_73 R_common_74 R_met_75 A_number Q_mined Q_all Q_choices Q_term Q_divisor Q_spare X_limbs X_sum Y_limbs Y_sum)) 0 6 dW_0 rfl (by decide) okX11 gw_464 rfl rfl (Nat.le_of_ble_eq_true rfl) bc_30 (dWp_0_6 _) dX11_make_89 ?_
            refine wa_aload_n C 0 rfl dX11_make_92 rfl ?_
            refine wa_getR C 0 0 dW_0 rfl rfl (by decide) okX11 gw_458 dX11_make_93 ?_
            refine wa_callVv C (k := 1) (As := []) (rest := []) (c_X2_closeAll l K ad  _ h) gw_598 gw_859 dW_1 rfl gw_596 gw_597 gw_2 q_X2_closeAll rfl rfl rfl ⟨by decide, by decide⟩ rfl (Nat.le_of_ble_eq_true rfl) dX11_make_96 (fun u9 hp => ?_)
            obtain ⟨F_moves_76, F_changes_77, F_state_78, F_cellsIn_79, F_unknownNear_80, F_hitNear_81, rfl, h⟩ := hp
            refine wa_aload_n C 0 rfl dX11_make_99 rfl ?_
            refine wa_getZ C 0 6 dW_0 rfl rfl (by decide) okX11 gw_464 dX11_make_100 (fun r_82 => ?_)
            obtain ⟨J_83, h, hJ_83⟩ := h
            have k_84 : ∀ (z_85 : Int), inR z_85 → J_83 z_85 → WA p l e ({ frames := 27, cells := 1, slots := 6, locals := 1620 } : Room) s m args below meth c 0 0 Q K ad 7 A 111 [] [.int (iI z_85)] (dW c_30 0 F_mines_31 F_moves_76 F_changes_77 G_width_11 G_height_12 G_size_13 B_parts_34 B_longest_35 S_groups_36 S_askedGroup_37 S_taken_38 R_waitingCount_39 R_metCount_40 A_grade_22 A_cell_23 A_mined_24 A_withTotal_25 A_numbers_26 X_low X_high Y_low Y_high F_mined_41 F_number_42 F_state_78 F_cellsIn_79 F_unknownNear_80 F_hitNear_81 F_moveStart F_changed_47 F_waiting_48 F_seen G_near_20 G_nearEnd_21 B_chosen_49 B_partOf_50 B_rest_51 B_unknowns_52 B_partStart_53 B_cells_54 S_minedSet_55 S_safeSet_56 S_partSet_57 S_tally_58 S_askedTally_59 S_groupOf_60 S_groupSize_61 S_links_62 S_linkEnd_63 S_pick_64 S_groupMinedSet_65 S_groupSafeSet_66 O_sums_67 O_nextSums_68 R_found_69 R_openEnds_70 R_need_71 R_waiting_72 R_waits_73 R_common_74 R_met_75 A_number Q_mined Q_all Q_choices Q_term Q_divisor Q_spare X_limbs X_sum Y_limbs Y_sum) := by
              intro z_85 rz_85 h
              replace h := hJ_83 z_85 rz_85 h
              exact ret (Nat.le_of_ble_eq_true rfl) (Nat.le_of_ble_eq_true rfl) dX11_make_111 rz_85 ⟨_, _, _, _, _, _, _, _, _, _, _, _, _, _, _, _, _, _, _, _, _, _, _, _, _, _, _, _, _, _, _, _, _, _, _, _, _, _, _, _, _, _, _, _, _, _, _, _, _, _, _, _, _, _, _, _, _, rfl, h⟩
            refine wa_if_eq C (tgt := 110) (inR_b r_82) dX11_make_103 (by decide) (fun c_86 => ?_) (fun c_86 => ?_)
            · replace h := h.1 c_86
              refine wa_iconst C (z := 0) dX11_make_110 rfl ?_
              refine wa_sub C [] rfl ?_
              exact k_84 0 (inR_k 0 rfl) h
            · replace h := h.2 c_86
              refine wa_iconst C (z := 1) dX11_make_106 rfl ?_
              refine wa_goto C (tgt := 111) dX11_make_107 (by decide) ?_
              refine wa_sub C [] rfl ?_
              exact k_84 1 (inR_k 1 rfl) h
          · replace h := h.2 c_7
            exact thr 4 (Nat.le_of_ble_eq_true rfl) (Nat.le_of_ble_eq_true rfl) xcl_4 xin_4 xat_4 (Nat.le_of_ble_eq_true rfl) dX11_make_38 dX11_make_41 dX11_make_42 dX11_make_45 ⟨by decide, _, _, _, _, _, _, _, _, _, _, _, _, _, _, _, _, _, _, _, _, _, _, _, _, _, _, _, _, _, _, _, _, _, _, _, _, _, _, _, _, _, _, _, _, _, _, _, _, _, _, _, _, _, _, _, _, _, rfl, h⟩
theorem dX11_blank_0 : decode cX11_blank 0 = .ok (.iload_n 1, 1) := by decide +kernel
theorem dX11_blank_1 : decode cX11_blank 1 = .ok (.iload_n 2, 1) := by decide +kernel
theorem dX11_blank_2 : decode cX11_blank 2 = .ok (.iload_n 3, 1) := by decide +kernel
theorem dX11_blank_3 : decode cX11_blank 3 = .ok (.invokestatic 69, 3) := by decide +kernel
theorem dX11_blank_6 : decode cX11_blank 6 = .ok (.ifCond .ne 11, 3) := by decide +kernel
theorem dX11_blank_9 : decode cX11_blank 9 = .ok (.new 79, 3) := by decide +kernel
theorem dX11_blank_12 : decode cX11_blank 12 = .ok (.dup, 1) := by decide +kernel
theorem dX11_blank_13 : decode cX11_blank 13 = .ok (.invokespecial 81, 3) := by decide +kernel
theorem dX11_blank_16 : decode cX11_blank 16 = .ok (.athrow, 1) := by decide +kernel
theorem dX11_blank_17 : decode cX11_blank 17 = .ok (.aload_n 0, 1) := by decide +kernel
theorem dX11_blank_18 : decode cX11_blank 18 = .ok (.getfield 12, 3) := by decide +kernel
theorem dX11_blank_21 : decode cX11_blank 21 = .ok (.iload_n 1, 1) := by decide +kernel
theorem dX11_blank_22 : decode cX11_blank 22 = .ok (.iload_n 2, 1) := by decide +kernel
theorem dX11_blank_23 : decode cX11_blank 23 = .ok (.iload_n 3, 1) := by decide +kernel
theorem dX11_blank_24 : decode cX11_blank 24 = .ok (.invokevirtual 82, 3) := by decide +kernel
theorem dX11_blank_27 : decode cX11_blank 27 = .ok (.aload_n 0, 1) := by decide +kernel
theorem dX11_blank_28 : decode cX11_blank 28 = .ok (.getfield 49, 3) := by decide +kernel
theorem dX11_blank_31 : decode cX11_blank 31 = .ok (.invokevirtual 86, 3) := by decide +kernel
theorem dX11_blank_34 : decode cX11_blank 34 = .ok (.aload_n 0, 1) := by decide +kernel
theorem dX11_blank_35 : decode cX11_blank 35 = .ok (.iconst 1, 1) := by decide +kernel
theorem dX11_blank_36 : decode cX11_blank 36 = .ok (.putfield 93, 3) := by decide +kernel
theorem dX11_blank_39 : decode cX11_blank 39 = .ok (.aload_n 0, 1) := by decide +kernel
theorem dX11_blank_40 : decode cX11_blank 40 = .ok (.iconst 1, 1) := by decide +kernel
theorem dX11_blank_41 : decode cX11_blank 41 = .ok (.putfield 101, 3) := by decide +kernel
theorem dX11_blank_44 : decode cX11_blank 44 = .ok (.return_, 1) := by decide +kernel
theorem q_X11_blank : yX11_blank.cls = RX11 ∧ yX11_blank.cls ≠ "java/lang/invoke/MethodHandle" ∧ yX11_blank.cls ≠ "java/lang/invoke/VarHandle" ∧ (parseMethodDescriptor yX11_blank.desc).map (fun d => d.parameters.length) = some 3 := ⟨rfl, by decide, by decide, by decide +kernel⟩
set_option maxRecDepth 100000 in
set_option maxHeartbeats 4000000 in
theorem c_X11_blank (l : Launch) (hst : l.stackTraces = false) (K : wK) (ad : Nat → Nat) {D_hasBoard : Int} {D_beganBlank : Int} {F_mines : Int} {F_moves : Int} {F_changes : Int} {G_width : Int} {G_height : Int} {G_size : Int} {B_parts : Int} {B_longest : Int} {S_groups : Int} {S_askedGroup : Int} {S_taken : Int} {R_waitingCount : Int} {R_metCount : Int} {A_grade : Int} {A_cell : Int} {A_mined : Int} {A_withTotal : Int} {A_numbers : Int} {X_low : Int} {X_high : Int} {Y_low : Int} {Y_high : Int} {F_mined : Int → Int} {F_number : Int → Int} {F_state : Int → Int} {F_cellsIn : Int → Int} {F_unknownNear : Int → Int} {F_hitNear : Int → Int} {F_moveStart : Int → Int} {F_changed : Int → Int} {F_waiting : Int → Int} {F_seen : Int → Int} {G_near : Int → Int} {G_nearEnd : Int → Int} {B_chosen : Int → Int} {B_partOf : Int → Int} {B_rest : Int → Int} {B_unknowns : Int → Int} {B_partStart : Int → Int} {B_cells : Int → Int} {S_minedSet : Int → Int} {S_safeSet : Int → Int} {S_partSet : Int → Int} {S_tally : Int → Int} {S_askedTally : Int → Int} {S_groupOf : Int → Int} {S_groupSize : Int → Int} {S_links : Int → Int} {S_linkEnd : Int → Int} {S_pick : Int → Int} {S_groupMinedSet : Int → Int} {S_groupSafeSet : Int → Int} {O_sums : Int → Int64} {O_nextSums : Int → Int64} {R_found : Int → Int} {R_openEnds : Int → Int} {R_need : Int → Int} {R_waiting : Int → Int} {R_waits : Int → Int} {R_common : Int → Int} {R_met : Int → Int} {A_number : Int → Int} {Q_mined : Int → Int64} {Q_all : Int → Int64} {Q_choices : Int → Int64} {Q_term : Int → Int64} {Q_divisor : Int → Int64} {Q_spare : Int → Int64} {X_limbs : Int → Int64} {X_sum : Int → Int64} {Y_limbs : Int → Int64} {Y_sum : Int → Int64} (x1 : Int) (x2 : Int) (x3 : Int) (rx1 : inR x1) (rx2 : inR x2) (rx3 : inR x3) (post : (Int) → (Int) → (Int) → (Int) → (Int) → (Int) → (Int) → (Int) → (Int) → (Int) → (Int) → (Int) → (Int) → (Int → Int) → (Int → Int) → (Int → Int) → (Int → Int) → (Int → Int) → (Int → Int) → (Int → Int) → (Int → Int) → Prop) (px : Int → (Int) → (Int) → (Int) → (Int) → (Int) → (Int) → (Int) → (Int) → (Int) → (Int) → (Int) → (Int) → (Int) → (Int → Int) → (Int → Int) → (Int → Int) → (Int → Int) → (Int → Int) → (Int → Int) → (Int → Int) → (Int → Int) → Prop) (h : P_X11_blank post px D_hasBoard D_beganBlank F_mines F_moves F_changes G_width G_height G_size A_grade A_cell A_mined A_withTotal A_numbers F_mined F_number F_state F_cellsIn F_unknownNear F_hitNear G_near G_nearEnd x1 x2 x3) : xV l yX11_blank (Cond.code yX11_blank cX11_blank 4 none :: GT) ({ frames := 7, cells := 1, slots := 6, locals := 420 } : Room) 1 6 [.ref (ad 0), .int (iI x1), .int (iI x2), .int (iI x3)] K ad (dW D_hasBoard D_beganBlank F_mines F_moves F_changes G_width G_height G_size B_parts B_longest S_groups S_askedGroup S_taken R_waitingCount R_metCount A_grade A_cell A_mined A_withTotal A_numbers X_low X_high Y_low Y_high F_mined F_number F_state F_cellsIn F_unknownNear F_hitNear F_moveStart F_changed F_waiting F_seen G_near G_nearEnd B_chosen B_partOf B_rest B_unknowns B_partStart B_cells S_minedSet S_safeSet S_partSet S_tally S_askedTally S_groupOf S_groupSize S_links S_linkEnd S_pick S_groupMinedSet S_groupSafeSet O_sums O_nextSums R_found R_openEnds R_need R_waiting R_waits R_common R_met A_number Q_mined Q_all Q_choices Q_term Q_divisor Q_spare X_limbs X_sum Y_limbs Y_sum) (fun u9 => ∃ D_hasBoard9 D_beganBlank9 F_mines9 F_moves9 F_changes9 G_width9 G_height9 G_size9 A_grade9 A_cell9 A_mined9 A_withTotal9 A_numbers9 F_mined9 F_number9 F_state9 F_cellsIn9 F_unknownNear9 F_hitNear9 G_near9 G_nearEnd9, u9 = (dW D_hasBoard9 D_beganBlank9 F_mines9 F_moves9 F_changes9 G_width9 G_height9 G_size9 B_parts B_longest S_groups S_askedGroup S_taken R_waitingCount R_metCount A_grade9 A_cell9 A_mined9 A_withTotal9 A_numbers9 X_low X_high Y_low Y_high F_mined9 F_number9 F_state9 F_cellsIn9 F_unknownNear9 F_hitNear9 F_moveStart F_changed F_waiting F_seen G_near9 G_nearEnd9 B_chosen B_partOf B_rest B_unknowns B_partStart B_cells S_minedSet S_safeSet S_partSet S_tally S_askedTally S_groupOf S_groupSize S_links S_linkEnd S_pick S_groupMinedSet S_groupSafeSet O_sums O_nextSums R_found R_openEnds R_need R_waiting R_waits R_common R_met A_number Q_mined Q_all Q_choices Q_term Q_divisor Q_spare X_limbs X_sum Y_limbs Y_sum) ∧ post D_hasBoard9 D_beganBlank9 F_mines9 F_moves9 F_changes9 G_width9 G_height9 G_size9 A_grade9 A_cell9 A_mined9 A_withTotal9 A_numbers9 F_mined9 F_number9 F_state9 F_cellsIn9 F_unknownNear9 F_hitNear9 G_near9 G_nearEnd9) (fun k9 u9 => (k9 = 4) ∧ ∃ D_hasBoard9 D_beganBlank9 F_mines9 F_moves9 F_changes9 G_width9 G_height9 G_size9 A_grade9 A_cell9 A_mined9 A_withTotal9 A_numbers9 F_mined9 F_number9 F_state9 F_cellsIn9 F_unknownNear9 F_hitNear9 G_near9 G_nearEnd9, u9 = (dW D_hasBoard9 D_beganBlank9 F_mines9 F_moves9 F_changes9 G_width9 G_height9 G_size9 B_parts B_longest S_groups S_askedGroup S_taken R_waitingCount R_metCount A_grade9 A_cell9 A_mined9 A_withTotal9 A_numbers9 X_low X_high Y_low Y_high F_mined9 F_number9 F_state9 F_cellsIn9 F_unknownNear9 F_hitNear9 F_moveStart F_changed F_waiting F_seen G_near9 G_nearEnd9 B_chosen B_partOf B_rest B_unknowns B_partStart B_cells S_minedSet S_safeSet S_partSet S_tally S_askedTally S_groupOf S_groupSize S_links S_linkEnd S_pick S_groupMinedSet S_groupSafeSet O_sums O_nextSums R_found R_openEnds R_need R_waiting R_waits R_common R_met A_number Q_mined Q_all Q_choices Q_term Q_divisor Q_spare X_limbs X_sum Y_limbs Y_sum) ∧ px k9 D_hasBoard9 D_beganBlank9 F_mines9 F_moves9 F_changes9 G_width9 G_height9 G_size9 A_grade9 A_cell9 A_mined9 A_withTotal9 A_numbers9 F_mined9 F_number9 F_state9 F_cellsIn9 F_unknownNear9 F_hitNear9 G_near9 G_nearEnd9) := by
  refine xV_of (lv0 := [(0, .ref (ad 0)), (1, .int (iI x1)), (2, .int (iI x2)), (3, .int (iI x3))]) hst (by decide) (Nat.le_of_ble_eq_true rfl) rfl (Nat.le_of_ble_eq_true rfl) rfl rfl ?_
  intro p e s m args below meth c Q A C T ret XO thr
  replace C : Cx p ({ frames := 7, cells := 1, slots := 6, locals := 420 } : Room) m c 0 0 cX11_blank 4 s args RX11 K A := C
  unfold P_X11_blank at h
  refine wa_iload_n C 1 rfl dX11_blank_0 rfl ?_
  refine wa_iload_n C 2 rfl dX11_blank_1 rfl ?_
  refine wa_iload_n C 3 rfl dX11_blank_2 rfl ?_
  refine wa_callSi C (As := [.int (iI x1), .int (iI x2), .int (iI x3)]) (rest := []) (c_X3_isPossible l K ad x1 x2 x3 rx1 rx2 rx3 _ h) gw_493 gw_491 gw_492 gw_3 q_X3_isPossible rfl rfl rfl ⟨by decide, by decide⟩ rfl (Nat.le_of_ble_eq_true rfl) dX11_blank_3 (fun c_1 u9 rc_1 hp => ?_)
  obtain ⟨bc_1, rfl, h⟩ := hp
  replace h := h bc_1
  refine wa_if_ne C (tgt := 17) (inR_b bc_1) dX11_blank_6 (by decide) (fun c_2 => ?_) (fun c_2 => ?_)
  · replace h := h.1 c_2
    refine wa_aload_n C 0 rfl dX11_blank_17 rfl ?_
    refine wa_getR C 0 0 dW_0 rfl rfl (by decide) okX11 gw_458 dX11_blank_18 ?_
    refine wa_iload_n C 1 rfl dX11_blank_21 rfl ?_
    refine wa_iload_n C 2 rfl dX11_blank_22 rfl ?_
    refine wa_iload_n C 3 rfl dX11_blank_23 rfl ?_
    refine wa_callVv C (k := 1) (As := [.int (iI x1), .int (iI x2), .int (iI x3)]) (rest := []) (c_X2_begin l K ad x1 x2 x3 rx1 rx2 rx3 _ h) gw_567 gw_564 dW_1 rfl gw_565 gw_566 gw_2 q_X2_begin rfl rfl rfl ⟨by decide, by decide⟩ rfl (Nat.le_of_ble_eq_true rfl) dX11_blank_24 (fun u9 hp => ?_)
    obtain ⟨F_mines_3, F_moves_4, F_changes_5, G_width_6, G_height_7, G_size_8, F_mined_9, F_number_10, F_state_11, F_cellsIn_12, F_unknownNear_13, F_hitNear_14, G_near_15, G_nearEnd_16, rfl, h⟩ := hp
    refine wa_aload_n C 0 rfl dX11_blank_27 rfl ?_
    refine wa_getR C 0 3 dW_0 rfl rfl (by decide) okX11 gw_461 dX11_blank_28 ?_
    refine wa_callVv C (k := 7) (As := []) (rest := []) (c_X0_forget l K ad  _ h) gw_605 gw_602 dW_7 rfl gw_603 gw_604 gw_8 q_X0_forget rfl rfl rfl ⟨by decide, by decide⟩ rfl (Nat.le_of_ble_eq_true rfl) dX11_blank_31 (fun u9 hp => ?_)
    obtain ⟨A_grade_17, A_cell_18, A_mined_19, A_withTotal_20, A_numbers_21, rfl, h⟩ := hp
    refine wa_aload_n C 0 rfl dX11_blank_34 rfl ?_
    refine wa_iconst C (z := 1) dX11_blank_35 rfl ?_
    refine wa_putZ C (ws' := (dW D_hasBoard 1 F_mines_3 F_moves_4 F_changes_5 G_width_6 G_height_7 G_size_8 B_parts B_longest S_groups S_askedGroup S_taken R_waitingCount R_metCount A_grade_17 A_cell_18 A_mined_19 A_withTotal_20 A_numbers_21 X_low X_high Y_low Y_high F_mined_9 F_number_10 F_state_11 F_cellsIn_12 F_unknownNear_13 F_hitNear_14 F_moveStart F_changed F_waiting F_seen G_near_15 G_nearEnd_16 B_chosen B_partOf B_rest B_unknowns B_partStart B_cells S_minedSet S_safeSet S_partSet S_tally S_askedTally S_groupOf S_groupSize S_links S_linkEnd S_pick S_groupMinedSet S_groupSafeSet O_sums O_nextSums R_found R_openEnds R_need R_waiting R_waits R_common R_met A_number Q_mined Q_all Q_choices Q_term Q_divisor Q_spare X_limbs X_sum Y_limbs Y_sum)) 0 7 dW_0 rfl (by decide) okX11 gw_465 rfl rfl (Nat.le_of_ble_eq_true rfl) (Or.inr rfl) (dWp_0_7 _) dX11_blank_36 ?_
    refine wa_aload_n C 0 rfl dX11_blank_39 rfl ?_
    refine wa_iconst C (z := 1) dX11_blank_40 rfl ?_
    refine wa_putZ C (ws' := (dW 1 1 F_mines_3 F_moves_4 F_changes_5 G_width_6 G_height_7 G_size_8 B_parts B_longest S_groups S_askedGroup S_taken R_waitingCount R_metCount A_grade_17 A_cell_18 A_mined_19 A_withTotal_20 A_numbers_21 X_low X_high Y_low Y_high F_mined_9 F_number_10 F_state_11 F_cellsIn_12 F_unknownNear_13 F_hitNear_14 F_moveStart F_changed F_waiting F_seen G_near_15 G_nearEnd_16 B_chosen B_partOf B_rest B_unknowns B_partStart B_cells S_minedSet S_safeSet S_partSet S_tally S_askedTally S_groupOf S_groupSize S_links S_linkEnd S_pick S_groupMinedSet S_groupSafeSet O_sums O_nextSums R_found R_openEnds R_need R_waiting R_waits R_common R_met A_number Q_mined Q_all Q_choices Q_term Q_divisor Q_spare X_limbs X_sum Y_limbs Y_sum)) 0 6 dW_0 rfl (by decide) okX11 gw_464 rfl rfl (Nat.le_of_ble_eq_true rfl) (Or.inr rfl) (dWp_0_6 _) dX11_blank_41 ?_
    exact ret (Nat.le_of_ble_eq_true rfl) (Nat.le_of_ble_eq_true rfl) dX11_blank_44 ⟨_, _, _, _, _, _, _, _, _, _, _, _, _, _, _, _, _, _, _, _, _, rfl, h⟩
  · replace h := h.2 c_2
    exact thr 4 (Nat.le_of_ble_eq_true rfl) (Nat.le_of_ble_eq_true rfl) xcl_4 xin_4 xat_4 (Nat.le_of_ble_eq_true rfl) dX11_blank_9 dX11_blank_12 dX11_blank_13 dX11_blank_16 ⟨by decide, _, _, _, _, _, _, _, _, _, _, _, _, _, _, _, _, _, _, _, _, _, rfl, h⟩
theorem dX11_needBoard_0 : decode cX11_needBoard 0 = .ok (.aload_n 0, 1) := by decide +kernel
theorem dX11_needBoard_1 : decode cX11_needBoard 1 = .ok (.getfield 101, 3) := by decide +kernel
theorem dX11_needBoard_4 : decode cX11_needBoard 4 = .ok (.ifCond .ne 11, 3) := by decide +kernel
theorem dX11_needBoard_7 : decode cX11_needBoard 7 = .ok (.new 256, 3) := by decide +kernel
theorem dX11_needBoard_10 : decode cX11_needBoard 10 = .ok (.dup, 1) := by decide +kernel
theorem dX11_needBoard_11 : decode cX11_needBoard 11 = .ok (.invokespecial 258, 3) := by decide +kernel
theorem dX11_needBoard_14 : decode cX11_needBoard 14 = .ok (.athrow, 1) := by decide +kernel
theorem dX11_needBoard_15 : decode cX11_needBoard 15 = .ok (.return_, 1) := by decide +kernel
theorem q_X11_needBoard : yX11_needBoard.cls = RX11 ∧ yX11_needBoard.cls ≠ "java/lang/invoke/MethodHandle" ∧ yX11_needBoard.cls ≠ "java/lang/invoke/VarHandle" ∧ (parseMethodDescriptor yX11_needBoard.desc).map (fun d => d.parameters.length) = some 0 := ⟨rfl, by decide, by decide, by decide +kernel⟩
