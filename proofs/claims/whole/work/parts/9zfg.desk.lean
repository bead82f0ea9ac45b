theorem dX11_count_1 : decode cX11_count 1 = .ok (.invokevirtual 163, 3) := by decide +kernel
theorem dX11_count_4 : decode cX11_count 4 = .ok (.iload_n 1, 1) := by decide +kernel
theorem dX11_count_5 : decode cX11_count 5 = .ok (.tableswitch 141 0 8 #[51, 62, 73, 81, 91, 101, 109, 117, 133], 51) := by decide +kernel
theorem dX11_count_56 : decode cX11_count 56 = .ok (.aload_n 0, 1) := by decide +kernel
theorem dX11_count_57 : decode cX11_count 57 = .ok (.getfield 12, 3) := by decide +kernel
theorem dX11_count_60 : decode cX11_count 60 = .ok (.getfield 234, 3) := by decide +kernel
theorem dX11_count_63 : decode cX11_count 63 = .ok (.getfield 238, 3) := by decide +kernel
theorem dX11_count_66 : decode cX11_count 66 = .ok (.ireturn, 1) := by decide +kernel
theorem dX11_count_67 : decode cX11_count 67 = .ok (.aload_n 0, 1) := by decide +kernel
theorem dX11_count_68 : decode cX11_count 68 = .ok (.getfield 12, 3) := by decide +kernel
theorem dX11_count_71 : decode cX11_count 71 = .ok (.getfield 234, 3) := by decide +kernel
theorem dX11_count_74 : decode cX11_count 74 = .ok (.getfield 241, 3) := by decide +kernel
theorem dX11_count_77 : decode cX11_count 77 = .ok (.ireturn, 1) := by decide +kernel
theorem dX11_count_78 : decode cX11_count 78 = .ok (.aload_n 0, 1) := by decide +kernel
theorem dX11_count_79 : decode cX11_count 79 = .ok (.getfield 12, 3) := by decide +kernel
theorem dX11_count_82 : decode cX11_count 82 = .ok (.getfield 122, 3) := by decide +kernel
theorem dX11_count_85 : decode cX11_count 85 = .ok (.ireturn, 1) := by decide +kernel
theorem dX11_count_86 : decode cX11_count 86 = .ok (.aload_n 0, 1) := by decide +kernel
theorem dX11_count_87 : decode cX11_count 87 = .ok (.getfield 12, 3) := by decide +kernel
theorem dX11_count_90 : decode cX11_count 90 = .ok (.getfield 244, 3) := by decide +kernel
theorem dX11_count_93 : decode cX11_count 93 = .ok (.iconst 2, 1) := by decide +kernel
theorem dX11_count_94 : decode cX11_count 94 = .ok (.iaload, 1) := by decide +kernel
theorem dX11_count_95 : decode cX11_count 95 = .ok (.ireturn, 1) := by decide +kernel
theorem dX11_count_96 : decode cX11_count 96 = .ok (.aload_n 0, 1) := by decide +kernel
theorem dX11_count_97 : decode cX11_count 97 = .ok (.getfield 12, 3) := by decide +kernel
theorem dX11_count_100 : decode cX11_count 100 = .ok (.getfield 244, 3) := by decide +kernel
theorem dX11_count_103 : decode cX11_count 103 = .ok (.iconst 1, 1) := by decide +kernel
theorem dX11_count_104 : decode cX11_count 104 = .ok (.iaload, 1) := by decide +kernel
theorem dX11_count_105 : decode cX11_count 105 = .ok (.ireturn, 1) := by decide +kernel
theorem dX11_count_106 : decode cX11_count 106 = .ok (.aload_n 0, 1) := by decide +kernel
theorem dX11_count_107 : decode cX11_count 107 = .ok (.getfield 12, 3) := by decide +kernel
theorem dX11_count_110 : decode cX11_count 110 = .ok (.invokevirtual 247, 3) := by decide +kernel
theorem dX11_count_113 : decode cX11_count 113 = .ok (.ireturn, 1) := by decide +kernel
theorem dX11_count_114 : decode cX11_count 114 = .ok (.aload_n 0, 1) := by decide +kernel
theorem dX11_count_115 : decode cX11_count 115 = .ok (.getfield 12, 3) := by decide +kernel
theorem dX11_count_118 : decode cX11_count 118 = .ok (.getfield 111, 3) := by decide +kernel
theorem dX11_count_121 : decode cX11_count 121 = .ok (.ireturn, 1) := by decide +kernel
theorem dX11_count_122 : decode cX11_count 122 = .ok (.aload_n 0, 1) := by decide +kernel
theorem dX11_count_123 : decode cX11_count 123 = .ok (.getfield 12, 3) := by decide +kernel
theorem dX11_count_126 : decode cX11_count 126 = .ok (.invokevirtual 250, 3) := by decide +kernel
theorem dX11_count_129 : decode cX11_count 129 = .ok (.ifCond .eq 7, 3) := by decide +kernel
theorem dX11_count_132 : decode cX11_count 132 = .ok (.iconst 1, 1) := by decide +kernel
theorem dX11_count_133 : decode cX11_count 133 = .ok (.goto 4, 3) := by decide +kernel
theorem dX11_count_136 : decode cX11_count 136 = .ok (.iconst 0, 1) := by decide +kernel
theorem dX11_count_137 : decode cX11_count 137 = .ok (.ireturn, 1) := by decide +kernel
theorem dX11_count_138 : decode cX11_count 138 = .ok (.aload_n 0, 1) := by decide +kernel
theorem dX11_count_139 : decode cX11_count 139 = .ok (.getfield 12, 3) := by decide +kernel
theorem dX11_count_142 : decode cX11_count 142 = .ok (.invokevirtual 253, 3) := by decide +kernel
theorem dX11_count_145 : decode cX11_count 145 = .ok (.ireturn, 1) := by decide +kernel
theorem dX11_count_146 : decode cX11_count 146 = .ok (.new 189, 3) := by decide +kernel
theorem dX11_count_149 : decode cX11_count 149 = .ok (.dup, 1) := by decide +kernel
theorem dX11_count_150 : decode cX11_count 150 = .ok (.invokespecial 191, 3) := by decide +kernel
theorem dX11_count_153 : decode cX11_count 153 = .ok (.athrow, 1) := by decide +kernel
theorem q_X11_count : yX11_count.cls = RX11 ∧ yX11_count.cls ≠ "java/lang/invoke/MethodHandle" ∧ yX11_count.cls ≠ "java/lang/invoke/VarHandle" ∧ (parseMethodDescriptor yX11_count.desc).map (fun d => d.parameters.length) = some 1 := ⟨rfl, by decide, by decide, by decide +kernel⟩
set_option maxRecDepth 100000 in
set_option maxHeartbeats 4000000 in
theorem c_X11_count (l : Launch) (hst : l.stackTraces = false) (K : wK) (ad : Nat → Nat) {D_hasBoard : Int} {D_beganBlank : Int} {F_mines : Int} {F_moves : Int} {F_changes : Int} {G_width : Int} {G_height : Int} {G_size : Int} {B_parts : Int} {B_longest : Int} {S_groups : Int} {S_askedGroup : Int} {S_taken : Int} {R_waitingCount : Int} {R_metCount : Int} {A_grade : Int} {A_cell : Int} {A_mined : Int} {A_withTotal : Int} {A_numbers : Int} {X_low : Int} {X_high : Int} {Y_low : Int} {Y_high : Int} {F_mined : Int → Int} {F_number : Int → Int} {F_state : Int → Int} {F_cellsIn : Int → Int} {F_unknownNear : Int → Int} {F_hitNear : Int → Int} {F_moveStart : Int → Int} {F_changed : Int → Int} {F_waiting : Int → Int} {F_seen : Int → Int} {G_near : Int → Int} {G_nearEnd : Int → Int} {B_chosen : Int → Int} {B_partOf : Int → Int} {B_rest : Int → Int} {B_unknowns : Int → Int} {B_partStart : Int → Int} {B_cells : Int → Int} {S_minedSet : Int → Int} {S_safeSet : Int → Int} {S_partSet : Int → Int} {S_tally : Int → Int} {S_askedTally : Int → Int} {S_groupOf : Int → Int} {S_groupSize : Int → Int} {S_links : Int → Int} {S_linkEnd : Int → Int} {S_pick : Int → Int} {S_groupMinedSet : Int → Int} {S_groupSafeSet : Int → Int} {O_sums : Int → Int64} {O_nextSums : Int → Int64} {R_found : Int → Int} {R_openEnds : Int → Int} {R_need : Int → Int} {R_waiting : Int → Int} {R_waits : Int → Int} {R_common : Int → Int} {R_met : Int → Int} {A_number : Int → Int} {Q_mined : Int → Int64} {Q_all : Int → Int64} {Q_choices : Int → Int64} {Q_term : Int → Int64} {Q_divisor : Int → Int64} {Q_spare : Int → Int64} {X_limbs : Int → Int64} {X_sum : Int → Int64} {Y_limbs : Int → Int64} {Y_sum : Int → Int64} (x1 : Int) (rx1 : inR x1) (post : Int → (Int → Int) → (Int → Int) → Prop) (px : Int → (Int → Int) → (Int → Int) → Prop) (h : P_X11_count post px D_hasBoard F_mines F_moves G_width G_height G_size F_mined F_number F_state F_cellsIn F_waiting F_seen G_near G_nearEnd x1) : xI l yX11_count (Cond.code yX11_count cX11_count 2 (some .int) :: GT) ({ frames := 8, cells := 2, slots := 12, locals := 480 } : Room) 2 12 [.ref (ad 0), .int (iI x1)] K ad (dW D_hasBoard D_beganBlank F_mines F_moves F_changes G_width G_height G_size B_parts B_longest S_groups S_askedGroup S_taken R_waitingCount R_metCount A_grade A_cell A_mined A_withTotal A_numbers X_low X_high Y_low Y_high F_mined F_number F_state F_cellsIn F_unknownNear F_hitNear F_moveStart F_changed F_waiting F_seen G_near G_nearEnd B_chosen B_partOf B_rest B_unknowns B_partStart B_cells S_minedSet S_safeSet S_partSet S_tally S_askedTally S_groupOf S_groupSize S_links S_linkEnd S_pick S_groupMinedSet S_groupSafeSet O_sums O_nextSums R_found R_openEnds R_need R_waiting R_waits R_common R_met A_number Q_mined Q_all Q_choices Q_term Q_divisor Q_spare X_limbs X_sum Y_limbs Y_sum) (fun z9 u9 => ∃ F_waiting9 F_seen9, u9 = (dW D_hasBoard D_beganBlank F_mines F_moves F_changes G_width G_height G_size B_parts B_longest S_groups S_askedGroup S_taken R_waitingCount R_metCount A_grade A_cell A_mined A_withTotal A_numbers X_low X_high Y_low Y_high F_mined F_number F_state F_cellsIn F_unknownNear F_hitNear F_moveStart F_changed F_waiting9 F_seen9 G_near G_nearEnd B_chosen B_partOf B_rest B_unknowns B_partStart B_cells S_minedSet S_safeSet S_partSet S_tally S_askedTally S_groupOf S_groupSize S_links S_linkEnd S_pick S_groupMinedSet S_groupSafeSet O_sums O_nextSums R_found R_openEnds R_need R_waiting R_waits R_common R_met A_number Q_mined Q_all Q_choices Q_term Q_divisor Q_spare X_limbs X_sum Y_limbs Y_sum) ∧ post z9 F_waiting9 F_seen9) (fun k9 u9 => (k9 = 1 ∨ k9 = 2) ∧ ∃ F_waiting9 F_seen9, u9 = (dW D_hasBoard D_beganBlank F_mines F_moves F_changes G_width G_height G_size B_parts B_longest S_groups S_askedGroup S_taken R_waitingCount R_metCount A_grade A_cell A_mined A_withTotal A_numbers X_low X_high Y_low Y_high F_mined F_number F_state F_cellsIn F_unknownNear F_hitNear F_moveStart F_changed F_waiting9 F_seen9 G_near G_nearEnd B_chosen B_partOf B_rest B_unknowns B_partStart B_cells S_minedSet S_safeSet S_partSet S_tally S_askedTally S_groupOf S_groupSize S_links S_linkEnd S_pick S_groupMinedSet S_groupSafeSet O_sums O_nextSums R_found R_openEnds R_need R_waiting R_waits R_common R_met A_number Q_mined Q_all Q_choices Q_term Q_divisor Q_spare X_limbs X_sum Y_limbs Y_sum) ∧ px k9 F_waiting9 F_seen9) := by
  refine xI_of (lv0 := [(0, .ref (ad 0)), (1, .int (iI x1))]) hst (by decide) (Nat.le_of_ble_eq_true rfl) rfl (Nat.le_of_ble_eq_true rfl) rfl rfl ?_
  intro p e s m args below meth c Q A C T ret XO thr
  replace C : Cx p ({ frames := 8, cells := 2, slots := 12, locals := 480 } : Room) m c 0 0 cX11_count 2 s args RX11 K A := C
  unfold P_X11_count at h
  refine wa_aload_n C 0 rfl dX11_count_0 rfl ?_
  refine wa_xVv C T XO (k := 0) (As := []) (rest := []) (c_X11_needBoard l hst K ad  _ _ h) gw_884 gw_881 dW_0 rfl gw_883 gs_39 gw_1 q_X11_needBoard rfl rfl rfl ⟨by decide, by decide⟩ rfl (Nat.le_of_ble_eq_true rfl) dX11_count_1 ⟨Nat.le_of_ble_eq_true rfl, Nat.le_of_ble_eq_true rfl⟩ ⟨Nat.le_of_ble_eq_true rfl, Nat.le_of_ble_eq_true rfl⟩ (fun z9 u9 hx9 => by obtain ⟨hk9, rfl, h9⟩ := hx9; exact ⟨by omega, _, _, rfl, h9⟩) (fun u9 hp => ?_)
  replace C := C.more (cells' := 1) (slots' := 6) (Nat.le_of_ble_eq_true rfl) (Nat.le_of_ble_eq_true rfl)
  obtain ⟨rfl, h⟩ := hp
  refine wa_iload_n C 1 rfl dX11_count_4 rfl ?_
  rcases (show x1 = 0 ∨ x1 = 1 ∨ x1 = 2 ∨ x1 = 3 ∨ x1 = 4 ∨ x1 = 5 ∨ x1 = 6 ∨ x1 = 7 ∨ x1 = 8 ∨ (x1 < 0 ∨ 8 < x1) by omega) with c_2 | c_2 | c_2 | c_2 | c_2 | c_2 | c_2 | c_2 | c_2 | c_2
  · replace h := h.1 c_2
    refine wa_tabIn C (tgt := 56) rx1 dX11_count_5 (by omega) (by omega) (by rw [c_2]; rfl) (by decide) ?_
    refine wa_aload_n C 0 rfl dX11_count_56 rfl ?_
    refine wa_getR C 0 0 dW_0 rfl rfl (by decide) okX11 gw_458 dX11_count_57 ?_
    refine wa_getR C 1 0 dW_1 rfl rfl (by decide) okX2 gw_88 dX11_count_60 ?_
    refine wa_getI C 2 1 dW_2 rfl rfl (by decide) okX3 gw_50 dX11_count_63 (fun r_3 => ?_)
    exact ret (Nat.le_of_ble_eq_true rfl) (Nat.le_of_ble_eq_true rfl) dX11_count_66 r_3 ⟨_, _, rfl, h⟩
  · replace h := h.2.1 c_2
    refine wa_tabIn C (tgt := 67) rx1 dX11_count_5 (by omega) (by omega) (by rw [c_2]; rfl) (by decide) ?_
    refine wa_aload_n C 0 rfl dX11_count_67 rfl ?_
    refine wa_getR C 0 0 dW_0 rfl rfl (by decide) okX11 gw_458 dX11_count_68 ?_
    refine wa_getR C 1 0 dW_1 rfl rfl (by decide) okX2 gw_88 dX11_count_71 ?_
    refine wa_getI C 2 0 dW_2 rfl rfl (by decide) okX3 gw_47 dX11_count_74 (fun r_4 => ?_)
    exact ret (Nat.le_of_ble_eq_true rfl) (Nat.le_of_ble_eq_true rfl) dX11_count_77 r_4 ⟨_, _, rfl, h⟩
  · replace h := h.2.2.1 c_2
    refine wa_tabIn C (tgt := 78) rx1 dX11_count_5 (by omega) (by omega) (by rw [c_2]; rfl) (by decide) ?_
    refine wa_aload_n C 0 rfl dX11_count_78 rfl ?_
    refine wa_getR C 0 0 dW_0 rfl rfl (by decide) okX11 gw_458 dX11_count_79 ?_
    refine wa_getI C 1 7 dW_1 rfl rfl (by decide) okX2 gw_111 dX11_count_82 (fun r_5 => ?_)
    exact ret (Nat.le_of_ble_eq_true rfl) (Nat.le_of_ble_eq_true rfl) dX11_count_85 r_5 ⟨_, _, rfl, h⟩
  · replace h := h.2.2.2.1 c_2
    refine wa_tabIn C (tgt := 86) rx1 dX11_count_5 (by omega) (by omega) (by rw [c_2]; rfl) (by decide) ?_
    refine wa_aload_n C 0 rfl dX11_count_86 rfl ?_
    refine wa_getR C 0 0 dW_0 rfl rfl (by decide) okX11 gw_458 dX11_count_87 ?_
    refine wa_getR C 1 4 dW_1 rfl rfl (by decide) okX2 gw_103 dX11_count_90 ?_
    refine wa_iconst C (z := 2) dX11_count_93 rfl ?_
    refine wa_iald C 15 dW_15 dX11_count_94 (by decide) (by decide) (fun v_6 ev_6 rv_6 => ?_)
    replace h := h v_6 ev_6 rv_6
    exact ret (Nat.le_of_ble_eq_true rfl) (Nat.le_of_ble_eq_true rfl) dX11_count_95 rv_6 ⟨_, _, rfl, h⟩
  · replace h := h.2.2.2.2.1 c_2
    refine wa_tabIn C (tgt := 96) rx1 dX11_count_5 (by omega) (by omega) (by rw [c_2]; rfl) (by decide) ?_
    refine wa_aload_n C 0 rfl dX11_count_96 rfl ?_
    refine wa_getR C 0 0 dW_0 rfl rfl (by decide) okX11 gw_458 dX11_count_97 ?_
    refine wa_getR C 1 4 dW_1 rfl rfl (by decide) okX2 gw_103 dX11_count_100 ?_
    refine wa_iconst C (z := 1) dX11_count_103 rfl ?_
    refine wa_iald C 15 dW_15 dX11_count_104 (by decide) (by decide) (fun v_7 ev_7 rv_7 => ?_)
    replace h := h v_7 ev_7 rv_7
    exact ret (Nat.le_of_ble_eq_true rfl) (Nat.le_of_ble_eq_true rfl) dX11_count_105 rv_7 ⟨_, _, rfl, h⟩
  · replace h := h.2.2.2.2.2.1 c_2
    refine wa_tabIn C (tgt := 106) rx1 dX11_count_5 (by omega) (by omega) (by rw [c_2]; rfl) (by decide) ?_
    refine wa_aload_n C 0 rfl dX11_count_106 rfl ?_
    refine wa_getR C 0 0 dW_0 rfl rfl (by decide) okX11 gw_458 dX11_count_107 ?_
    refine wa_callVi C (k := 1) (As := []) (rest := []) (c_X2_lives l K ad  _ h) gw_947 gw_1207 dW_1 rfl gw_945 gw_946 gw_2 q_X2_lives rfl rfl rfl ⟨by decide, by decide⟩ rfl (Nat.le_of_ble_eq_true rfl) dX11_count_110 (fun c_8 u9 rc_8 hp => ?_)
    obtain ⟨rfl, h⟩ := hp
    replace h := h rc_8
    exact ret (Nat.le_of_ble_eq_true rfl) (Nat.le_of_ble_eq_true rfl) dX11_count_113 rc_8 ⟨_, _, rfl, h⟩
  · replace h := h.2.2.2.2.2.2.1 c_2
    refine wa_tabIn C (tgt := 114) rx1 dX11_count_5 (by omega) (by omega) (by rw [c_2]; rfl) (by decide) ?_
    refine wa_aload_n C 0 rfl dX11_count_114 rfl ?_
    refine wa_getR C 0 0 dW_0 rfl rfl (by decide) okX11 gw_458 dX11_count_115 ?_
    refine wa_getI C 1 8 dW_1 rfl rfl (by decide) okX2 gw_113 dX11_count_118 (fun r_9 => ?_)
    exact ret (Nat.le_of_ble_eq_true rfl) (Nat.le_of_ble_eq_true rfl) dX11_count_121 r_9 ⟨_, _, rfl, h⟩
  · replace h := h.2.2.2.2.2.2.2.1 c_2
    refine wa_tabIn C (tgt := 122) rx1 dX11_count_5 (by omega) (by omega) (by rw [c_2]; rfl) (by decide) ?_
    refine wa_aload_n C 0 rfl dX11_count_122 rfl ?_
    refine wa_getR C 0 0 dW_0 rfl rfl (by decide) okX11 gw_458 dX11_count_123 ?_
    refine wa_callVi C (k := 1) (As := []) (rest := []) (c_X2_isSolved l K ad  _ h) gw_670 gw_1208 dW_1 rfl gw_668 gw_669 gw_2 q_X2_isSolved rfl rfl rfl ⟨by decide, by decide⟩ rfl (Nat.le_of_ble_eq_true rfl) dX11_count_126 (fun c_10 u9 rc_10 hp => ?_)
    obtain ⟨bc_10, rfl, h⟩ := hp
    replace h := h bc_10
    obtain ⟨J_11, h, hJ_11⟩ := h
    have k_12 : ∀ (z_13 : Int), inR z_13 → J_11 z_13 → WA p l e ({ frames := 8, cells := 2, slots := 12, locals := 480 } : Room) s m args below meth c 1 6 Q K ad 2 A 137 [] [.int (iI z_13)] (dW D_hasBoard D_beganBlank F_mines F_moves F_changes G_width G_height G_size B_parts B_longest S_groups S_askedGroup S_taken R_waitingCount R_metCount A_grade A_cell A_mined A_withTotal A_numbers X_low X_high Y_low Y_high F_mined F_number F_state F_cellsIn F_unknownNear F_hitNear F_moveStart F_changed F_waiting F_seen G_near G_nearEnd B_chosen B_partOf B_rest B_unknowns B_partStart B_cells S_minedSet S_safeSet S_partSet S_tally S_askedTally S_groupOf S_groupSize S_links S_linkEnd S_pick S_groupMinedSet S_groupSafeSet O_sums O_nextSums R_found R_openEnds R_need R_waiting R_waits R_common R_met A_number Q_mined Q_all Q_choices Q_term Q_divisor Q_spare X_limbs X_sum Y_limbs Y_sum) := by
      intro z_13 rz_13 h
      replace h := hJ_11 z_13 rz_13 h
      exact ret (Nat.le_of_ble_eq_true rfl) (Nat.le_of_ble_eq_true rfl) dX11_count_137 rz_13 ⟨_, _, rfl, h⟩
    refine wa_if_eq C (tgt := 136) (inR_b bc_10) dX11_count_129 (by decide) (fun c_14 => ?_) (fun c_14 => ?_)
    · replace h := h.1 c_14
      refine wa_iconst C (z := 0) dX11_count_136 rfl ?_
      refine wa_sub C [] rfl ?_
      exact k_12 0 (inR_k 0 rfl) h
    · replace h := h.2 c_14
      refine wa_iconst C (z := 1) dX11_count_132 rfl ?_
      refine wa_goto C (tgt := 137) dX11_count_133 (by decide) ?_
      refine wa_sub C [] rfl ?_
      exact k_12 1 (inR_k 1 rfl) h
  · replace h := h.2.2.2.2.2.2.2.2.1 c_2
    refine wa_tabIn C (tgt := 138) rx1 dX11_count_5 (by omega) (by omega) (by rw [c_2]; rfl) (by decide) ?_
    refine wa_aload_n C 0 rfl dX11_count_138 rfl ?_
    refine wa_getR C 0 0 dW_0 rfl rfl (by decide) okX11 gw_458 dX11_count_139 ?_
    refine wa_callVi C (k := 1) (As := []) (rest := []) (c_X2_leastOpenings l K ad  _ h) gw_1212 gw_1209 dW_1 rfl gw_1210 gw_1211 gw_2 q_X2_leastOpenings rfl rfl rfl ⟨by decide, by decide⟩ rfl (Nat.le_of_ble_eq_true rfl) dX11_count_142 (fun c_15 u9 rc_15 hp => ?_)
    obtain ⟨F_waiting_16, F_seen_17, rfl, h⟩ := hp
    replace h := h rc_15
    exact ret (Nat.le_of_ble_eq_true rfl) (Nat.le_of_ble_eq_true rfl) dX11_count_145 rc_15 ⟨_, _, rfl, h⟩
  · replace h := h.2.2.2.2.2.2.2.2.2 c_2
    refine wa_tabOut C (tgt := 146) rx1 dX11_count_5 c_2 (by decide) ?_
    exact thr 2 (Nat.le_of_ble_eq_true rfl) (Nat.le_of_ble_eq_true rfl) xcl_2 xin_2 xat_2 (Nat.le_of_ble_eq_true rfl) dX11_count_146 dX11_count_149 dX11_count_150 dX11_count_153 ⟨by decide, _, _, rfl, h⟩
