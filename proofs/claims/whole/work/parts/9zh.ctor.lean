theorem ga_I : Cond.arrayClass .int ∈ GT := gt_1 81 (by decide +kernel) rfl
theorem ga_Z : Cond.arrayClass .boolean ∈ GT := gt_1 148 (by decide +kernel) rfl
theorem ga_J : Cond.arrayClass .long ∈ GT := gt_2 48 (by decide +kernel) rfl
theorem ga_oi : Cond.instanceMethod Lib.objectInit ∈ GT := gt_1 31 (by decide +kernel) rfl
theorem ga_oc : Cond.code Lib.objectInit ⟨#[0xb1]⟩ 1 none ∈ GT := gt_1 32 (by decide +kernel) rfl
theorem dX3_init_0 : decode cX3_init 0 = .ok (.aload_n 0, 1) := by decide +kernel
theorem dX3_init_1 : decode cX3_init 1 = .ok (.invokespecial 3, 3) := by decide +kernel
theorem dX3_init_4 : decode cX3_init 4 = .ok (.aload_n 0, 1) := by decide +kernel
theorem dX3_init_5 : decode cX3_init 5 = .ok (.sipush 1152, 3) := by decide +kernel
theorem dX3_init_8 : decode cX3_init 8 = .ok (.newarray .int, 2) := by decide +kernel
theorem dX3_init_10 : decode cX3_init 10 = .ok (.putfield 11, 3) := by decide +kernel
theorem dX3_init_13 : decode cX3_init 13 = .ok (.aload_n 0, 1) := by decide +kernel
theorem dX3_init_14 : decode cX3_init 14 = .ok (.sipush 144, 3) := by decide +kernel
theorem dX3_init_17 : decode cX3_init 17 = .ok (.newarray .int, 2) := by decide +kernel
theorem dX3_init_19 : decode cX3_init 19 = .ok (.putfield 15, 3) := by decide +kernel
theorem dX3_init_22 : decode cX3_init 22 = .ok (.return_, 1) := by decide +kernel
set_option maxRecDepth 100000 in
set_option maxHeartbeats 4000000 in
theorem k_X3 (l : Launch) (K : wK) (h0 : Nat)  : kV l yX3_init (Cond.code yX3_init cX3_init 1 none :: GT) ({ frames := 2, cells := 2, slots := 1296, locals := 120 } : Room) 2 1296 [.ref h0] K [(h0, .inr (3, [.int 0, .int 0, .int 0, .null, .null]))] (fun u => ∃ q1 q2 : Nat, u = [(h0, .inr (3, [.int 0, .int 0, .int 0, .ref q1, .ref q2])), (q1, zI K 1152), (q2, zI K 144)]) := by
  refine kV_of (lv0 := [(0, .ref h0)]) (by decide) (Nat.le_of_ble_eq_true rfl) rfl rfl ?_
  intro p e s m args below meth c Q A C hin N ret
  replace C : Cx p ({ frames := 2, cells := 2, slots := 1296, locals := 120 } : Room) m c 0 0 cX3_init 1 s args RX3 K A := C
  refine wn_aload_n C 0 rfl dX3_init_0 rfl ?_
  refine wn_obj C (gt_1 44 (by decide +kernel) rfl) ga_oi ga_oc dX3_init_1 (Nat.le_of_ble_eq_true rfl) (Nat.le_of_ble_eq_true rfl) ?_
  refine wn_aload_n C 0 rfl dX3_init_4 rfl ?_
  refine wn_sipush C (z := 1152) dX3_init_5 (by decide) ?_
  refine wn_newI C ga_I (inR_k 1152 rfl) rfl (Nat.le_of_ble_eq_true rfl) (Nat.le_of_ble_eq_true rfl) (Nat.le_of_ble_eq_true rfl) dX3_init_8 (fun q1 => ?_)
  replace C := C.more (cells' := 1) (slots' := 1152) (Nat.le_of_ble_eq_true rfl) (Nat.le_of_ble_eq_true rfl)
  refine wn_putR C hin (w' := [(h0, .inr (3, [.int 0, .int 0, .int 0, .ref q1, .null])), (q1, zI K 1152)]) 0 3 rfl rfl (by decide) okX3 gw_58 rfl rfl rfl rfl rfl (Nat.le_of_ble_eq_true rfl) rfl dX3_init_10 ?_
  refine wn_aload_n C 0 rfl dX3_init_13 rfl ?_
  refine wn_sipush C (z := 144) dX3_init_14 (by decide) ?_
  refine wn_newI C ga_I (inR_k 144 rfl) rfl (Nat.le_of_ble_eq_true rfl) (Nat.le_of_ble_eq_true rfl) (Nat.le_of_ble_eq_true rfl) dX3_init_17 (fun q2 => ?_)
  replace C := C.more (cells' := 2) (slots' := 1296) (Nat.le_of_ble_eq_true rfl) (Nat.le_of_ble_eq_true rfl)
  refine wn_putR C hin (w' := [(h0, .inr (3, [.int 0, .int 0, .int 0, .ref q1, .ref q2])), (q1, zI K 1152), (q2, zI K 144)]) 0 4 rfl rfl (by decide) okX3 gw_64 rfl rfl rfl rfl rfl (Nat.le_of_ble_eq_true rfl) rfl dX3_init_19 ?_
  exact ret (Nat.le_of_ble_eq_true rfl) (Nat.le_of_ble_eq_true rfl) dX3_init_22 ⟨_, _, rfl⟩
theorem dX2_init_0 : decode cX2_init 0 = .ok (.aload_n 0, 1) := by decide +kernel
theorem dX2_init_1 : decode cX2_init 1 = .ok (.invokespecial 3, 3) := by decide +kernel
theorem dX2_init_4 : decode cX2_init 4 = .ok (.aload_n 0, 1) := by decide +kernel
theorem dX2_init_5 : decode cX2_init 5 = .ok (.new 9, 3) := by decide +kernel
theorem dX2_init_8 : decode cX2_init 8 = .ok (.dup, 1) := by decide +kernel
theorem dX2_init_9 : decode cX2_init 9 = .ok (.invokespecial 11, 3) := by decide +kernel
theorem dX2_init_12 : decode cX2_init 12 = .ok (.putfield 12, 3) := by decide +kernel
theorem dX2_init_15 : decode cX2_init 15 = .ok (.aload_n 0, 1) := by decide +kernel
theorem dX2_init_16 : decode cX2_init 16 = .ok (.sipush 144, 3) := by decide +kernel
theorem dX2_init_19 : decode cX2_init 19 = .ok (.newarray .boolean, 2) := by decide +kernel
theorem dX2_init_21 : decode cX2_init 21 = .ok (.putfield 18, 3) := by decide +kernel
theorem dX2_init_24 : decode cX2_init 24 = .ok (.aload_n 0, 1) := by decide +kernel
theorem dX2_init_25 : decode cX2_init 25 = .ok (.sipush 144, 3) := by decide +kernel
theorem dX2_init_28 : decode cX2_init 28 = .ok (.newarray .int, 2) := by decide +kernel
theorem dX2_init_30 : decode cX2_init 30 = .ok (.putfield 22, 3) := by decide +kernel
theorem dX2_init_33 : decode cX2_init 33 = .ok (.aload_n 0, 1) := by decide +kernel
theorem dX2_init_34 : decode cX2_init 34 = .ok (.sipush 144, 3) := by decide +kernel
theorem dX2_init_37 : decode cX2_init 37 = .ok (.newarray .int, 2) := by decide +kernel
theorem dX2_init_39 : decode cX2_init 39 = .ok (.putfield 26, 3) := by decide +kernel
theorem dX2_init_42 : decode cX2_init 42 = .ok (.aload_n 0, 1) := by decide +kernel
theorem dX2_init_43 : decode cX2_init 43 = .ok (.iconst 4, 1) := by decide +kernel
theorem dX2_init_44 : decode cX2_init 44 = .ok (.newarray .int, 2) := by decide +kernel
theorem dX2_init_46 : decode cX2_init 46 = .ok (.putfield 29, 3) := by decide +kernel
theorem dX2_init_49 : decode cX2_init 49 = .ok (.aload_n 0, 1) := by decide +kernel
theorem dX2_init_50 : decode cX2_init 50 = .ok (.sipush 144, 3) := by decide +kernel
theorem dX2_init_53 : decode cX2_init 53 = .ok (.newarray .int, 2) := by decide +kernel
theorem dX2_init_55 : decode cX2_init 55 = .ok (.putfield 32, 3) := by decide +kernel
theorem dX2_init_58 : decode cX2_init 58 = .ok (.aload_n 0, 1) := by decide +kernel
theorem dX2_init_59 : decode cX2_init 59 = .ok (.sipush 144, 3) := by decide +kernel
theorem dX2_init_62 : decode cX2_init 62 = .ok (.newarray .int, 2) := by decide +kernel
theorem dX2_init_64 : decode cX2_init 64 = .ok (.putfield 35, 3) := by decide +kernel
theorem dX2_init_67 : decode cX2_init 67 = .ok (.aload_n 0, 1) := by decide +kernel
theorem dX2_init_68 : decode cX2_init 68 = .ok (.sipush 512, 3) := by decide +kernel
theorem dX2_init_71 : decode cX2_init 71 = .ok (.newarray .int, 2) := by decide +kernel
theorem dX2_init_73 : decode cX2_init 73 = .ok (.putfield 38, 3) := by decide +kernel
theorem dX2_init_76 : decode cX2_init 76 = .ok (.aload_n 0, 1) := by decide +kernel
theorem dX2_init_77 : decode cX2_init 77 = .ok (.sipush 656, 3) := by decide +kernel
theorem dX2_init_80 : decode cX2_init 80 = .ok (.newarray .int, 2) := by decide +kernel
theorem dX2_init_82 : decode cX2_init 82 = .ok (.putfield 41, 3) := by decide +kernel
theorem dX2_init_85 : decode cX2_init 85 = .ok (.aload_n 0, 1) := by decide +kernel
theorem dX2_init_86 : decode cX2_init 86 = .ok (.sipush 144, 3) := by decide +kernel
theorem dX2_init_89 : decode cX2_init 89 = .ok (.newarray .int, 2) := by decide +kernel
theorem dX2_init_91 : decode cX2_init 91 = .ok (.putfield 44, 3) := by decide +kernel
theorem dX2_init_94 : decode cX2_init 94 = .ok (.aload_n 0, 1) := by decide +kernel
theorem dX2_init_95 : decode cX2_init 95 = .ok (.sipush 144, 3) := by decide +kernel
theorem dX2_init_98 : decode cX2_init 98 = .ok (.newarray .boolean, 2) := by decide +kernel
theorem dX2_init_100 : decode cX2_init 100 = .ok (.putfield 47, 3) := by decide +kernel
theorem dX2_init_103 : decode cX2_init 103 = .ok (.return_, 1) := by decide +kernel
set_option maxRecDepth 100000 in
set_option maxHeartbeats 4000000 in
theorem k_X2 (l : Launch) (K : wK) (h0 : Nat)  : kV l yX2_init (Cond.code yX2_init cX2_init 1 none :: GT) ({ frames := 3, cells := 13, slots := 3481, locals := 180 } : Room) 13 3481 [.ref h0] K [(h0, .inr (2, [.null, .null, .null, .null, .null, .null, .null, .int 0, .int 0, .null, .null, .int 0, .null, .null]))] (fun u => ∃ q1 q2 q3 q4 q5 q6 q7 q8 q9 q10 q11 q12 q13 : Nat, u = [(h0, .inr (2, [.ref q1, .ref q4, .ref q5, .ref q6, .ref q7, .ref q8, .ref q9, .int 0, .int 0, .ref q10, .ref q11, .int 0, .ref q12, .ref q13])), (q1, .inr (3, [.int 0, .int 0, .int 0, .ref q2, .ref q3])), (q2, zI K 1152), (q3, zI K 144), (q4, zZ K 144), (q5, zI K 144), (q6, zI K 144), (q7, zI K 4), (q8, zI K 144), (q9, zI K 144), (q10, zI K 512), (q11, zI K 656), (q12, zI K 144), (q13, zZ K 144)]) := by
  refine kV_of (lv0 := [(0, .ref h0)]) (by decide) (Nat.le_of_ble_eq_true rfl) rfl rfl ?_
  intro p e s m args below meth c Q A C hin N ret
  replace C : Cx p ({ frames := 3, cells := 13, slots := 3481, locals := 180 } : Room) m c 0 0 cX2_init 1 s args RX2 K A := C
  refine wn_aload_n C 0 rfl dX2_init_0 rfl ?_
  refine wn_obj C (gt_1 38 (by decide +kernel) rfl) ga_oi ga_oc dX2_init_1 (Nat.le_of_ble_eq_true rfl) (Nat.le_of_ble_eq_true rfl) ?_
  refine wn_aload_n C 0 rfl dX2_init_4 rfl ?_
  refine wn_new C (ci := 3) (fs := [.int 0, .int 0, .int 0, .null, .null]) tyX3_ok okX3 (gt_1 39 (by decide +kernel) rfl) (gt_1 40 (by decide +kernel) rfl) gw_3 rfl (fun j hj => by rcases (show j = 0 ∨ j = 1 ∨ j = 2 ∨ j = 3 ∨ j = 4 by omega) with rfl | rfl | rfl | rfl | rfl <;> rfl) (Nat.le_of_ble_eq_true rfl) (Nat.le_of_ble_eq_true rfl) dX2_init_5 (fun q1 => ?_)
  replace C := C.more (cells' := 1) (slots' := 5) (Nat.le_of_ble_eq_true rfl) (Nat.le_of_ble_eq_true rfl)
  refine wn_dup C dX2_init_8 rfl ?_
  refine wn_callN C N (As := []) (rest := [.ref q1, .ref h0]) (wr := [(h0, .inr (2, [.null, .null, .null, .null, .null, .null, .null, .int 0, .int 0, .null, .null, .int 0, .null, .null]))]) (k_X3 l K q1) [1] [0] rfl rfl (by decide) (by decide) (by decide) gw_43 (by decide +kernel) gw_42 gw_3 ⟨by decide, by decide, by decide +kernel⟩ rfl rfl rfl rfl ⟨by decide, by decide⟩ rfl (Nat.le_of_ble_eq_true rfl) dX2_init_9 ⟨(Nat.le_of_ble_eq_true rfl), (Nat.le_of_ble_eq_true rfl)⟩ (fun w1 hw1 => ?_)
  obtain ⟨q2, q3, rfl⟩ := hw1
  replace C := C.more (cells' := 3) (slots' := 1301) (Nat.le_of_ble_eq_true rfl) (Nat.le_of_ble_eq_true rfl)
  refine wn_putR C hin (w' := [(h0, .inr (2, [.ref q1, .null, .null, .null, .null, .null, .null, .int 0, .int 0, .null, .null, .int 0, .null, .null])), (q1, .inr (3, [.int 0, .int 0, .int 0, .ref q2, .ref q3])), (q2, zI K 1152), (q3, zI K 144)]) 0 0 rfl rfl (by decide) okX2 gw_83 rfl rfl rfl rfl rfl (Nat.le_of_ble_eq_true rfl) rfl dX2_init_12 ?_
  refine wn_aload_n C 0 rfl dX2_init_15 rfl ?_
  refine wn_sipush C (z := 144) dX2_init_16 (by decide) ?_
  refine wn_newZ C ga_Z (inR_k 144 rfl) rfl (Nat.le_of_ble_eq_true rfl) (Nat.le_of_ble_eq_true rfl) (Nat.le_of_ble_eq_true rfl) dX2_init_19 (fun q4 => ?_)
  replace C := C.more (cells' := 4) (slots' := 1445) (Nat.le_of_ble_eq_true rfl) (Nat.le_of_ble_eq_true rfl)
  refine wn_putR C hin (w' := [(h0, .inr (2, [.ref q1, .ref q4, .null, .null, .null, .null, .null, .int 0, .int 0, .null, .null, .int 0, .null, .null])), (q1, .inr (3, [.int 0, .int 0, .int 0, .ref q2, .ref q3])), (q2, zI K 1152), (q3, zI K 144), (q4, zZ K 144)]) 0 1 rfl rfl (by decide) okX2 gw_89 rfl rfl rfl rfl rfl (Nat.le_of_ble_eq_true rfl) rfl dX2_init_21 ?_
  refine wn_aload_n C 0 rfl dX2_init_24 rfl ?_
  refine wn_sipush C (z := 144) dX2_init_25 (by decide) ?_
  refine wn_newI C ga_I (inR_k 144 rfl) rfl (Nat.le_of_ble_eq_true rfl) (Nat.le_of_ble_eq_true rfl) (Nat.le_of_ble_eq_true rfl) dX2_init_28 (fun q5 => ?_)
  replace C := C.more (cells' := 5) (slots' := 1589) (Nat.le_of_ble_eq_true rfl) (Nat.le_of_ble_eq_true rfl)
  refine wn_putR C hin (w' := [(h0, .inr (2, [.ref q1, .ref q4, .ref q5, .null, .null, .null, .null, .int 0, .int 0, .null, .null, .int 0, .null, .null])), (q1, .inr (3, [.int 0, .int 0, .int 0, .ref q2, .ref q3])), (q2, zI K 1152), (q3, zI K 144), (q4, zZ K 144), (q5, zI K 144)]) 0 2 rfl rfl (by decide) okX2 gw_92 rfl rfl rfl rfl rfl (Nat.le_of_ble_eq_true rfl) rfl dX2_init_30 ?_
  refine wn_aload_n C 0 rfl dX2_init_33 rfl ?_
  refine wn_sipush C (z := 144) dX2_init_34 (by decide) ?_
  refine wn_newI C ga_I (inR_k 144 rfl) rfl (Nat.le_of_ble_eq_true rfl) (Nat.le_of_ble_eq_true rfl) (Nat.le_of_ble_eq_true rfl) dX2_init_37 (fun q6 => ?_)
  replace C := C.more (cells' := 6) (slots' := 1733) (Nat.le_of_ble_eq_true rfl) (Nat.le_of_ble_eq_true rfl)
  refine wn_putR C hin (w' := [(h0, .inr (2, [.ref q1, .ref q4, .ref q5, .ref q6, .null, .null, .null, .int 0, .int 0, .null, .null, .int 0, .null, .null])), (q1, .inr (3, [.int 0, .int 0, .int 0, .ref q2, .ref q3])), (q2, zI K 1152), (q3, zI K 144), (q4, zZ K 144), (q5, zI K 144), (q6, zI K 144)]) 0 3 rfl rfl (by decide) okX2 gw_96 rfl rfl rfl rfl rfl (Nat.le_of_ble_eq_true rfl) rfl dX2_init_39 ?_
  refine wn_aload_n C 0 rfl dX2_init_42 rfl ?_
  refine wn_iconst C (z := 4) dX2_init_43 rfl ?_
  refine wn_newI C ga_I (inR_k 4 rfl) rfl (Nat.le_of_ble_eq_true rfl) (Nat.le_of_ble_eq_true rfl) (Nat.le_of_ble_eq_true rfl) dX2_init_44 (fun q7 => ?_)
  replace C := C.more (cells' := 7) (slots' := 1737) (Nat.le_of_ble_eq_true rfl) (Nat.le_of_ble_eq_true rfl)
  refine wn_putR C hin (w' := [(h0, .inr (2, [.ref q1, .ref q4, .ref q5, .ref q6, .ref q7, .null, .null, .int 0, .int 0, .null, .null, .int 0, .null, .null])), (q1, .inr (3, [.int 0, .int 0, .int 0, .ref q2, .ref q3])), (q2, zI K 1152), (q3, zI K 144), (q4, zZ K 144), (q5, zI K 144), (q6, zI K 144), (q7, zI K 4)]) 0 4 rfl rfl (by decide) okX2 gw_102 rfl rfl rfl rfl rfl (Nat.le_of_ble_eq_true rfl) rfl dX2_init_46 ?_
  refine wn_aload_n C 0 rfl dX2_init_49 rfl ?_
  refine wn_sipush C (z := 144) dX2_init_50 (by decide) ?_
  refine wn_newI C ga_I (inR_k 144 rfl) rfl (Nat.le_of_ble_eq_true rfl) (Nat.le_of_ble_eq_true rfl) (Nat.le_of_ble_eq_true rfl) dX2_init_53 (fun q8 => ?_)
  replace C := C.more (cells' := 8) (slots' := 1881) (Nat.le_of_ble_eq_true rfl) (Nat.le_of_ble_eq_true rfl)
  refine wn_putR C hin (w' := [(h0, .inr (2, [.ref q1, .ref q4, .ref q5, .ref q6, .ref q7, .ref q8, .null, .int 0, .int 0, .null, .null, .int 0, .null, .null])), (q1, .inr (3, [.int 0, .int 0, .int 0, .ref q2, .ref q3])), (q2, zI K 1152), (q3, zI K 144), (q4, zZ K 144), (q5, zI K 144), (q6, zI K 144), (q7, zI K 4), (q8, zI K 144)]) 0 5 rfl rfl (by decide) okX2 gw_104 rfl rfl rfl rfl rfl (Nat.le_of_ble_eq_true rfl) rfl dX2_init_55 ?_
  refine wn_aload_n C 0 rfl dX2_init_58 rfl ?_
  refine wn_sipush C (z := 144) dX2_init_59 (by decide) ?_
  refine wn_newI C ga_I (inR_k 144 rfl) rfl (Nat.le_of_ble_eq_true rfl) (Nat.le_of_ble_eq_true rfl) (Nat.le_of_ble_eq_true rfl) dX2_init_62 (fun q9 => ?_)
  replace C := C.more (cells' := 9) (slots' := 2025) (Nat.le_of_ble_eq_true rfl) (Nat.le_of_ble_eq_true rfl)
  refine wn_putR C hin (w' := [(h0, .inr (2, [.ref q1, .ref q4, .ref q5, .ref q6, .ref q7, .ref q8, .ref q9, .int 0, .int 0, .null, .null, .int 0, .null, .null])), (q1, .inr (3, [.int 0, .int 0, .int 0, .ref q2, .ref q3])), (q2, zI K 1152), (q3, zI K 144), (q4, zZ K 144), (q5, zI K 144), (q6, zI K 144), (q7, zI K 4), (q8, zI K 144), (q9, zI K 144)]) 0 6 rfl rfl (by decide) okX2 gw_107 rfl rfl rfl rfl rfl (Nat.le_of_ble_eq_true rfl) rfl dX2_init_64 ?_
  refine wn_aload_n C 0 rfl dX2_init_67 rfl ?_
  refine wn_sipush C (z := 512) dX2_init_68 (by decide) ?_
  refine wn_newI C ga_I (inR_k 512 rfl) rfl (Nat.le_of_ble_eq_true rfl) (Nat.le_of_ble_eq_true rfl) (Nat.le_of_ble_eq_true rfl) dX2_init_71 (fun q10 => ?_)
  replace C := C.more (cells' := 10) (slots' := 2537) (Nat.le_of_ble_eq_true rfl) (Nat.le_of_ble_eq_true rfl)
  refine wn_putR C hin (w' := [(h0, .inr (2, [.ref q1, .ref q4, .ref q5, .ref q6, .ref q7, .ref q8, .ref q9, .int 0, .int 0, .ref q10, .null, .int 0, .null, .null])), (q1, .inr (3, [.int 0, .int 0, .int 0, .ref q2, .ref q3])), (q2, zI K 1152), (q3, zI K 144), (q4, zZ K 144), (q5, zI K 144), (q6, zI K 144), (q7, zI K 4), (q8, zI K 144), (q9, zI K 144), (q10, zI K 512)]) 0 9 rfl rfl (by decide) okX2 gw_114 rfl rfl rfl rfl rfl (Nat.le_of_ble_eq_true rfl) rfl dX2_init_73 ?_
  refine wn_aload_n C 0 rfl dX2_init_76 rfl ?_
  refine wn_sipush C (z := 656) dX2_init_77 (by decide) ?_
  refine wn_newI C ga_I (inR_k 656 rfl) rfl (Nat.le_of_ble_eq_true rfl) (Nat.le_of_ble_eq_true rfl) (Nat.le_of_ble_eq_true rfl) dX2_init_80 (fun q11 => ?_)
  replace C := C.more (cells' := 11) (slots' := 3193) (Nat.le_of_ble_eq_true rfl) (Nat.le_of_ble_eq_true rfl)
  refine wn_putR C hin (w' := [(h0, .inr (2, [.ref q1, .ref q4, .ref q5, .ref q6, .ref q7, .ref q8, .ref q9, .int 0, .int 0, .ref q10, .ref q11, .int 0, .null, .null])), (q1, .inr (3, [.int 0, .int 0, .int 0, .ref q2, .ref q3])), (q2, zI K 1152), (q3, zI K 144), (q4, zZ K 144), (q5, zI K 144), (q6, zI K 144), (q7, zI K 4), (q8, zI K 144), (q9, zI K 144), (q10, zI K 512), (q11, zI K 656)]) 0 10 rfl rfl (by decide) okX2 gw_115 rfl rfl rfl rfl rfl (Nat.le_of_ble_eq_true rfl) rfl dX2_init_82 ?_
  refine wn_aload_n C 0 rfl dX2_init_85 rfl ?_
  refine wn_sipush C (z := 144) dX2_init_86 (by decide) ?_
  refine wn_newI C ga_I (inR_k 144 rfl) rfl (Nat.le_of_ble_eq_true rfl) (Nat.le_of_ble_eq_true rfl) (Nat.le_of_ble_eq_true rfl) dX2_init_89 (fun q12 => ?_)
  replace C := C.more (cells' := 12) (slots' := 3337) (Nat.le_of_ble_eq_true rfl) (Nat.le_of_ble_eq_true rfl)
  refine wn_putR C hin (w' := [(h0, .inr (2, [.ref q1, .ref q4, .ref q5, .ref q6, .ref q7, .ref q8, .ref q9, .int 0, .int 0, .ref q10, .ref q11, .int 0, .ref q12, .null])), (q1, .inr (3, [.int 0, .int 0, .int 0, .ref q2, .ref q3])), (q2, zI K 1152), (q3, zI K 144), (q4, zZ K 144), (q5, zI K 144), (q6, zI K 144), (q7, zI K 4), (q8, zI K 144), (q9, zI K 144), (q10, zI K 512), (q11, zI K 656), (q12, zI K 144)]) 0 12 rfl rfl (by decide) okX2 gw_117 rfl rfl rfl rfl rfl (Nat.le_of_ble_eq_true rfl) rfl dX2_init_91 ?_
  refine wn_aload_n C 0 rfl dX2_init_94 rfl ?_
  refine wn_sipush C (z := 144) dX2_init_95 (by decide) ?_
  refine wn_newZ C ga_Z (inR_k 144 rfl) rfl (Nat.le_of_ble_eq_true rfl) (Nat.le_of_ble_eq_true rfl) (Nat.le_of_ble_eq_true rfl) dX2_init_98 (fun q13 => ?_)
  replace C := C.more (cells' := 13) (slots' := 3481) (Nat.le_of_ble_eq_true rfl) (Nat.le_of_ble_eq_true rfl)
  refine wn_putR C hin (w' := [(h0, .inr (2, [.ref q1, .ref q4, .ref q5, .ref q6, .ref q7, .ref q8, .ref q9, .int 0, .int 0, .ref q10, .ref q11, .int 0, .ref q12, .ref q13])), (q1, .inr (3, [.int 0, .int 0, .int 0, .ref q2, .ref q3])), (q2, zI K 1152), (q3, zI K 144), (q4, zZ K 144), (q5, zI K 144), (q6, zI K 144), (q7, zI K 4), (q8, zI K 144), (q9, zI K 144), (q10, zI K 512), (q11, zI K 656), (q12, zI K 144), (q13, zZ K 144)]) 0 13 rfl rfl (by decide) okX2 gw_118 rfl rfl rfl rfl rfl (Nat.le_of_ble_eq_true rfl) rfl dX2_init_100 ?_
  exact ret (Nat.le_of_ble_eq_true rfl) (Nat.le_of_ble_eq_true rfl) dX2_init_103 ⟨_, _, _, _, _, _, _, _, _, _, _, _, _, rfl⟩
theorem dX1_init_0 : decode cX1_init 0 = .ok (.aload_n 0, 1) := by decide +kernel
theorem dX1_init_1 : decode cX1_init 1 = .ok (.invokespecial 3, 3) := by decide +kernel
theorem dX1_init_4 : decode cX1_init 4 = .ok (.aload_n 0, 1) := by decide +kernel
theorem dX1_init_5 : decode cX1_init 5 = .ok (.sipush 144, 3) := by decide +kernel
theorem dX1_init_8 : decode cX1_init 8 = .ok (.newarray .boolean, 2) := by decide +kernel
theorem dX1_init_10 : decode cX1_init 10 = .ok (.putfield 9, 3) := by decide +kernel
theorem dX1_init_13 : decode cX1_init 13 = .ok (.aload_n 0, 1) := by decide +kernel
theorem dX1_init_14 : decode cX1_init 14 = .ok (.sipush 144, 3) := by decide +kernel
theorem dX1_init_17 : decode cX1_init 17 = .ok (.newarray .int, 2) := by decide +kernel
theorem dX1_init_19 : decode cX1_init 19 = .ok (.putfield 15, 3) := by decide +kernel
theorem dX1_init_22 : decode cX1_init 22 = .ok (.aload_n 0, 1) := by decide +kernel
theorem dX1_init_23 : decode cX1_init 23 = .ok (.sipush 144, 3) := by decide +kernel
theorem dX1_init_26 : decode cX1_init 26 = .ok (.newarray .int, 2) := by decide +kernel
theorem dX1_init_28 : decode cX1_init 28 = .ok (.putfield 19, 3) := by decide +kernel
theorem dX1_init_31 : decode cX1_init 31 = .ok (.aload_n 0, 1) := by decide +kernel
theorem dX1_init_32 : decode cX1_init 32 = .ok (.sipush 144, 3) := by decide +kernel
theorem dX1_init_35 : decode cX1_init 35 = .ok (.newarray .int, 2) := by decide +kernel
theorem dX1_init_37 : decode cX1_init 37 = .ok (.putfield 22, 3) := by decide +kernel
theorem dX1_init_40 : decode cX1_init 40 = .ok (.aload_n 0, 1) := by decide +kernel
theorem dX1_init_41 : decode cX1_init 41 = .ok (.sipush 145, 3) := by decide +kernel
theorem dX1_init_44 : decode cX1_init 44 = .ok (.newarray .int, 2) := by decide +kernel
theorem dX1_init_46 : decode cX1_init 46 = .ok (.putfield 25, 3) := by decide +kernel
theorem dX1_init_49 : decode cX1_init 49 = .ok (.aload_n 0, 1) := by decide +kernel
theorem dX1_init_50 : decode cX1_init 50 = .ok (.sipush 144, 3) := by decide +kernel
theorem dX1_init_53 : decode cX1_init 53 = .ok (.newarray .int, 2) := by decide +kernel
theorem dX1_init_55 : decode cX1_init 55 = .ok (.putfield 28, 3) := by decide +kernel
theorem dX1_init_58 : decode cX1_init 58 = .ok (.aload_n 0, 1) := by decide +kernel
theorem dX1_init_59 : decode cX1_init 59 = .ok (.aload_n 1, 1) := by decide +kernel
theorem dX1_init_60 : decode cX1_init 60 = .ok (.putfield 31, 3) := by decide +kernel
theorem dX1_init_63 : decode cX1_init 63 = .ok (.aload_n 0, 1) := by decide +kernel
theorem dX1_init_64 : decode cX1_init 64 = .ok (.aload_n 1, 1) := by decide +kernel
theorem dX1_init_65 : decode cX1_init 65 = .ok (.getfield 35, 3) := by decide +kernel
theorem dX1_init_68 : decode cX1_init 68 = .ok (.putfield 41, 3) := by decide +kernel
theorem dX1_init_71 : decode cX1_init 71 = .ok (.return_, 1) := by decide +kernel
set_option maxRecDepth 100000 in
set_option maxHeartbeats 4000000 in
theorem k_X1 (l : Launch) (K : wK) (h0 : Nat) (a1 : Nat) (f1 : List Value) (g1_0 : Nat) (e1_0 : f1[0]? = some (.ref g1_0)) : kV l yX1_init (Cond.code yX1_init cX1_init 2 none :: GT) ({ frames := 2, cells := 6, slots := 865, locals := 120 } : Room) 6 865 [.ref h0, .ref a1] K [(h0, .inr (1, [.null, .null, .null, .null, .null, .null, .null, .null, .int 0, .int 0])), (a1, .inr (2, f1))] (fun u => ∃ q1 q2 q3 q4 q5 q6 : Nat, u = [(h0, .inr (1, [.ref a1, .ref g1_0, .ref q1, .ref q2, .ref q3, .ref q4, .ref q5, .ref q6, .int 0, .int 0])), (a1, .inr (2, f1)), (q1, zZ K 144), (q2, zI K 144), (q3, zI K 144), (q4, zI K 144), (q5, zI K 145), (q6, zI K 144)]) := by
  refine kV_of (lv0 := [(0, .ref h0), (1, .ref a1)]) (by decide) (Nat.le_of_ble_eq_true rfl) rfl rfl ?_
  intro p e s m args below meth c Q A C hin N ret
  replace C : Cx p ({ frames := 2, cells := 6, slots := 865, locals := 120 } : Room) m c 0 0 cX1_init 2 s args RX1 K A := C
  refine wn_aload_n C 0 rfl dX1_init_0 rfl ?_
  refine wn_obj C (gt_1 154 (by decide +kernel) rfl) ga_oi ga_oc dX1_init_1 (Nat.le_of_ble_eq_true rfl) (Nat.le_of_ble_eq_true rfl) ?_
  refine wn_aload_n C 0 rfl dX1_init_4 rfl ?_
  refine wn_sipush C (z := 144) dX1_init_5 (by decide) ?_
  refine wn_newZ C ga_Z (inR_k 144 rfl) rfl (Nat.le_of_ble_eq_true rfl) (Nat.le_of_ble_eq_true rfl) (Nat.le_of_ble_eq_true rfl) dX1_init_8 (fun q1 => ?_)
  replace C := C.more (cells' := 1) (slots' := 144) (Nat.le_of_ble_eq_true rfl) (Nat.le_of_ble_eq_true rfl)
  refine wn_putR C hin (w' := [(h0, .inr (1, [.null, .null, .ref q1, .null, .null, .null, .null, .null, .int 0, .int 0])), (a1, .inr (2, f1)), (q1, zZ K 144)]) 0 2 rfl rfl (by decide) okX1 gw_160 rfl rfl rfl rfl rfl (Nat.le_of_ble_eq_true rfl) rfl dX1_init_10 ?_
  refine wn_aload_n C 0 rfl dX1_init_13 rfl ?_
  refine wn_sipush C (z := 144) dX1_init_14 (by decide) ?_
  refine wn_newI C ga_I (inR_k 144 rfl) rfl (Nat.le_of_ble_eq_true rfl) (Nat.le_of_ble_eq_true rfl) (Nat.le_of_ble_eq_true rfl) dX1_init_17 (fun q2 => ?_)
  replace C := C.more (cells' := 2) (slots' := 288) (Nat.le_of_ble_eq_true rfl) (Nat.le_of_ble_eq_true rfl)
  refine wn_putR C hin (w' := [(h0, .inr (1, [.null, .null, .ref q1, .ref q2, .null, .null, .null, .null, .int 0, .int 0])), (a1, .inr (2, f1)), (q1, zZ K 144), (q2, zI K 144)]) 0 3 rfl rfl (by decide) okX1 gw_163 rfl rfl rfl rfl rfl (Nat.le_of_ble_eq_true rfl) rfl dX1_init_19 ?_
  refine wn_aload_n C 0 rfl dX1_init_22 rfl ?_
  refine wn_sipush C (z := 144) dX1_init_23 (by decide) ?_
  refine wn_newI C ga_I (inR_k 144 rfl) rfl (Nat.le_of_ble_eq_true rfl) (Nat.le_of_ble_eq_true rfl) (Nat.le_of_ble_eq_true rfl) dX1_init_26 (fun q3 => ?_)
  replace C := C.more (cells' := 3) (slots' := 432) (Nat.le_of_ble_eq_true rfl) (Nat.le_of_ble_eq_true rfl)
  refine wn_putR C hin (w' := [(h0, .inr (1, [.null, .null, .ref q1, .ref q2, .ref q3, .null, .null, .null, .int 0, .int 0])), (a1, .inr (2, f1)), (q1, zZ K 144), (q2, zI K 144), (q3, zI K 144)]) 0 4 rfl rfl (by decide) okX1 gw_167 rfl rfl rfl rfl rfl (Nat.le_of_ble_eq_true rfl) rfl dX1_init_28 ?_
  refine wn_aload_n C 0 rfl dX1_init_31 rfl ?_
  refine wn_sipush C (z := 144) dX1_init_32 (by decide) ?_
  refine wn_newI C ga_I (inR_k 144 rfl) rfl (Nat.le_of_ble_eq_true rfl) (Nat.le_of_ble_eq_true rfl) (Nat.le_of_ble_eq_true rfl) dX1_init_35 (fun q4 => ?_)
  replace C := C.more (cells' := 4) (slots' := 576) (Nat.le_of_ble_eq_true rfl) (Nat.le_of_ble_eq_true rfl)
  refine wn_putR C hin (w' := [(h0, .inr (1, [.null, .null, .ref q1, .ref q2, .ref q3, .ref q4, .null, .null, .int 0, .int 0])), (a1, .inr (2, f1)), (q1, zZ K 144), (q2, zI K 144), (q3, zI K 144), (q4, zI K 144)]) 0 5 rfl rfl (by decide) okX1 gw_169 rfl rfl rfl rfl rfl (Nat.le_of_ble_eq_true rfl) rfl dX1_init_37 ?_
  refine wn_aload_n C 0 rfl dX1_init_40 rfl ?_
  refine wn_sipush C (z := 145) dX1_init_41 (by decide) ?_
  refine wn_newI C ga_I (inR_k 145 rfl) rfl (Nat.le_of_ble_eq_true rfl) (Nat.le_of_ble_eq_true rfl) (Nat.le_of_ble_eq_true rfl) dX1_init_44 (fun q5 => ?_)
  replace C := C.more (cells' := 5) (slots' := 721) (Nat.le_of_ble_eq_true rfl) (Nat.le_of_ble_eq_true rfl)
  refine wn_putR C hin (w' := [(h0, .inr (1, [.null, .null, .ref q1, .ref q2, .ref q3, .ref q4, .ref q5, .null, .int 0, .int 0])), (a1, .inr (2, f1)), (q1, zZ K 144), (q2, zI K 144), (q3, zI K 144), (q4, zI K 144), (q5, zI K 145)]) 0 6 rfl rfl (by decide) okX1 gw_171 rfl rfl rfl rfl rfl (Nat.le_of_ble_eq_true rfl) rfl dX1_init_46 ?_
  refine wn_aload_n C 0 rfl dX1_init_49 rfl ?_
  refine wn_sipush C (z := 144) dX1_init_50 (by decide) ?_
  refine wn_newI C ga_I (inR_k 144 rfl) rfl (Nat.le_of_ble_eq_true rfl) (Nat.le_of_ble_eq_true rfl) (Nat.le_of_ble_eq_true rfl) dX1_init_53 (fun q6 => ?_)
  replace C := C.more (cells' := 6) (slots' := 865) (Nat.le_of_ble_eq_true rfl) (Nat.le_of_ble_eq_true rfl)
  refine wn_putR C hin (w' := [(h0, .inr (1, [.null, .null, .ref q1, .ref q2, .ref q3, .ref q4, .ref q5, .ref q6, .int 0, .int 0])), (a1, .inr (2, f1)), (q1, zZ K 144), (q2, zI K 144), (q3, zI K 144), (q4, zI K 144), (q5, zI K 145), (q6, zI K 144)]) 0 7 rfl rfl (by decide) okX1 gw_174 rfl rfl rfl rfl rfl (Nat.le_of_ble_eq_true rfl) rfl dX1_init_55 ?_
  refine wn_aload_n C 0 rfl dX1_init_58 rfl ?_
  refine wn_aload_n C 1 rfl dX1_init_59 rfl ?_
  refine wn_putR C hin (w' := [(h0, .inr (1, [.ref a1, .null, .ref q1, .ref q2, .ref q3, .ref q4, .ref q5, .ref q6, .int 0, .int 0])), (a1, .inr (2, f1)), (q1, zZ K 144), (q2, zI K 144), (q3, zI K 144), (q4, zI K 144), (q5, zI K 145), (q6, zI K 144)]) 0 0 rfl rfl (by decide) okX1 gw_156 rfl rfl rfl rfl rfl (Nat.le_of_ble_eq_true rfl) rfl dX1_init_60 ?_
  refine wn_aload_n C 0 rfl dX1_init_63 rfl ?_
  refine wn_aload_n C 1 rfl dX1_init_64 rfl ?_
  refine wn_getR C 1 0 rfl rfl (by decide) okX2 gw_84 e1_0 dX1_init_65 ?_
  refine wn_putR C hin (w' := [(h0, .inr (1, [.ref a1, .ref g1_0, .ref q1, .ref q2, .ref q3, .ref q4, .ref q5, .ref q6, .int 0, .int 0])), (a1, .inr (2, f1)), (q1, zZ K 144), (q2, zI K 144), (q3, zI K 144), (q4, zI K 144), (q5, zI K 145), (q6, zI K 144)]) 0 1 rfl rfl (by decide) okX1 gw_158 rfl rfl rfl rfl rfl (Nat.le_of_ble_eq_true rfl) rfl dX1_init_68 ?_
  exact ret (Nat.le_of_ble_eq_true rfl) (Nat.le_of_ble_eq_true rfl) dX1_init_71 ⟨_, _, _, _, _, _, rfl⟩
theorem dX9_init_0 : decode cX9_init 0 = .ok (.aload_n 0, 1) := by decide +kernel
theorem dX9_init_1 : decode cX9_init 1 = .ok (.invokespecial 3, 3) := by decide +kernel
theorem dX9_init_4 : decode cX9_init 4 = .ok (.aload_n 0, 1) := by decide +kernel
theorem dX9_init_5 : decode cX9_init 5 = .ok (.sipush 144, 3) := by decide +kernel
theorem dX9_init_8 : decode cX9_init 8 = .ok (.newarray .int, 2) := by decide +kernel
theorem dX9_init_10 : decode cX9_init 10 = .ok (.putfield 9, 3) := by decide +kernel
theorem dX9_init_13 : decode cX9_init 13 = .ok (.aload_n 0, 1) := by decide +kernel
theorem dX9_init_14 : decode cX9_init 14 = .ok (.sipush 144, 3) := by decide +kernel
theorem dX9_init_17 : decode cX9_init 17 = .ok (.newarray .int, 2) := by decide +kernel
theorem dX9_init_19 : decode cX9_init 19 = .ok (.putfield 15, 3) := by decide +kernel
theorem dX9_init_22 : decode cX9_init 22 = .ok (.aload_n 0, 1) := by decide +kernel
theorem dX9_init_23 : decode cX9_init 23 = .ok (.sipush 144, 3) := by decide +kernel
theorem dX9_init_26 : decode cX9_init 26 = .ok (.newarray .int, 2) := by decide +kernel
theorem dX9_init_28 : decode cX9_init 28 = .ok (.putfield 18, 3) := by decide +kernel
theorem dX9_init_31 : decode cX9_init 31 = .ok (.aload_n 0, 1) := by decide +kernel
theorem dX9_init_32 : decode cX9_init 32 = .ok (.sipush 288, 3) := by decide +kernel
theorem dX9_init_35 : decode cX9_init 35 = .ok (.newarray .int, 2) := by decide +kernel
theorem dX9_init_37 : decode cX9_init 37 = .ok (.putfield 21, 3) := by decide +kernel
theorem dX9_init_40 : decode cX9_init 40 = .ok (.aload_n 0, 1) := by decide +kernel
theorem dX9_init_41 : decode cX9_init 41 = .ok (.bipush 17, 2) := by decide +kernel
theorem dX9_init_43 : decode cX9_init 43 = .ok (.newarray .int, 2) := by decide +kernel
theorem dX9_init_45 : decode cX9_init 45 = .ok (.putfield 24, 3) := by decide +kernel
theorem dX9_init_48 : decode cX9_init 48 = .ok (.aload_n 0, 1) := by decide +kernel
theorem dX9_init_49 : decode cX9_init 49 = .ok (.sipush 144, 3) := by decide +kernel
theorem dX9_init_52 : decode cX9_init 52 = .ok (.newarray .int, 2) := by decide +kernel
theorem dX9_init_54 : decode cX9_init 54 = .ok (.putfield 27, 3) := by decide +kernel
theorem dX9_init_57 : decode cX9_init 57 = .ok (.aload_n 0, 1) := by decide +kernel
theorem dX9_init_58 : decode cX9_init 58 = .ok (.bipush 17, 2) := by decide +kernel
theorem dX9_init_60 : decode cX9_init 60 = .ok (.newarray .int, 2) := by decide +kernel
theorem dX9_init_62 : decode cX9_init 62 = .ok (.putfield 30, 3) := by decide +kernel
theorem dX9_init_65 : decode cX9_init 65 = .ok (.aload_n 0, 1) := by decide +kernel
theorem dX9_init_66 : decode cX9_init 66 = .ok (.sipush 136, 3) := by decide +kernel
theorem dX9_init_69 : decode cX9_init 69 = .ok (.newarray .int, 2) := by decide +kernel
theorem dX9_init_71 : decode cX9_init 71 = .ok (.putfield 35, 3) := by decide +kernel
theorem dX9_init_74 : decode cX9_init 74 = .ok (.aload_n 0, 1) := by decide +kernel
theorem dX9_init_75 : decode cX9_init 75 = .ok (.bipush 17, 2) := by decide +kernel
theorem dX9_init_77 : decode cX9_init 77 = .ok (.newarray .int, 2) := by decide +kernel
theorem dX9_init_79 : decode cX9_init 79 = .ok (.putfield 38, 3) := by decide +kernel
theorem dX9_init_82 : decode cX9_init 82 = .ok (.aload_n 0, 1) := by decide +kernel
theorem dX9_init_83 : decode cX9_init 83 = .ok (.bipush 16, 2) := by decide +kernel
theorem dX9_init_85 : decode cX9_init 85 = .ok (.newarray .int, 2) := by decide +kernel
theorem dX9_init_87 : decode cX9_init 87 = .ok (.putfield 41, 3) := by decide +kernel
theorem dX9_init_90 : decode cX9_init 90 = .ok (.aload_n 0, 1) := by decide +kernel
theorem dX9_init_91 : decode cX9_init 91 = .ok (.bipush 16, 2) := by decide +kernel
theorem dX9_init_93 : decode cX9_init 93 = .ok (.newarray .int, 2) := by decide +kernel
theorem dX9_init_95 : decode cX9_init 95 = .ok (.putfield 44, 3) := by decide +kernel
theorem dX9_init_98 : decode cX9_init 98 = .ok (.aload_n 0, 1) := by decide +kernel
theorem dX9_init_99 : decode cX9_init 99 = .ok (.bipush 16, 2) := by decide +kernel
theorem dX9_init_101 : decode cX9_init 101 = .ok (.newarray .int, 2) := by decide +kernel
theorem dX9_init_103 : decode cX9_init 103 = .ok (.putfield 47, 3) := by decide +kernel
theorem dX9_init_106 : decode cX9_init 106 = .ok (.aload_n 0, 1) := by decide +kernel
theorem dX9_init_107 : decode cX9_init 107 = .ok (.aload_n 1, 1) := by decide +kernel
theorem dX9_init_108 : decode cX9_init 108 = .ok (.putfield 50, 3) := by decide +kernel
theorem dX9_init_111 : decode cX9_init 111 = .ok (.aload_n 0, 1) := by decide +kernel
theorem dX9_init_112 : decode cX9_init 112 = .ok (.aload_n 1, 1) := by decide +kernel
theorem dX9_init_113 : decode cX9_init 113 = .ok (.getfield 54, 3) := by decide +kernel
theorem dX9_init_116 : decode cX9_init 116 = .ok (.putfield 60, 3) := by decide +kernel
theorem dX9_init_119 : decode cX9_init 119 = .ok (.return_, 1) := by decide +kernel
set_option maxRecDepth 100000 in
set_option maxHeartbeats 4000000 in
theorem k_X9 (l : Launch) (K : wK) (h0 : Nat) (a1 : Nat) (f1 : List Value) (g1_1 : Nat) (e1_1 : f1[1]? = some (.ref g1_1)) : kV l yX9_init (Cond.code yX9_init cX9_init 2 none :: GT) ({ frames := 2, cells := 12, slots := 1099, locals := 120 } : Room) 12 1099 [.ref h0, .ref a1] K [(h0, .inr (9, [.null, .null, .null, .null, .null, .null, .null, .null, .null, .null, .null, .null, .null, .null, .int 0, .int 0, .int 0])), (a1, .inr (1, f1))] (fun u => ∃ q1 q2 q3 q4 q5 q6 q7 q8 q9 q10 q11 q12 : Nat, u = [(h0, .inr (9, [.ref q1, .ref q2, .ref q3, .ref q4, .ref q5, .ref a1, .ref g1_1, .ref q6, .ref q7, .ref q8, .ref q9, .ref q10, .ref q11, .ref q12, .int 0, .int 0, .int 0])), (a1, .inr (1, f1)), (q1, zI K 144), (q2, zI K 144), (q3, zI K 144), (q4, zI K 288), (q5, zI K 17), (q6, zI K 144), (q7, zI K 17), (q8, zI K 136), (q9, zI K 17), (q10, zI K 16), (q11, zI K 16), (q12, zI K 16)]) := by
  refine kV_of (lv0 := [(0, .ref h0), (1, .ref a1)]) (by decide) (Nat.le_of_ble_eq_true rfl) rfl rfl ?_
  intro p e s m args below meth c Q A C hin N ret
  replace C : Cx p ({ frames := 2, cells := 12, slots := 1099, locals := 120 } : Room) m c 0 0 cX9_init 2 s args RX9 K A := C
  refine wn_aload_n C 0 rfl dX9_init_0 rfl ?_
  refine wn_obj C (gt_1 207 (by decide +kernel) rfl) ga_oi ga_oc dX9_init_1 (Nat.le_of_ble_eq_true rfl) (Nat.le_of_ble_eq_true rfl) ?_
  refine wn_aload_n C 0 rfl dX9_init_4 rfl ?_
  refine wn_sipush C (z := 144) dX9_init_5 (by decide) ?_
  refine wn_newI C ga_I (inR_k 144 rfl) rfl (Nat.le_of_ble_eq_true rfl) (Nat.le_of_ble_eq_true rfl) (Nat.le_of_ble_eq_true rfl) dX9_init_8 (fun q1 => ?_)
  replace C := C.more (cells' := 1) (slots' := 144) (Nat.le_of_ble_eq_true rfl) (Nat.le_of_ble_eq_true rfl)
  refine wn_putR C hin (w' := [(h0, .inr (9, [.ref q1, .null, .null, .null, .null, .null, .null, .null, .null, .null, .null, .null, .null, .null, .int 0, .int 0, .int 0])), (a1, .inr (1, f1)), (q1, zI K 144)]) 0 0 rfl rfl (by decide) okX9 gw_208 rfl rfl rfl rfl rfl (Nat.le_of_ble_eq_true rfl) rfl dX9_init_10 ?_
  refine wn_aload_n C 0 rfl dX9_init_13 rfl ?_
  refine wn_sipush C (z := 144) dX9_init_14 (by decide) ?_
  refine wn_newI C ga_I (inR_k 144 rfl) rfl (Nat.le_of_ble_eq_true rfl) (Nat.le_of_ble_eq_true rfl) (Nat.le_of_ble_eq_true rfl) dX9_init_17 (fun q2 => ?_)
  replace C := C.more (cells' := 2) (slots' := 288) (Nat.le_of_ble_eq_true rfl) (Nat.le_of_ble_eq_true rfl)
  refine wn_putR C hin (w' := [(h0, .inr (9, [.ref q1, .ref q2, .null, .null, .null, .null, .null, .null, .null, .null, .null, .null, .null, .null, .int 0, .int 0, .int 0])), (a1, .inr (1, f1)), (q1, zI K 144), (q2, zI K 144)]) 0 1 rfl rfl (by decide) okX9 gw_210 rfl rfl rfl rfl rfl (Nat.le_of_ble_eq_true rfl) rfl dX9_init_19 ?_
  refine wn_aload_n C 0 rfl dX9_init_22 rfl ?_
  refine wn_sipush C (z := 144) dX9_init_23 (by decide) ?_
  refine wn_newI C ga_I (inR_k 144 rfl) rfl (Nat.le_of_ble_eq_true rfl) (Nat.le_of_ble_eq_true rfl) (Nat.le_of_ble_eq_true rfl) dX9_init_26 (fun q3 => ?_)
  replace C := C.more (cells' := 3) (slots' := 432) (Nat.le_of_ble_eq_true rfl) (Nat.le_of_ble_eq_true rfl)
  refine wn_putR C hin (w' := [(h0, .inr (9, [.ref q1, .ref q2, .ref q3, .null, .null, .null, .null, .null, .null, .null, .null, .null, .null, .null, .int 0, .int 0, .int 0])), (a1, .inr (1, f1)), (q1, zI K 144), (q2, zI K 144), (q3, zI K 144)]) 0 2 rfl rfl (by decide) okX9 gw_212 rfl rfl rfl rfl rfl (Nat.le_of_ble_eq_true rfl) rfl dX9_init_28 ?_
  refine wn_aload_n C 0 rfl dX9_init_31 rfl ?_
  refine wn_sipush C (z := 288) dX9_init_32 (by decide) ?_
  refine wn_newI C ga_I (inR_k 288 rfl) rfl (Nat.le_of_ble_eq_true rfl) (Nat.le_of_ble_eq_true rfl) (Nat.le_of_ble_eq_true rfl) dX9_init_35 (fun q4 => ?_)
  replace C := C.more (cells' := 4) (slots' := 720) (Nat.le_of_ble_eq_true rfl) (Nat.le_of_ble_eq_true rfl)
  refine wn_putR C hin (w' := [(h0, .inr (9, [.ref q1, .ref q2, .ref q3, .ref q4, .null, .null, .null, .null, .null, .null, .null, .null, .null, .null, .int 0, .int 0, .int 0])), (a1, .inr (1, f1)), (q1, zI K 144), (q2, zI K 144), (q3, zI K 144), (q4, zI K 288)]) 0 3 rfl rfl (by decide) okX9 gw_214 rfl rfl rfl rfl rfl (Nat.le_of_ble_eq_true rfl) rfl dX9_init_37 ?_
  refine wn_aload_n C 0 rfl dX9_init_40 rfl ?_
  refine wn_bipush C (z := 17) dX9_init_41 (by decide) ?_
  refine wn_newI C ga_I (inR_k 17 rfl) rfl (Nat.le_of_ble_eq_true rfl) (Nat.le_of_ble_eq_true rfl) (Nat.le_of_ble_eq_true rfl) dX9_init_43 (fun q5 => ?_)
  replace C := C.more (cells' := 5) (slots' := 737) (Nat.le_of_ble_eq_true rfl) (Nat.le_of_ble_eq_true rfl)
  refine wn_putR C hin (w' := [(h0, .inr (9, [.ref q1, .ref q2, .ref q3, .ref q4, .ref q5, .null, .null, .null, .null, .null, .null, .null, .null, .null, .int 0, .int 0, .int 0])), (a1, .inr (1, f1)), (q1, zI K 144), (q2, zI K 144), (q3, zI K 144), (q4, zI K 288), (q5, zI K 17)]) 0 4 rfl rfl (by decide) okX9 gw_216 rfl rfl rfl rfl rfl (Nat.le_of_ble_eq_true rfl) rfl dX9_init_45 ?_
  refine wn_aload_n C 0 rfl dX9_init_48 rfl ?_
  refine wn_sipush C (z := 144) dX9_init_49 (by decide) ?_
  refine wn_newI C ga_I (inR_k 144 rfl) rfl (Nat.le_of_ble_eq_true rfl) (Nat.le_of_ble_eq_true rfl) (Nat.le_of_ble_eq_true rfl) dX9_init_52 (fun q6 => ?_)
  replace C := C.more (cells' := 6) (slots' := 881) (Nat.le_of_ble_eq_true rfl) (Nat.le_of_ble_eq_true rfl)
  refine wn_putR C hin (w' := [(h0, .inr (9, [.ref q1, .ref q2, .ref q3, .ref q4, .ref q5, .null, .null, .ref q6, .null, .null, .null, .null, .null, .null, .int 0, .int 0, .int 0])), (a1, .inr (1, f1)), (q1, zI K 144), (q2, zI K 144), (q3, zI K 144), (q4, zI K 288), (q5, zI K 17), (q6, zI K 144)]) 0 7 rfl rfl (by decide) okX9 gw_220 rfl rfl rfl rfl rfl (Nat.le_of_ble_eq_true rfl) rfl dX9_init_54 ?_
  refine wn_aload_n C 0 rfl dX9_init_57 rfl ?_
  refine wn_bipush C (z := 17) dX9_init_58 (by decide) ?_
  refine wn_newI C ga_I (inR_k 17 rfl) rfl (Nat.le_of_ble_eq_true rfl) (Nat.le_of_ble_eq_true rfl) (Nat.le_of_ble_eq_true rfl) dX9_init_60 (fun q7 => ?_)
  replace C := C.more (cells' := 7) (slots' := 898) (Nat.le_of_ble_eq_true rfl) (Nat.le_of_ble_eq_true rfl)
  refine wn_putR C hin (w' := [(h0, .inr (9, [.ref q1, .ref q2, .ref q3, .ref q4, .ref q5, .null, .null, .ref q6, .ref q7, .null, .null, .null, .null, .null, .int 0, .int 0, .int 0])), (a1, .inr (1, f1)), (q1, zI K 144), (q2, zI K 144), (q3, zI K 144), (q4, zI K 288), (q5, zI K 17), (q6, zI K 144), (q7, zI K 17)]) 0 8 rfl rfl (by decide) okX9 gw_221 rfl rfl rfl rfl rfl (Nat.le_of_ble_eq_true rfl) rfl dX9_init_62 ?_
  refine wn_aload_n C 0 rfl dX9_init_65 rfl ?_
  refine wn_sipush C (z := 136) dX9_init_66 (by decide) ?_
  refine wn_newI C ga_I (inR_k 136 rfl) rfl (Nat.le_of_ble_eq_true rfl) (Nat.le_of_ble_eq_true rfl) (Nat.le_of_ble_eq_true rfl) dX9_init_69 (fun q8 => ?_)
  replace C := C.more (cells' := 8) (slots' := 1034) (Nat.le_of_ble_eq_true rfl) (Nat.le_of_ble_eq_true rfl)
  refine wn_putR C hin (w' := [(h0, .inr (9, [.ref q1, .ref q2, .ref q3, .ref q4, .ref q5, .null, .null, .ref q6, .ref q7, .ref q8, .null, .null, .null, .null, .int 0, .int 0, .int 0])), (a1, .inr (1, f1)), (q1, zI K 144), (q2, zI K 144), (q3, zI K 144), (q4, zI K 288), (q5, zI K 17), (q6, zI K 144), (q7, zI K 17), (q8, zI K 136)]) 0 9 rfl rfl (by decide) okX9 gw_222 rfl rfl rfl rfl rfl (Nat.le_of_ble_eq_true rfl) rfl dX9_init_71 ?_
  refine wn_aload_n C 0 rfl dX9_init_74 rfl ?_
  refine wn_bipush C (z := 17) dX9_init_75 (by decide) ?_
  refine wn_newI C ga_I (inR_k 17 rfl) rfl (Nat.le_of_ble_eq_true rfl) (Nat.le_of_ble_eq_true rfl) (Nat.le_of_ble_eq_true rfl) dX9_init_77 (fun q9 => ?_)
  replace C := C.more (cells' := 9) (slots' := 1051) (Nat.le_of_ble_eq_true rfl) (Nat.le_of_ble_eq_true rfl)
  refine wn_putR C hin (w' := [(h0, .inr (9, [.ref q1, .ref q2, .ref q3, .ref q4, .ref q5, .null, .null, .ref q6, .ref q7, .ref q8, .ref q9, .null, .null, .null, .int 0, .int 0, .int 0])), (a1, .inr (1, f1)), (q1, zI K 144), (q2, zI K 144), (q3, zI K 144), (q4, zI K 288), (q5, zI K 17), (q6, zI K 144), (q7, zI K 17), (q8, zI K 136), (q9, zI K 17)]) 0 10 rfl rfl (by decide) okX9 gw_223 rfl rfl rfl rfl rfl (Nat.le_of_ble_eq_true rfl) rfl dX9_init_79 ?_
  refine wn_aload_n C 0 rfl dX9_init_82 rfl ?_
  refine wn_bipush C (z := 16) dX9_init_83 (by decide) ?_
  refine wn_newI C ga_I (inR_k 16 rfl) rfl (Nat.le_of_ble_eq_true rfl) (Nat.le_of_ble_eq_true rfl) (Nat.le_of_ble_eq_true rfl) dX9_init_85 (fun q10 => ?_)
  replace C := C.more (cells' := 10) (slots' := 1067) (Nat.le_of_ble_eq_true rfl) (Nat.le_of_ble_eq_true rfl)
  refine wn_putR C hin (w' := [(h0, .inr (9, [.ref q1, .ref q2, .ref q3, .ref q4, .ref q5, .null, .null, .ref q6, .ref q7, .ref q8, .ref q9, .ref q10, .null, .null, .int 0, .int 0, .int 0])), (a1, .inr (1, f1)), (q1, zI K 144), (q2, zI K 144), (q3, zI K 144), (q4, zI K 288), (q5, zI K 17), (q6, zI K 144), (q7, zI K 17), (q8, zI K 136), (q9, zI K 17), (q10, zI K 16)]) 0 11 rfl rfl (by decide) okX9 gw_224 rfl rfl rfl rfl rfl (Nat.le_of_ble_eq_true rfl) rfl dX9_init_87 ?_
  refine wn_aload_n C 0 rfl dX9_init_90 rfl ?_
  refine wn_bipush C (z := 16) dX9_init_91 (by decide) ?_
  refine wn_newI C ga_I (inR_k 16 rfl) rfl (Nat.le_of_ble_eq_true rfl) (Nat.le_of_ble_eq_true rfl) (Nat.le_of_ble_eq_true rfl) dX9_init_93 (fun q11 => ?_)
  replace C := C.more (cells' := 11) (slots' := 1083) (Nat.le_of_ble_eq_true rfl) (Nat.le_of_ble_eq_true rfl)
  refine wn_putR C hin (w' := [(h0, .inr (9, [.ref q1, .ref q2, .ref q3, .ref q4, .ref q5, .null, .null, .ref q6, .ref q7, .ref q8, .ref q9, .ref q10, .ref q11, .null, .int 0, .int 0, .int 0])), (a1, .inr (1, f1)), (q1, zI K 144), (q2, zI K 144), (q3, zI K 144), (q4, zI K 288), (q5, zI K 17), (q6, zI K 144), (q7, zI K 17), (q8, zI K 136), (q9, zI K 17), (q10, zI K 16), (q11, zI K 16)]) 0 12 rfl rfl (by decide) okX9 gw_225 rfl rfl rfl rfl rfl (Nat.le_of_ble_eq_true rfl) rfl dX9_init_95 ?_
  refine wn_aload_n C 0 rfl dX9_init_98 rfl ?_
  refine wn_bipush C (z := 16) dX9_init_99 (by decide) ?_
  refine wn_newI C ga_I (inR_k 16 rfl) rfl (Nat.le_of_ble_eq_true rfl) (Nat.le_of_ble_eq_true rfl) (Nat.le_of_ble_eq_true rfl) dX9_init_101 (fun q12 => ?_)
  replace C := C.more (cells' := 12) (slots' := 1099) (Nat.le_of_ble_eq_true rfl) (Nat.le_of_ble_eq_true rfl)
  refine wn_putR C hin (w' := [(h0, .inr (9, [.ref q1, .ref q2, .ref q3, .ref q4, .ref q5, .null, .null, .ref q6, .ref q7, .ref q8, .ref q9, .ref q10, .ref q11, .ref q12, .int 0, .int 0, .int 0])), (a1, .inr (1, f1)), (q1, zI K 144), (q2, zI K 144), (q3, zI K 144), (q4, zI K 288), (q5, zI K 17), (q6, zI K 144), (q7, zI K 17), (q8, zI K 136), (q9, zI K 17), (q10, zI K 16), (q11, zI K 16), (q12, zI K 16)]) 0 13 rfl rfl (by decide) okX9 gw_226 rfl rfl rfl rfl rfl (Nat.le_of_ble_eq_true rfl) rfl dX9_init_103 ?_
  refine wn_aload_n C 0 rfl dX9_init_106 rfl ?_
  refine wn_aload_n C 1 rfl dX9_init_107 rfl ?_
  refine wn_putR C hin (w' := [(h0, .inr (9, [.ref q1, .ref q2, .ref q3, .ref q4, .ref q5, .ref a1, .null, .ref q6, .ref q7, .ref q8, .ref q9, .ref q10, .ref q11, .ref q12, .int 0, .int 0, .int 0])), (a1, .inr (1, f1)), (q1, zI K 144), (q2, zI K 144), (q3, zI K 144), (q4, zI K 288), (q5, zI K 17), (q6, zI K 144), (q7, zI K 17), (q8, zI K 136), (q9, zI K 17), (q10, zI K 16), (q11, zI K 16), (q12, zI K 16)]) 0 5 rfl rfl (by decide) okX9 gw_218 rfl rfl rfl rfl rfl (Nat.le_of_ble_eq_true rfl) rfl dX9_init_108 ?_
  refine wn_aload_n C 0 rfl dX9_init_111 rfl ?_
  refine wn_aload_n C 1 rfl dX9_init_112 rfl ?_
  refine wn_getR C 1 1 rfl rfl (by decide) okX1 gw_159 e1_1 dX9_init_113 ?_
  refine wn_putR C hin (w' := [(h0, .inr (9, [.ref q1, .ref q2, .ref q3, .ref q4, .ref q5, .ref a1, .ref g1_1, .ref q6, .ref q7, .ref q8, .ref q9, .ref q10, .ref q11, .ref q12, .int 0, .int 0, .int 0])), (a1, .inr (1, f1)), (q1, zI K 144), (q2, zI K 144), (q3, zI K 144), (q4, zI K 288), (q5, zI K 17), (q6, zI K 144), (q7, zI K 17), (q8, zI K 136), (q9, zI K 17), (q10, zI K 16), (q11, zI K 16), (q12, zI K 16)]) 0 6 rfl rfl (by decide) okX9 gw_219 rfl rfl rfl rfl rfl (Nat.le_of_ble_eq_true rfl) rfl dX9_init_116 ?_
  exact ret (Nat.le_of_ble_eq_true rfl) (Nat.le_of_ble_eq_true rfl) dX9_init_119 ⟨_, _, _, _, _, _, _, _, _, _, _, _, rfl⟩
theorem dX6_init_0 : decode cX6_init 0 = .ok (.aload_n 0, 1) := by decide +kernel
theorem dX6_init_1 : decode cX6_init 1 = .ok (.invokespecial 5, 3) := by decide +kernel
theorem dX6_init_4 : decode cX6_init 4 = .ok (.aload_n 0, 1) := by decide +kernel
theorem dX6_init_5 : decode cX6_init 5 = .ok (.iconst 3, 1) := by decide +kernel
theorem dX6_init_6 : decode cX6_init 6 = .ok (.newarray .long, 2) := by decide +kernel
theorem dX6_init_8 : decode cX6_init 8 = .ok (.putfield 11, 3) := by decide +kernel
theorem dX6_init_11 : decode cX6_init 11 = .ok (.aload_n 0, 1) := by decide +kernel
theorem dX6_init_12 : decode cX6_init 12 = .ok (.iconst 3, 1) := by decide +kernel
theorem dX6_init_13 : decode cX6_init 13 = .ok (.newarray .long, 2) := by decide +kernel
theorem dX6_init_15 : decode cX6_init 15 = .ok (.putfield 15, 3) := by decide +kernel
theorem dX6_init_18 : decode cX6_init 18 = .ok (.aload_n 0, 1) := by decide +kernel
theorem dX6_init_19 : decode cX6_init 19 = .ok (.aload_n 1, 1) := by decide +kernel
theorem dX6_init_20 : decode cX6_init 20 = .ok (.putfield 18, 3) := by decide +kernel
theorem dX6_init_23 : decode cX6_init 23 = .ok (.aload_n 0, 1) := by decide +kernel
theorem dX6_init_24 : decode cX6_init 24 = .ok (.aload_n 2, 1) := by decide +kernel
theorem dX6_init_25 : decode cX6_init 25 = .ok (.putfield 22, 3) := by decide +kernel
theorem dX6_init_28 : decode cX6_init 28 = .ok (.aload_n 0, 1) := by decide +kernel
theorem dX6_init_29 : decode cX6_init 29 = .ok (.aload_n 1, 1) := by decide +kernel
theorem dX6_init_30 : decode cX6_init 30 = .ok (.getfield 26, 3) := by decide +kernel
theorem dX6_init_33 : decode cX6_init 33 = .ok (.putfield 32, 3) := by decide +kernel
theorem dX6_init_36 : decode cX6_init 36 = .ok (.return_, 1) := by decide +kernel
set_option maxRecDepth 100000 in
set_option maxHeartbeats 4000000 in
theorem k_X6 (l : Launch) (K : wK) (h0 : Nat) (a1 : Nat) (f1 : List Value) (g1_0 : Nat) (a2 : Nat) (e1_0 : f1[0]? = some (.ref g1_0)) : kV l yX6_init (Cond.code yX6_init cX6_init 3 none :: GT) ({ frames := 2, cells := 2, slots := 6, locals := 120 } : Room) 2 6 [.ref h0, .ref a1, .ref a2] K [(h0, .inr (6, [.null, .null, .null, .null, .null])), (a1, .inr (1, f1))] (fun u => ∃ q1 q2 : Nat, u = [(h0, .inr (6, [.ref a1, .ref a2, .ref g1_0, .ref q1, .ref q2])), (a1, .inr (1, f1)), (q1, zJ K 3), (q2, zJ K 3)]) := by
  refine kV_of (lv0 := [(0, .ref h0), (1, .ref a1), (2, .ref a2)]) (by decide) (Nat.le_of_ble_eq_true rfl) rfl rfl ?_
  intro p e s m args below meth c Q A C hin N ret
  replace C : Cx p ({ frames := 2, cells := 2, slots := 6, locals := 120 } : Room) m c 0 0 cX6_init 3 s args RX6 K A := C
  refine wn_aload_n C 0 rfl dX6_init_0 rfl ?_
  refine wn_obj C (gt_2 30 (by decide +kernel) rfl) ga_oi ga_oc dX6_init_1 (Nat.le_of_ble_eq_true rfl) (Nat.le_of_ble_eq_true rfl) ?_
  refine wn_aload_n C 0 rfl dX6_init_4 rfl ?_
  refine wn_iconst C (z := 3) dX6_init_5 rfl ?_
  refine wn_newJ C ga_J (inR_k 3 rfl) rfl (Nat.le_of_ble_eq_true rfl) (Nat.le_of_ble_eq_true rfl) (Nat.le_of_ble_eq_true rfl) dX6_init_6 (fun q1 => ?_)
  replace C := C.more (cells' := 1) (slots' := 3) (Nat.le_of_ble_eq_true rfl) (Nat.le_of_ble_eq_true rfl)
  refine wn_putR C hin (w' := [(h0, .inr (6, [.null, .null, .null, .ref q1, .null])), (a1, .inr (1, f1)), (q1, zJ K 3)]) 0 3 rfl rfl (by decide) okX6 gw_275 rfl rfl rfl rfl rfl (Nat.le_of_ble_eq_true rfl) rfl dX6_init_8 ?_
  refine wn_aload_n C 0 rfl dX6_init_11 rfl ?_
  refine wn_iconst C (z := 3) dX6_init_12 rfl ?_
  refine wn_newJ C ga_J (inR_k 3 rfl) rfl (Nat.le_of_ble_eq_true rfl) (Nat.le_of_ble_eq_true rfl) (Nat.le_of_ble_eq_true rfl) dX6_init_13 (fun q2 => ?_)
  replace C := C.more (cells' := 2) (slots' := 6) (Nat.le_of_ble_eq_true rfl) (Nat.le_of_ble_eq_true rfl)
  refine wn_putR C hin (w' := [(h0, .inr (6, [.null, .null, .null, .ref q1, .ref q2])), (a1, .inr (1, f1)), (q1, zJ K 3), (q2, zJ K 3)]) 0 4 rfl rfl (by decide) okX6 gw_276 rfl rfl rfl rfl rfl (Nat.le_of_ble_eq_true rfl) rfl dX6_init_15 ?_
  refine wn_aload_n C 0 rfl dX6_init_18 rfl ?_
  refine wn_aload_n C 1 rfl dX6_init_19 rfl ?_
  refine wn_putR C hin (w' := [(h0, .inr (6, [.ref a1, .null, .null, .ref q1, .ref q2])), (a1, .inr (1, f1)), (q1, zJ K 3), (q2, zJ K 3)]) 0 0 rfl rfl (by decide) okX6 gw_271 rfl rfl rfl rfl rfl (Nat.le_of_ble_eq_true rfl) rfl dX6_init_20 ?_
  refine wn_aload_n C 0 rfl dX6_init_23 rfl ?_
  refine wn_aload_n C 2 rfl dX6_init_24 rfl ?_
  refine wn_putR C hin (w' := [(h0, .inr (6, [.ref a1, .ref a2, .null, .ref q1, .ref q2])), (a1, .inr (1, f1)), (q1, zJ K 3), (q2, zJ K 3)]) 0 1 rfl rfl (by decide) okX6 gw_273 rfl rfl rfl rfl rfl (Nat.le_of_ble_eq_true rfl) rfl dX6_init_25 ?_
  refine wn_aload_n C 0 rfl dX6_init_28 rfl ?_
  refine wn_aload_n C 1 rfl dX6_init_29 rfl ?_
  refine wn_getR C 1 0 rfl rfl (by decide) okX1 gw_155 e1_0 dX6_init_30 ?_
  refine wn_putR C hin (w' := [(h0, .inr (6, [.ref a1, .ref a2, .ref g1_0, .ref q1, .ref q2])), (a1, .inr (1, f1)), (q1, zJ K 3), (q2, zJ K 3)]) 0 2 rfl rfl (by decide) okX6 gw_274 rfl rfl rfl rfl rfl (Nat.le_of_ble_eq_true rfl) rfl dX6_init_33 ?_
  exact ret (Nat.le_of_ble_eq_true rfl) (Nat.le_of_ble_eq_true rfl) dX6_init_36 ⟨_, _, rfl⟩
theorem dX7_init_0 : decode cX7_init 0 = .ok (.aload_n 0, 1) := by decide +kernel
theorem dX7_init_1 : decode cX7_init 1 = .ok (.invokespecial 5, 3) := by decide +kernel
theorem dX7_init_4 : decode cX7_init 4 = .ok (.aload_n 0, 1) := by decide +kernel
theorem dX7_init_5 : decode cX7_init 5 = .ok (.sipush 144, 3) := by decide +kernel
theorem dX7_init_8 : decode cX7_init 8 = .ok (.newarray .int, 2) := by decide +kernel
theorem dX7_init_10 : decode cX7_init 10 = .ok (.putfield 11, 3) := by decide +kernel
theorem dX7_init_13 : decode cX7_init 13 = .ok (.aload_n 0, 1) := by decide +kernel
theorem dX7_init_14 : decode cX7_init 14 = .ok (.sipush 144, 3) := by decide +kernel
theorem dX7_init_17 : decode cX7_init 17 = .ok (.newarray .int, 2) := by decide +kernel
theorem dX7_init_19 : decode cX7_init 19 = .ok (.putfield 17, 3) := by decide +kernel
theorem dX7_init_22 : decode cX7_init 22 = .ok (.aload_n 0, 1) := by decide +kernel
theorem dX7_init_23 : decode cX7_init 23 = .ok (.sipush 144, 3) := by decide +kernel
theorem dX7_init_26 : decode cX7_init 26 = .ok (.newarray .int, 2) := by decide +kernel
theorem dX7_init_28 : decode cX7_init 28 = .ok (.putfield 20, 3) := by decide +kernel
theorem dX7_init_31 : decode cX7_init 31 = .ok (.aload_n 0, 1) := by decide +kernel
theorem dX7_init_32 : decode cX7_init 32 = .ok (.sipush 144, 3) := by decide +kernel
theorem dX7_init_35 : decode cX7_init 35 = .ok (.newarray .int, 2) := by decide +kernel
theorem dX7_init_37 : decode cX7_init 37 = .ok (.putfield 23, 3) := by decide +kernel
theorem dX7_init_40 : decode cX7_init 40 = .ok (.aload_n 0, 1) := by decide +kernel
theorem dX7_init_41 : decode cX7_init 41 = .ok (.sipush 144, 3) := by decide +kernel
theorem dX7_init_44 : decode cX7_init 44 = .ok (.newarray .boolean, 2) := by decide +kernel
theorem dX7_init_46 : decode cX7_init 46 = .ok (.putfield 26, 3) := by decide +kernel
theorem dX7_init_49 : decode cX7_init 49 = .ok (.aload_n 0, 1) := by decide +kernel
theorem dX7_init_50 : decode cX7_init 50 = .ok (.sipush 144, 3) := by decide +kernel
theorem dX7_init_53 : decode cX7_init 53 = .ok (.newarray .int, 2) := by decide +kernel
theorem dX7_init_55 : decode cX7_init 55 = .ok (.putfield 30, 3) := by decide +kernel
theorem dX7_init_58 : decode cX7_init 58 = .ok (.aload_n 0, 1) := by decide +kernel
theorem dX7_init_59 : decode cX7_init 59 = .ok (.sipush 144, 3) := by decide +kernel
theorem dX7_init_62 : decode cX7_init 62 = .ok (.newarray .int, 2) := by decide +kernel
theorem dX7_init_64 : decode cX7_init 64 = .ok (.putfield 33, 3) := by decide +kernel
theorem dX7_init_67 : decode cX7_init 67 = .ok (.aload_n 0, 1) := by decide +kernel
theorem dX7_init_68 : decode cX7_init 68 = .ok (.aload_n 1, 1) := by decide +kernel
theorem dX7_init_69 : decode cX7_init 69 = .ok (.putfield 36, 3) := by decide +kernel
theorem dX7_init_72 : decode cX7_init 72 = .ok (.aload_n 0, 1) := by decide +kernel
theorem dX7_init_73 : decode cX7_init 73 = .ok (.aload_n 1, 1) := by decide +kernel
theorem dX7_init_74 : decode cX7_init 74 = .ok (.getfield 40, 3) := by decide +kernel
theorem dX7_init_77 : decode cX7_init 77 = .ok (.putfield 46, 3) := by decide +kernel
theorem dX7_init_80 : decode cX7_init 80 = .ok (.aload_n 0, 1) := by decide +kernel
theorem dX7_init_81 : decode cX7_init 81 = .ok (.aload_n 2, 1) := by decide +kernel
theorem dX7_init_82 : decode cX7_init 82 = .ok (.putfield 47, 3) := by decide +kernel
theorem dX7_init_85 : decode cX7_init 85 = .ok (.return_, 1) := by decide +kernel
set_option maxRecDepth 100000 in
set_option maxHeartbeats 4000000 in
theorem k_X7 (l : Launch) (K : wK) (h0 : Nat) (a1 : Nat) (f1 : List Value) (g1_0 : Nat) (a2 : Nat) (e1_0 : f1[0]? = some (.ref g1_0)) : kV l yX7_init (Cond.code yX7_init cX7_init 3 none :: GT) ({ frames := 2, cells := 7, slots := 1008, locals := 120 } : Room) 7 1008 [.ref h0, .ref a1, .ref a2] K [(h0, .inr (7, [.null, .null, .null, .null, .null, .null, .null, .null, .int 0, .null, .null, .int 0])), (a1, .inr (2, f1))] (fun u => ∃ q1 q2 q3 q4 q5 q6 q7 : Nat, u = [(h0, .inr (7, [.ref q1, .ref a1, .ref g1_0, .ref a2, .ref q2, .ref q3, .ref q4, .ref q5, .int 0, .ref q6, .ref q7, .int 0])), (a1, .inr (2, f1)), (q1, zI K 144), (q2, zI K 144), (q3, zI K 144), (q4, zI K 144), (q5, zZ K 144), (q6, zI K 144), (q7, zI K 144)]) := by
  refine kV_of (lv0 := [(0, .ref h0), (1, .ref a1), (2, .ref a2)]) (by decide) (Nat.le_of_ble_eq_true rfl) rfl rfl ?_
  intro p e s m args below meth c Q A C hin N ret
  replace C : Cx p ({ frames := 2, cells := 7, slots := 1008, locals := 120 } : Room) m c 0 0 cX7_init 3 s args RX7 K A := C
  refine wn_aload_n C 0 rfl dX7_init_0 rfl ?_
  refine wn_obj C (gt_2 54 (by decide +kernel) rfl) ga_oi ga_oc dX7_init_1 (Nat.le_of_ble_eq_true rfl) (Nat.le_of_ble_eq_true rfl) ?_
  refine wn_aload_n C 0 rfl dX7_init_4 rfl ?_
  refine wn_sipush C (z := 144) dX7_init_5 (by decide) ?_
  refine wn_newI C ga_I (inR_k 144 rfl) rfl (Nat.le_of_ble_eq_true rfl) (Nat.le_of_ble_eq_true rfl) (Nat.le_of_ble_eq_true rfl) dX7_init_8 (fun q1 => ?_)
  replace C := C.more (cells' := 1) (slots' := 144) (Nat.le_of_ble_eq_true rfl) (Nat.le_of_ble_eq_true rfl)
  refine wn_putR C hin (w' := [(h0, .inr (7, [.ref q1, .null, .null, .null, .null, .null, .null, .null, .int 0, .null, .null, .int 0])), (a1, .inr (2, f1)), (q1, zI K 144)]) 0 0 rfl rfl (by decide) okX7 gw_295 rfl rfl rfl rfl rfl (Nat.le_of_ble_eq_true rfl) rfl dX7_init_10 ?_
  refine wn_aload_n C 0 rfl dX7_init_13 rfl ?_
  refine wn_sipush C (z := 144) dX7_init_14 (by decide) ?_
  refine wn_newI C ga_I (inR_k 144 rfl) rfl (Nat.le_of_ble_eq_true rfl) (Nat.le_of_ble_eq_true rfl) (Nat.le_of_ble_eq_true rfl) dX7_init_17 (fun q2 => ?_)
  replace C := C.more (cells' := 2) (slots' := 288) (Nat.le_of_ble_eq_true rfl) (Nat.le_of_ble_eq_true rfl)
  refine wn_putR C hin (w' := [(h0, .inr (7, [.ref q1, .null, .null, .null, .ref q2, .null, .null, .null, .int 0, .null, .null, .int 0])), (a1, .inr (2, f1)), (q1, zI K 144), (q2, zI K 144)]) 0 4 rfl rfl (by decide) okX7 gw_302 rfl rfl rfl rfl rfl (Nat.le_of_ble_eq_true rfl) rfl dX7_init_19 ?_
  refine wn_aload_n C 0 rfl dX7_init_22 rfl ?_
  refine wn_sipush C (z := 144) dX7_init_23 (by decide) ?_
  refine wn_newI C ga_I (inR_k 144 rfl) rfl (Nat.le_of_ble_eq_true rfl) (Nat.le_of_ble_eq_true rfl) (Nat.le_of_ble_eq_true rfl) dX7_init_26 (fun q3 => ?_)
  replace C := C.more (cells' := 3) (slots' := 432) (Nat.le_of_ble_eq_true rfl) (Nat.le_of_ble_eq_true rfl)
  refine wn_putR C hin (w' := [(h0, .inr (7, [.ref q1, .null, .null, .null, .ref q2, .ref q3, .null, .null, .int 0, .null, .null, .int 0])), (a1, .inr (2, f1)), (q1, zI K 144), (q2, zI K 144), (q3, zI K 144)]) 0 5 rfl rfl (by decide) okX7 gw_303 rfl rfl rfl rfl rfl (Nat.le_of_ble_eq_true rfl) rfl dX7_init_28 ?_
  refine wn_aload_n C 0 rfl dX7_init_31 rfl ?_
  refine wn_sipush C (z := 144) dX7_init_32 (by decide) ?_
  refine wn_newI C ga_I (inR_k 144 rfl) rfl (Nat.le_of_ble_eq_true rfl) (Nat.le_of_ble_eq_true rfl) (Nat.le_of_ble_eq_true rfl) dX7_init_35 (fun q4 => ?_)
  replace C := C.more (cells' := 4) (slots' := 576) (Nat.le_of_ble_eq_true rfl) (Nat.le_of_ble_eq_true rfl)
  refine wn_putR C hin (w' := [(h0, .inr (7, [.ref q1, .null, .null, .null, .ref q2, .ref q3, .ref q4, .null, .int 0, .null, .null, .int 0])), (a1, .inr (2, f1)), (q1, zI K 144), (q2, zI K 144), (q3, zI K 144), (q4, zI K 144)]) 0 6 rfl rfl (by decide) okX7 gw_304 rfl rfl rfl rfl rfl (Nat.le_of_ble_eq_true rfl) rfl dX7_init_37 ?_
  refine wn_aload_n C 0 rfl dX7_init_40 rfl ?_
  refine wn_sipush C (z := 144) dX7_init_41 (by decide) ?_
  refine wn_newZ C ga_Z (inR_k 144 rfl) rfl (Nat.le_of_ble_eq_true rfl) (Nat.le_of_ble_eq_true rfl) (Nat.le_of_ble_eq_true rfl) dX7_init_44 (fun q5 => ?_)
  replace C := C.more (cells' := 5) (slots' := 720) (Nat.le_of_ble_eq_true rfl) (Nat.le_of_ble_eq_true rfl)
  refine wn_putR C hin (w' := [(h0, .inr (7, [.ref q1, .null, .null, .null, .ref q2, .ref q3, .ref q4, .ref q5, .int 0, .null, .null, .int 0])), (a1, .inr (2, f1)), (q1, zI K 144), (q2, zI K 144), (q3, zI K 144), (q4, zI K 144), (q5, zZ K 144)]) 0 7 rfl rfl (by decide) okX7 gw_305 rfl rfl rfl rfl rfl (Nat.le_of_ble_eq_true rfl) rfl dX7_init_46 ?_
  refine wn_aload_n C 0 rfl dX7_init_49 rfl ?_
  refine wn_sipush C (z := 144) dX7_init_50 (by decide) ?_
  refine wn_newI C ga_I (inR_k 144 rfl) rfl (Nat.le_of_ble_eq_true rfl) (Nat.le_of_ble_eq_true rfl) (Nat.le_of_ble_eq_true rfl) dX7_init_53 (fun q6 => ?_)
  replace C := C.more (cells' := 6) (slots' := 864) (Nat.le_of_ble_eq_true rfl) (Nat.le_of_ble_eq_true rfl)
  refine wn_putR C hin (w' := [(h0, .inr (7, [.ref q1, .null, .null, .null, .ref q2, .ref q3, .ref q4, .ref q5, .int 0, .ref q6, .null, .int 0])), (a1, .inr (2, f1)), (q1, zI K 144), (q2, zI K 144), (q3, zI K 144), (q4, zI K 144), (q5, zZ K 144), (q6, zI K 144)]) 0 9 rfl rfl (by decide) okX7 gw_307 rfl rfl rfl rfl rfl (Nat.le_of_ble_eq_true rfl) rfl dX7_init_55 ?_
  refine wn_aload_n C 0 rfl dX7_init_58 rfl ?_
  refine wn_sipush C (z := 144) dX7_init_59 (by decide) ?_
  refine wn_newI C ga_I (inR_k 144 rfl) rfl (Nat.le_of_ble_eq_true rfl) (Nat.le_of_ble_eq_true rfl) (Nat.le_of_ble_eq_true rfl) dX7_init_62 (fun q7 => ?_)
  replace C := C.more (cells' := 7) (slots' := 1008) (Nat.le_of_ble_eq_true rfl) (Nat.le_of_ble_eq_true rfl)
  refine wn_putR C hin (w' := [(h0, .inr (7, [.ref q1, .null, .null, .null, .ref q2, .ref q3, .ref q4, .ref q5, .int 0, .ref q6, .ref q7, .int 0])), (a1, .inr (2, f1)), (q1, zI K 144), (q2, zI K 144), (q3, zI K 144), (q4, zI K 144), (q5, zZ K 144), (q6, zI K 144), (q7, zI K 144)]) 0 10 rfl rfl (by decide) okX7 gw_308 rfl rfl rfl rfl rfl (Nat.le_of_ble_eq_true rfl) rfl dX7_init_64 ?_
  refine wn_aload_n C 0 rfl dX7_init_67 rfl ?_
  refine wn_aload_n C 1 rfl dX7_init_68 rfl ?_
  refine wn_putR C hin (w' := [(h0, .inr (7, [.ref q1, .ref a1, .null, .null, .ref q2, .ref q3, .ref q4, .ref q5, .int 0, .ref q6, .ref q7, .int 0])), (a1, .inr (2, f1)), (q1, zI K 144), (q2, zI K 144), (q3, zI K 144), (q4, zI K 144), (q5, zZ K 144), (q6, zI K 144), (q7, zI K 144)]) 0 1 rfl rfl (by decide) okX7 gw_299 rfl rfl rfl rfl rfl (Nat.le_of_ble_eq_true rfl) rfl dX7_init_69 ?_
  refine wn_aload_n C 0 rfl dX7_init_72 rfl ?_
  refine wn_aload_n C 1 rfl dX7_init_73 rfl ?_
  refine wn_getR C 1 0 rfl rfl (by decide) okX2 gw_85 e1_0 dX7_init_74 ?_
  refine wn_putR C hin (w' := [(h0, .inr (7, [.ref q1, .ref a1, .ref g1_0, .null, .ref q2, .ref q3, .ref q4, .ref q5, .int 0, .ref q6, .ref q7, .int 0])), (a1, .inr (2, f1)), (q1, zI K 144), (q2, zI K 144), (q3, zI K 144), (q4, zI K 144), (q5, zZ K 144), (q6, zI K 144), (q7, zI K 144)]) 0 2 rfl rfl (by decide) okX7 gw_300 rfl rfl rfl rfl rfl (Nat.le_of_ble_eq_true rfl) rfl dX7_init_77 ?_
  refine wn_aload_n C 0 rfl dX7_init_80 rfl ?_
  refine wn_aload_n C 2 rfl dX7_init_81 rfl ?_
  refine wn_putR C hin (w' := [(h0, .inr (7, [.ref q1, .ref a1, .ref g1_0, .ref a2, .ref q2, .ref q3, .ref q4, .ref q5, .int 0, .ref q6, .ref q7, .int 0])), (a1, .inr (2, f1)), (q1, zI K 144), (q2, zI K 144), (q3, zI K 144), (q4, zI K 144), (q5, zZ K 144), (q6, zI K 144), (q7, zI K 144)]) 0 3 rfl rfl (by decide) okX7 gw_301 rfl rfl rfl rfl rfl (Nat.le_of_ble_eq_true rfl) rfl dX7_init_82 ?_
  exact ret (Nat.le_of_ble_eq_true rfl) (Nat.le_of_ble_eq_true rfl) dX7_init_85 ⟨_, _, _, _, _, _, _, rfl⟩
theorem dX0_init_0 : decode cX0_init 0 = .ok (.aload_n 0, 1) := by decide +kernel
theorem dX0_init_1 : decode cX0_init 1 = .ok (.invokespecial 3, 3) := by decide +kernel
theorem dX0_init_4 : decode cX0_init 4 = .ok (.aload_n 0, 1) := by decide +kernel
theorem dX0_init_5 : decode cX0_init 5 = .ok (.sipush 144, 3) := by decide +kernel
theorem dX0_init_8 : decode cX0_init 8 = .ok (.newarray .int, 2) := by decide +kernel
theorem dX0_init_10 : decode cX0_init 10 = .ok (.putfield 9, 3) := by decide +kernel
theorem dX0_init_13 : decode cX0_init 13 = .ok (.aload_n 0, 1) := by decide +kernel
theorem dX0_init_14 : decode cX0_init 14 = .ok (.aload_n 1, 1) := by decide +kernel
theorem dX0_init_15 : decode cX0_init 15 = .ok (.putfield 15, 3) := by decide +kernel
theorem dX0_init_18 : decode cX0_init 18 = .ok (.aload_n 0, 1) := by decide +kernel
theorem dX0_init_19 : decode cX0_init 19 = .ok (.aload_n 2, 1) := by decide +kernel
theorem dX0_init_20 : decode cX0_init 20 = .ok (.putfield 19, 3) := by decide +kernel
theorem dX0_init_23 : decode cX0_init 23 = .ok (.aload_n 0, 1) := by decide +kernel
theorem dX0_init_24 : decode cX0_init 24 = .ok (.aload_n 1, 1) := by decide +kernel
theorem dX0_init_25 : decode cX0_init 25 = .ok (.getfield 23, 3) := by decide +kernel
theorem dX0_init_28 : decode cX0_init 28 = .ok (.putfield 29, 3) := by decide +kernel
theorem dX0_init_31 : decode cX0_init 31 = .ok (.aload_n 0, 1) := by decide +kernel
theorem dX0_init_32 : decode cX0_init 32 = .ok (.aload_n 2, 1) := by decide +kernel
theorem dX0_init_33 : decode cX0_init 33 = .ok (.getfield 30, 3) := by decide +kernel
theorem dX0_init_36 : decode cX0_init 36 = .ok (.putfield 36, 3) := by decide +kernel
theorem dX0_init_39 : decode cX0_init 39 = .ok (.return_, 1) := by decide +kernel
set_option maxRecDepth 100000 in
set_option maxHeartbeats 4000000 in
theorem k_X0 (l : Launch) (K : wK) (h0 : Nat) (a1 : Nat) (f1 : List Value) (g1_1 : Nat) (a2 : Nat) (f2 : List Value) (g2_0 : Nat) (e1_1 : f1[1]? = some (.ref g1_1)) (e2_0 : f2[0]? = some (.ref g2_0)) : kV l yX0_init (Cond.code yX0_init cX0_init 3 none :: GT) ({ frames := 2, cells := 1, slots := 144, locals := 120 } : Room) 1 144 [.ref h0, .ref a1, .ref a2] K [(h0, .inr (0, [.int 0, .int 0, .int 0, .int 0, .null, .int 0, .null, .null, .null, .null])), (a1, .inr (7, f1)), (a2, .inr (6, f2))] (fun u => ∃ q1 : Nat, u = [(h0, .inr (0, [.int 0, .int 0, .int 0, .int 0, .ref q1, .int 0, .ref a1, .ref a2, .ref g1_1, .ref g2_0])), (a1, .inr (7, f1)), (a2, .inr (6, f2)), (q1, zI K 144)]) := by
  refine kV_of (lv0 := [(0, .ref h0), (1, .ref a1), (2, .ref a2)]) (by decide) (Nat.le_of_ble_eq_true rfl) rfl rfl ?_
  intro p e s m args below meth c Q A C hin N ret
  replace C : Cx p ({ frames := 2, cells := 1, slots := 144, locals := 120 } : Room) m c 0 0 cX0_init 3 s args RX0 K A := C
  refine wn_aload_n C 0 rfl dX0_init_0 rfl ?_
  refine wn_obj C (gt_2 100 (by decide +kernel) rfl) ga_oi ga_oc dX0_init_1 (Nat.le_of_ble_eq_true rfl) (Nat.le_of_ble_eq_true rfl) ?_
  refine wn_aload_n C 0 rfl dX0_init_4 rfl ?_
  refine wn_sipush C (z := 144) dX0_init_5 (by decide) ?_
  refine wn_newI C ga_I (inR_k 144 rfl) rfl (Nat.le_of_ble_eq_true rfl) (Nat.le_of_ble_eq_true rfl) (Nat.le_of_ble_eq_true rfl) dX0_init_8 (fun q1 => ?_)
  replace C := C.more (cells' := 1) (slots' := 144) (Nat.le_of_ble_eq_true rfl) (Nat.le_of_ble_eq_true rfl)
  refine wn_putR C hin (w' := [(h0, .inr (0, [.int 0, .int 0, .int 0, .int 0, .ref q1, .int 0, .null, .null, .null, .null])), (a1, .inr (7, f1)), (a2, .inr (6, f2)), (q1, zI K 144)]) 0 4 rfl rfl (by decide) okX0 gw_349 rfl rfl rfl rfl rfl (Nat.le_of_ble_eq_true rfl) rfl dX0_init_10 ?_
  refine wn_aload_n C 0 rfl dX0_init_13 rfl ?_
  refine wn_aload_n C 1 rfl dX0_init_14 rfl ?_
  refine wn_putR C hin (w' := [(h0, .inr (0, [.int 0, .int 0, .int 0, .int 0, .ref q1, .int 0, .ref a1, .null, .null, .null])), (a1, .inr (7, f1)), (a2, .inr (6, f2)), (q1, zI K 144)]) 0 6 rfl rfl (by decide) okX0 gw_353 rfl rfl rfl rfl rfl (Nat.le_of_ble_eq_true rfl) rfl dX0_init_15 ?_
  refine wn_aload_n C 0 rfl dX0_init_18 rfl ?_
  refine wn_aload_n C 2 rfl dX0_init_19 rfl ?_
  refine wn_putR C hin (w' := [(h0, .inr (0, [.int 0, .int 0, .int 0, .int 0, .ref q1, .int 0, .ref a1, .ref a2, .null, .null])), (a1, .inr (7, f1)), (a2, .inr (6, f2)), (q1, zI K 144)]) 0 7 rfl rfl (by decide) okX0 gw_354 rfl rfl rfl rfl rfl (Nat.le_of_ble_eq_true rfl) rfl dX0_init_20 ?_
  refine wn_aload_n C 0 rfl dX0_init_23 rfl ?_
  refine wn_aload_n C 1 rfl dX0_init_24 rfl ?_
  refine wn_getR C 1 1 rfl rfl (by decide) okX7 gw_298 e1_1 dX0_init_25 ?_
  refine wn_putR C hin (w' := [(h0, .inr (0, [.int 0, .int 0, .int 0, .int 0, .ref q1, .int 0, .ref a1, .ref a2, .ref g1_1, .null])), (a1, .inr (7, f1)), (a2, .inr (6, f2)), (q1, zI K 144)]) 0 8 rfl rfl (by decide) okX0 gw_355 rfl rfl rfl rfl rfl (Nat.le_of_ble_eq_true rfl) rfl dX0_init_28 ?_
  refine wn_aload_n C 0 rfl dX0_init_31 rfl ?_
  refine wn_aload_n C 2 rfl dX0_init_32 rfl ?_
  refine wn_getR C 2 0 rfl rfl (by decide) okX6 gw_272 e2_0 dX0_init_33 ?_
  refine wn_putR C hin (w' := [(h0, .inr (0, [.int 0, .int 0, .int 0, .int 0, .ref q1, .int 0, .ref a1, .ref a2, .ref g1_1, .ref g2_0])), (a1, .inr (7, f1)), (a2, .inr (6, f2)), (q1, zI K 144)]) 0 9 rfl rfl (by decide) okX0 gw_356 rfl rfl rfl rfl rfl (Nat.le_of_ble_eq_true rfl) rfl dX0_init_36 ?_
  exact ret (Nat.le_of_ble_eq_true rfl) (Nat.le_of_ble_eq_true rfl) dX0_init_39 ⟨_, rfl⟩
theorem dX8_init_0 : decode cX8_init 0 = .ok (.aload_n 0, 1) := by decide +kernel
theorem dX8_init_1 : decode cX8_init 1 = .ok (.invokespecial 3, 3) := by decide +kernel
theorem dX8_init_4 : decode cX8_init 4 = .ok (.aload_n 0, 1) := by decide +kernel
theorem dX8_init_5 : decode cX8_init 5 = .ok (.sipush 870, 3) := by decide +kernel
theorem dX8_init_8 : decode cX8_init 8 = .ok (.newarray .long, 2) := by decide +kernel
theorem dX8_init_10 : decode cX8_init 10 = .ok (.putfield 11, 3) := by decide +kernel
theorem dX8_init_13 : decode cX8_init 13 = .ok (.aload_n 0, 1) := by decide +kernel
theorem dX8_init_14 : decode cX8_init 14 = .ok (.bipush 6, 2) := by decide +kernel
theorem dX8_init_16 : decode cX8_init 16 = .ok (.newarray .long, 2) := by decide +kernel
theorem dX8_init_18 : decode cX8_init 18 = .ok (.putfield 17, 3) := by decide +kernel
theorem dX8_init_21 : decode cX8_init 21 = .ok (.return_, 1) := by decide +kernel
set_option maxRecDepth 100000 in
set_option maxHeartbeats 4000000 in
theorem k_X8 (l : Launch) (K : wK) (h0 : Nat)  : kV l yX8_init (Cond.code yX8_init cX8_init 1 none :: GT) ({ frames := 2, cells := 2, slots := 876, locals := 120 } : Room) 2 876 [.ref h0] K [(h0, .inr (8, [.null, .int 0, .int 0, .null]))] (fun u => ∃ q1 q2 : Nat, u = [(h0, .inr (8, [.ref q1, .int 0, .int 0, .ref q2])), (q1, zJ K 870), (q2, zJ K 6)]) := by
  refine kV_of (lv0 := [(0, .ref h0)]) (by decide) (Nat.le_of_ble_eq_true rfl) rfl rfl ?_
  intro p e s m args below meth c Q A C hin N ret
  replace C : Cx p ({ frames := 2, cells := 2, slots := 876, locals := 120 } : Room) m c 0 0 cX8_init 1 s args RX8 K A := C
  refine wn_aload_n C 0 rfl dX8_init_0 rfl ?_
  refine wn_obj C (gt_2 149 (by decide +kernel) rfl) ga_oi ga_oc dX8_init_1 (Nat.le_of_ble_eq_true rfl) (Nat.le_of_ble_eq_true rfl) ?_
  refine wn_aload_n C 0 rfl dX8_init_4 rfl ?_
  refine wn_sipush C (z := 870) dX8_init_5 (by decide) ?_
  refine wn_newJ C ga_J (inR_k 870 rfl) rfl (Nat.le_of_ble_eq_true rfl) (Nat.le_of_ble_eq_true rfl) (Nat.le_of_ble_eq_true rfl) dX8_init_8 (fun q1 => ?_)
  replace C := C.more (cells' := 1) (slots' := 870) (Nat.le_of_ble_eq_true rfl) (Nat.le_of_ble_eq_true rfl)
  refine wn_putR C hin (w' := [(h0, .inr (8, [.ref q1, .int 0, .int 0, .null])), (q1, zJ K 870)]) 0 0 rfl rfl (by decide) okX8 gw_390 rfl rfl rfl rfl rfl (Nat.le_of_ble_eq_true rfl) rfl dX8_init_10 ?_
  refine wn_aload_n C 0 rfl dX8_init_13 rfl ?_
  refine wn_bipush C (z := 6) dX8_init_14 (by decide) ?_
  refine wn_newJ C ga_J (inR_k 6 rfl) rfl (Nat.le_of_ble_eq_true rfl) (Nat.le_of_ble_eq_true rfl) (Nat.le_of_ble_eq_true rfl) dX8_init_16 (fun q2 => ?_)
  replace C := C.more (cells' := 2) (slots' := 876) (Nat.le_of_ble_eq_true rfl) (Nat.le_of_ble_eq_true rfl)
  refine wn_putR C hin (w' := [(h0, .inr (8, [.ref q1, .int 0, .int 0, .ref q2])), (q1, zJ K 870), (q2, zJ K 6)]) 0 3 rfl rfl (by decide) okX8 gw_396 rfl rfl rfl rfl rfl (Nat.le_of_ble_eq_true rfl) rfl dX8_init_18 ?_
  exact ret (Nat.le_of_ble_eq_true rfl) (Nat.le_of_ble_eq_true rfl) dX8_init_21 ⟨_, _, rfl⟩
theorem dX5_init_0 : decode cX5_init 0 = .ok (.aload_n 0, 1) := by decide +kernel
theorem dX5_init_1 : decode cX5_init 1 = .ok (.invokespecial 3, 3) := by decide +kernel
theorem dX5_init_4 : decode cX5_init 4 = .ok (.aload_n 0, 1) := by decide +kernel
theorem dX5_init_5 : decode cX5_init 5 = .ok (.bipush 6, 2) := by decide +kernel
theorem dX5_init_7 : decode cX5_init 7 = .ok (.newarray .long, 2) := by decide +kernel
theorem dX5_init_9 : decode cX5_init 9 = .ok (.putfield 11, 3) := by decide +kernel
theorem dX5_init_12 : decode cX5_init 12 = .ok (.aload_n 0, 1) := by decide +kernel
theorem dX5_init_13 : decode cX5_init 13 = .ok (.bipush 6, 2) := by decide +kernel
theorem dX5_init_15 : decode cX5_init 15 = .ok (.newarray .long, 2) := by decide +kernel
theorem dX5_init_17 : decode cX5_init 17 = .ok (.putfield 17, 3) := by decide +kernel
theorem dX5_init_20 : decode cX5_init 20 = .ok (.aload_n 0, 1) := by decide +kernel
theorem dX5_init_21 : decode cX5_init 21 = .ok (.new 20, 3) := by decide +kernel
theorem dX5_init_24 : decode cX5_init 24 = .ok (.dup, 1) := by decide +kernel
theorem dX5_init_25 : decode cX5_init 25 = .ok (.invokespecial 22, 3) := by decide +kernel
theorem dX5_init_28 : decode cX5_init 28 = .ok (.putfield 23, 3) := by decide +kernel
theorem dX5_init_31 : decode cX5_init 31 = .ok (.aload_n 0, 1) := by decide +kernel
theorem dX5_init_32 : decode cX5_init 32 = .ok (.new 20, 3) := by decide +kernel
theorem dX5_init_35 : decode cX5_init 35 = .ok (.dup, 1) := by decide +kernel
theorem dX5_init_36 : decode cX5_init 36 = .ok (.invokespecial 22, 3) := by decide +kernel
theorem dX5_init_39 : decode cX5_init 39 = .ok (.putfield 27, 3) := by decide +kernel
theorem dX5_init_42 : decode cX5_init 42 = .ok (.aload_n 0, 1) := by decide +kernel
theorem dX5_init_43 : decode cX5_init 43 = .ok (.bipush 6, 2) := by decide +kernel
theorem dX5_init_45 : decode cX5_init 45 = .ok (.newarray .long, 2) := by decide +kernel
theorem dX5_init_47 : decode cX5_init 47 = .ok (.putfield 30, 3) := by decide +kernel
theorem dX5_init_50 : decode cX5_init 50 = .ok (.aload_n 0, 1) := by decide +kernel
theorem dX5_init_51 : decode cX5_init 51 = .ok (.bipush 6, 2) := by decide +kernel
theorem dX5_init_53 : decode cX5_init 53 = .ok (.newarray .long, 2) := by decide +kernel
theorem dX5_init_55 : decode cX5_init 55 = .ok (.putfield 33, 3) := by decide +kernel
theorem dX5_init_58 : decode cX5_init 58 = .ok (.aload_n 0, 1) := by decide +kernel
theorem dX5_init_59 : decode cX5_init 59 = .ok (.bipush 6, 2) := by decide +kernel
theorem dX5_init_61 : decode cX5_init 61 = .ok (.newarray .long, 2) := by decide +kernel
theorem dX5_init_63 : decode cX5_init 63 = .ok (.putfield 36, 3) := by decide +kernel
theorem dX5_init_66 : decode cX5_init 66 = .ok (.aload_n 0, 1) := by decide +kernel
theorem dX5_init_67 : decode cX5_init 67 = .ok (.bipush 6, 2) := by decide +kernel
theorem dX5_init_69 : decode cX5_init 69 = .ok (.newarray .long, 2) := by decide +kernel
theorem dX5_init_71 : decode cX5_init 71 = .ok (.putfield 39, 3) := by decide +kernel
theorem dX5_init_74 : decode cX5_init 74 = .ok (.aload_n 0, 1) := by decide +kernel
theorem dX5_init_75 : decode cX5_init 75 = .ok (.aload_n 1, 1) := by decide +kernel
theorem dX5_init_76 : decode cX5_init 76 = .ok (.getfield 42, 3) := by decide +kernel
theorem dX5_init_79 : decode cX5_init 79 = .ok (.putfield 48, 3) := by decide +kernel
theorem dX5_init_82 : decode cX5_init 82 = .ok (.aload_n 0, 1) := by decide +kernel
theorem dX5_init_83 : decode cX5_init 83 = .ok (.aload_n 1, 1) := by decide +kernel
theorem dX5_init_84 : decode cX5_init 84 = .ok (.putfield 49, 3) := by decide +kernel
theorem dX5_init_87 : decode cX5_init 87 = .ok (.aload_n 0, 1) := by decide +kernel
theorem dX5_init_88 : decode cX5_init 88 = .ok (.aload_n 2, 1) := by decide +kernel
theorem dX5_init_89 : decode cX5_init 89 = .ok (.putfield 53, 3) := by decide +kernel
theorem dX5_init_92 : decode cX5_init 92 = .ok (.return_, 1) := by decide +kernel
set_option maxRecDepth 100000 in
set_option maxHeartbeats 4000000 in
theorem k_X5 (l : Launch) (K : wK) (h0 : Nat) (a1 : Nat) (f1 : List Value) (g1_0 : Nat) (a2 : Nat) (e1_0 : f1[0]? = some (.ref g1_0)) : kV l yX5_init (Cond.code yX5_init cX5_init 3 none :: GT) ({ frames := 3, cells := 12, slots := 1796, locals := 180 } : Room) 12 1796 [.ref h0, .ref a1, .ref a2] K [(h0, .inr (5, [.null, .null, .null, .null, .null, .null, .null, .null, .null, .null, .null])), (a1, .inr (1, f1))] (fun u => ∃ q1 q2 q3 q4 q5 q6 q7 q8 q9 q10 q11 q12 : Nat, u = [(h0, .inr (5, [.ref q1, .ref q2, .ref g1_0, .ref a1, .ref a2, .ref q3, .ref q6, .ref q9, .ref q10, .ref q11, .ref q12])), (a1, .inr (1, f1)), (q1, zJ K 6), (q2, zJ K 6), (q3, .inr (8, [.ref q4, .int 0, .int 0, .ref q5])), (q4, zJ K 870), (q5, zJ K 6), (q6, .inr (8, [.ref q7, .int 0, .int 0, .ref q8])), (q7, zJ K 870), (q8, zJ K 6), (q9, zJ K 6), (q10, zJ K 6), (q11, zJ K 6), (q12, zJ K 6)]) := by
  refine kV_of (lv0 := [(0, .ref h0), (1, .ref a1), (2, .ref a2)]) (by decide) (Nat.le_of_ble_eq_true rfl) rfl rfl ?_
  intro p e s m args below meth c Q A C hin N ret
  replace C : Cx p ({ frames := 3, cells := 12, slots := 1796, locals := 180 } : Room) m c 0 0 cX5_init 3 s args RX5 K A := C
  refine wn_aload_n C 0 rfl dX5_init_0 rfl ?_
  refine wn_obj C (gt_2 143 (by decide +kernel) rfl) ga_oi ga_oc dX5_init_1 (Nat.le_of_ble_eq_true rfl) (Nat.le_of_ble_eq_true rfl) ?_
  refine wn_aload_n C 0 rfl dX5_init_4 rfl ?_
  refine wn_bipush C (z := 6) dX5_init_5 (by decide) ?_
  refine wn_newJ C ga_J (inR_k 6 rfl) rfl (Nat.le_of_ble_eq_true rfl) (Nat.le_of_ble_eq_true rfl) (Nat.le_of_ble_eq_true rfl) dX5_init_7 (fun q1 => ?_)
  replace C := C.more (cells' := 1) (slots' := 6) (Nat.le_of_ble_eq_true rfl) (Nat.le_of_ble_eq_true rfl)
  refine wn_putR C hin (w' := [(h0, .inr (5, [.ref q1, .null, .null, .null, .null, .null, .null, .null, .null, .null, .null])), (a1, .inr (1, f1)), (q1, zJ K 6)]) 0 0 rfl rfl (by decide) okX5 gw_406 rfl rfl rfl rfl rfl (Nat.le_of_ble_eq_true rfl) rfl dX5_init_9 ?_
  refine wn_aload_n C 0 rfl dX5_init_12 rfl ?_
  refine wn_bipush C (z := 6) dX5_init_13 (by decide) ?_
  refine wn_newJ C ga_J (inR_k 6 rfl) rfl (Nat.le_of_ble_eq_true rfl) (Nat.le_of_ble_eq_true rfl) (Nat.le_of_ble_eq_true rfl) dX5_init_15 (fun q2 => ?_)
  replace C := C.more (cells' := 2) (slots' := 12) (Nat.le_of_ble_eq_true rfl) (Nat.le_of_ble_eq_true rfl)
  refine wn_putR C hin (w' := [(h0, .inr (5, [.ref q1, .ref q2, .null, .null, .null, .null, .null, .null, .null, .null, .null])), (a1, .inr (1, f1)), (q1, zJ K 6), (q2, zJ K 6)]) 0 1 rfl rfl (by decide) okX5 gw_408 rfl rfl rfl rfl rfl (Nat.le_of_ble_eq_true rfl) rfl dX5_init_17 ?_
  refine wn_aload_n C 0 rfl dX5_init_20 rfl ?_
  refine wn_new C (ci := 8) (fs := [.null, .int 0, .int 0, .null]) tyX8_ok okX8 (gt_2 144 (by decide +kernel) rfl) (gt_2 145 (by decide +kernel) rfl) gw_10 rfl (fun j hj => by rcases (show j = 0 ∨ j = 1 ∨ j = 2 ∨ j = 3 by omega) with rfl | rfl | rfl | rfl <;> rfl) (Nat.le_of_ble_eq_true rfl) (Nat.le_of_ble_eq_true rfl) dX5_init_21 (fun q3 => ?_)
  replace C := C.more (cells' := 3) (slots' := 16) (Nat.le_of_ble_eq_true rfl) (Nat.le_of_ble_eq_true rfl)
  refine wn_dup C dX5_init_24 rfl ?_
  refine wn_callN C N (As := []) (rest := [.ref q3, .ref h0]) (wr := [(h0, .inr (5, [.ref q1, .ref q2, .null, .null, .null, .null, .null, .null, .null, .null, .null])), (a1, .inr (1, f1)), (q1, zJ K 6), (q2, zJ K 6)]) (k_X8 l K q3) [4] [0, 1, 2, 3] rfl rfl (by decide) (by decide) (by decide) gw_388 (by decide +kernel) gw_387 gw_10 ⟨by decide, by decide, by decide +kernel⟩ rfl rfl rfl rfl ⟨by decide, by decide⟩ rfl (Nat.le_of_ble_eq_true rfl) dX5_init_25 ⟨(Nat.le_of_ble_eq_true rfl), (Nat.le_of_ble_eq_true rfl)⟩ (fun w1 hw1 => ?_)
  obtain ⟨q4, q5, rfl⟩ := hw1
  replace C := C.more (cells' := 5) (slots' := 892) (Nat.le_of_ble_eq_true rfl) (Nat.le_of_ble_eq_true rfl)
  refine wn_putR C hin (w' := [(h0, .inr (5, [.ref q1, .ref q2, .null, .null, .null, .ref q3, .null, .null, .null, .null, .null])), (a1, .inr (1, f1)), (q1, zJ K 6), (q2, zJ K 6), (q3, .inr (8, [.ref q4, .int 0, .int 0, .ref q5])), (q4, zJ K 870), (q5, zJ K 6)]) 0 5 rfl rfl (by decide) okX5 gw_413 rfl rfl rfl rfl rfl (Nat.le_of_ble_eq_true rfl) rfl dX5_init_28 ?_
  refine wn_aload_n C 0 rfl dX5_init_31 rfl ?_
  refine wn_new C (ci := 8) (fs := [.null, .int 0, .int 0, .null]) tyX8_ok okX8 (gt_2 144 (by decide +kernel) rfl) (gt_2 145 (by decide +kernel) rfl) gw_10 rfl (fun j hj => by rcases (show j = 0 ∨ j = 1 ∨ j = 2 ∨ j = 3 by omega) with rfl | rfl | rfl | rfl <;> rfl) (Nat.le_of_ble_eq_true rfl) (Nat.le_of_ble_eq_true rfl) dX5_init_32 (fun q6 => ?_)
  replace C := C.more (cells' := 6) (slots' := 896) (Nat.le_of_ble_eq_true rfl) (Nat.le_of_ble_eq_true rfl)
  refine wn_dup C dX5_init_35 rfl ?_
  refine wn_callN C N (As := []) (rest := [.ref q6, .ref h0]) (wr := [(h0, .inr (5, [.ref q1, .ref q2, .null, .null, .null, .ref q3, .null, .null, .null, .null, .null])), (a1, .inr (1, f1)), (q1, zJ K 6), (q2, zJ K 6), (q3, .inr (8, [.ref q4, .int 0, .int 0, .ref q5])), (q4, zJ K 870), (q5, zJ K 6)]) (k_X8 l K q6) [7] [0, 1, 2, 3, 4, 5, 6] rfl rfl (by decide) (by decide) (by decide) gw_388 (by decide +kernel) gw_387 gw_10 ⟨by decide, by decide, by decide +kernel⟩ rfl rfl rfl rfl ⟨by decide, by decide⟩ rfl (Nat.le_of_ble_eq_true rfl) dX5_init_36 ⟨(Nat.le_of_ble_eq_true rfl), (Nat.le_of_ble_eq_true rfl)⟩ (fun w1 hw1 => ?_)
  obtain ⟨q7, q8, rfl⟩ := hw1
  replace C := C.more (cells' := 8) (slots' := 1772) (Nat.le_of_ble_eq_true rfl) (Nat.le_of_ble_eq_true rfl)
  refine wn_putR C hin (w' := [(h0, .inr (5, [.ref q1, .ref q2, .null, .null, .null, .ref q3, .ref q6, .null, .null, .null, .null])), (a1, .inr (1, f1)), (q1, zJ K 6), (q2, zJ K 6), (q3, .inr (8, [.ref q4, .int 0, .int 0, .ref q5])), (q4, zJ K 870), (q5, zJ K 6), (q6, .inr (8, [.ref q7, .int 0, .int 0, .ref q8])), (q7, zJ K 870), (q8, zJ K 6)]) 0 6 rfl rfl (by decide) okX5 gw_414 rfl rfl rfl rfl rfl (Nat.le_of_ble_eq_true rfl) rfl dX5_init_39 ?_
  refine wn_aload_n C 0 rfl dX5_init_42 rfl ?_
  refine wn_bipush C (z := 6) dX5_init_43 (by decide) ?_
  refine wn_newJ C ga_J (inR_k 6 rfl) rfl (Nat.le_of_ble_eq_true rfl) (Nat.le_of_ble_eq_true rfl) (Nat.le_of_ble_eq_true rfl) dX5_init_45 (fun q9 => ?_)
  replace C := C.more (cells' := 9) (slots' := 1778) (Nat.le_of_ble_eq_true rfl) (Nat.le_of_ble_eq_true rfl)
  refine wn_putR C hin (w' := [(h0, .inr (5, [.ref q1, .ref q2, .null, .null, .null, .ref q3, .ref q6, .ref q9, .null, .null, .null])), (a1, .inr (1, f1)), (q1, zJ K 6), (q2, zJ K 6), (q3, .inr (8, [.ref q4, .int 0, .int 0, .ref q5])), (q4, zJ K 870), (q5, zJ K 6), (q6, .inr (8, [.ref q7, .int 0, .int 0, .ref q8])), (q7, zJ K 870), (q8, zJ K 6), (q9, zJ K 6)]) 0 7 rfl rfl (by decide) okX5 gw_415 rfl rfl rfl rfl rfl (Nat.le_of_ble_eq_true rfl) rfl dX5_init_47 ?_
  refine wn_aload_n C 0 rfl dX5_init_50 rfl ?_
  refine wn_bipush C (z := 6) dX5_init_51 (by decide) ?_
  refine wn_newJ C ga_J (inR_k 6 rfl) rfl (Nat.le_of_ble_eq_true rfl) (Nat.le_of_ble_eq_true rfl) (Nat.le_of_ble_eq_true rfl) dX5_init_53 (fun q10 => ?_)
  replace C := C.more (cells' := 10) (slots' := 1784) (Nat.le_of_ble_eq_true rfl) (Nat.le_of_ble_eq_true rfl)
  refine wn_putR C hin (w' := [(h0, .inr (5, [.ref q1, .ref q2, .null, .null, .null, .ref q3, .ref q6, .ref q9, .ref q10, .null, .null])), (a1, .inr (1, f1)), (q1, zJ K 6), (q2, zJ K 6), (q3, .inr (8, [.ref q4, .int 0, .int 0, .ref q5])), (q4, zJ K 870), (q5, zJ K 6), (q6, .inr (8, [.ref q7, .int 0, .int 0, .ref q8])), (q7, zJ K 870), (q8, zJ K 6), (q9, zJ K 6), (q10, zJ K 6)]) 0 8 rfl rfl (by decide) okX5 gw_416 rfl rfl rfl rfl rfl (Nat.le_of_ble_eq_true rfl) rfl dX5_init_55 ?_
  refine wn_aload_n C 0 rfl dX5_init_58 rfl ?_
  refine wn_bipush C (z := 6) dX5_init_59 (by decide) ?_
  refine wn_newJ C ga_J (inR_k 6 rfl) rfl (Nat.le_of_ble_eq_true rfl) (Nat.le_of_ble_eq_true rfl) (Nat.le_of_ble_eq_true rfl) dX5_init_61 (fun q11 => ?_)
  replace C := C.more (cells' := 11) (slots' := 1790) (Nat.le_of_ble_eq_true rfl) (Nat.le_of_ble_eq_true rfl)
  refine wn_putR C hin (w' := [(h0, .inr (5, [.ref q1, .ref q2, .null, .null, .null, .ref q3, .ref q6, .ref q9, .ref q10, .ref q11, .null])), (a1, .inr (1, f1)), (q1, zJ K 6), (q2, zJ K 6), (q3, .inr (8, [.ref q4, .int 0, .int 0, .ref q5])), (q4, zJ K 870), (q5, zJ K 6), (q6, .inr (8, [.ref q7, .int 0, .int 0, .ref q8])), (q7, zJ K 870), (q8, zJ K 6), (q9, zJ K 6), (q10, zJ K 6), (q11, zJ K 6)]) 0 9 rfl rfl (by decide) okX5 gw_417 rfl rfl rfl rfl rfl (Nat.le_of_ble_eq_true rfl) rfl dX5_init_63 ?_
  refine wn_aload_n C 0 rfl dX5_init_66 rfl ?_
  refine wn_bipush C (z := 6) dX5_init_67 (by decide) ?_
  refine wn_newJ C ga_J (inR_k 6 rfl) rfl (Nat.le_of_ble_eq_true rfl) (Nat.le_of_ble_eq_true rfl) (Nat.le_of_ble_eq_true rfl) dX5_init_69 (fun q12 => ?_)
  replace C := C.more (cells' := 12) (slots' := 1796) (Nat.le_of_ble_eq_true rfl) (Nat.le_of_ble_eq_true rfl)
  refine wn_putR C hin (w' := [(h0, .inr (5, [.ref q1, .ref q2, .null, .null, .null, .ref q3, .ref q6, .ref q9, .ref q10, .ref q11, .ref q12])), (a1, .inr (1, f1)), (q1, zJ K 6), (q2, zJ K 6), (q3, .inr (8, [.ref q4, .int 0, .int 0, .ref q5])), (q4, zJ K 870), (q5, zJ K 6), (q6, .inr (8, [.ref q7, .int 0, .int 0, .ref q8])), (q7, zJ K 870), (q8, zJ K 6), (q9, zJ K 6), (q10, zJ K 6), (q11, zJ K 6), (q12, zJ K 6)]) 0 10 rfl rfl (by decide) okX5 gw_418 rfl rfl rfl rfl rfl (Nat.le_of_ble_eq_true rfl) rfl dX5_init_71 ?_
  refine wn_aload_n C 0 rfl dX5_init_74 rfl ?_
  refine wn_aload_n C 1 rfl dX5_init_75 rfl ?_
  refine wn_getR C 1 0 rfl rfl (by decide) okX1 gw_157 e1_0 dX5_init_76 ?_
  refine wn_putR C hin (w' := [(h0, .inr (5, [.ref q1, .ref q2, .ref g1_0, .null, .null, .ref q3, .ref q6, .ref q9, .ref q10, .ref q11, .ref q12])), (a1, .inr (1, f1)), (q1, zJ K 6), (q2, zJ K 6), (q3, .inr (8, [.ref q4, .int 0, .int 0, .ref q5])), (q4, zJ K 870), (q5, zJ K 6), (q6, .inr (8, [.ref q7, .int 0, .int 0, .ref q8])), (q7, zJ K 870), (q8, zJ K 6), (q9, zJ K 6), (q10, zJ K 6), (q11, zJ K 6), (q12, zJ K 6)]) 0 2 rfl rfl (by decide) okX5 gw_410 rfl rfl rfl rfl rfl (Nat.le_of_ble_eq_true rfl) rfl dX5_init_79 ?_
  refine wn_aload_n C 0 rfl dX5_init_82 rfl ?_
  refine wn_aload_n C 1 rfl dX5_init_83 rfl ?_
  refine wn_putR C hin (w' := [(h0, .inr (5, [.ref q1, .ref q2, .ref g1_0, .ref a1, .null, .ref q3, .ref q6, .ref q9, .ref q10, .ref q11, .ref q12])), (a1, .inr (1, f1)), (q1, zJ K 6), (q2, zJ K 6), (q3, .inr (8, [.ref q4, .int 0, .int 0, .ref q5])), (q4, zJ K 870), (q5, zJ K 6), (q6, .inr (8, [.ref q7, .int 0, .int 0, .ref q8])), (q7, zJ K 870), (q8, zJ K 6), (q9, zJ K 6), (q10, zJ K 6), (q11, zJ K 6), (q12, zJ K 6)]) 0 3 rfl rfl (by decide) okX5 gw_411 rfl rfl rfl rfl rfl (Nat.le_of_ble_eq_true rfl) rfl dX5_init_84 ?_
  refine wn_aload_n C 0 rfl dX5_init_87 rfl ?_
  refine wn_aload_n C 2 rfl dX5_init_88 rfl ?_
  refine wn_putR C hin (w' := [(h0, .inr (5, [.ref q1, .ref q2, .ref g1_0, .ref a1, .ref a2, .ref q3, .ref q6, .ref q9, .ref q10, .ref q11, .ref q12])), (a1, .inr (1, f1)), (q1, zJ K 6), (q2, zJ K 6), (q3, .inr (8, [.ref q4, .int 0, .int 0, .ref q5])), (q4, zJ K 870), (q5, zJ K 6), (q6, .inr (8, [.ref q7, .int 0, .int 0, .ref q8])), (q7, zJ K 870), (q8, zJ K 6), (q9, zJ K 6), (q10, zJ K 6), (q11, zJ K 6), (q12, zJ K 6)]) 0 4 rfl rfl (by decide) okX5 gw_412 rfl rfl rfl rfl rfl (Nat.le_of_ble_eq_true rfl) rfl dX5_init_89 ?_
  exact ret (Nat.le_of_ble_eq_true rfl) (Nat.le_of_ble_eq_true rfl) dX5_init_92 ⟨_, _, _, _, _, _, _, _, _, _, _, _, rfl⟩
theorem dX4_init_0 : decode cX4_init 0 = .ok (.aload_n 0, 1) := by decide +kernel
theorem dX4_init_1 : decode cX4_init 1 = .ok (.invokespecial 7, 3) := by decide +kernel
theorem dX4_init_4 : decode cX4_init 4 = .ok (.aload_n 0, 1) := by decide +kernel
theorem dX4_init_5 : decode cX4_init 5 = .ok (.aload_n 1, 1) := by decide +kernel
theorem dX4_init_6 : decode cX4_init 6 = .ok (.putfield 13, 3) := by decide +kernel
theorem dX4_init_9 : decode cX4_init 9 = .ok (.aload_n 0, 1) := by decide +kernel
theorem dX4_init_10 : decode cX4_init 10 = .ok (.aload_n 1, 1) := by decide +kernel
theorem dX4_init_11 : decode cX4_init 11 = .ok (.getfield 17, 3) := by decide +kernel
theorem dX4_init_14 : decode cX4_init 14 = .ok (.putfield 23, 3) := by decide +kernel
theorem dX4_init_17 : decode cX4_init 17 = .ok (.aload_n 0, 1) := by decide +kernel
theorem dX4_init_18 : decode cX4_init 18 = .ok (.aload_n 2, 1) := by decide +kernel
theorem dX4_init_19 : decode cX4_init 19 = .ok (.putfield 24, 3) := by decide +kernel
theorem dX4_init_22 : decode cX4_init 22 = .ok (.return_, 1) := by decide +kernel
set_option maxRecDepth 100000 in
set_option maxHeartbeats 4000000 in
theorem k_X4 (l : Launch) (K : wK) (h0 : Nat) (a1 : Nat) (f1 : List Value) (g1_0 : Nat) (a2 : Nat) (e1_0 : f1[0]? = some (.ref g1_0)) : kV l yX4_init (Cond.code yX4_init cX4_init 3 none :: GT) ({ frames := 2, cells := 0, slots := 0, locals := 120 } : Room) 0 0 [.ref h0, .ref a1, .ref a2] K [(h0, .inr (4, [.null, .null, .null])), (a1, .inr (2, f1))] (fun u => u = [(h0, .inr (4, [.ref a1, .ref g1_0, .ref a2])), (a1, .inr (2, f1))]) := by
  refine kV_of (lv0 := [(0, .ref h0), (1, .ref a1), (2, .ref a2)]) (by decide) (Nat.le_of_ble_eq_true rfl) rfl rfl ?_
  intro p e s m args below meth c Q A C hin N ret
  replace C : Cx p ({ frames := 2, cells := 0, slots := 0, locals := 120 } : Room) m c 0 0 cX4_init 3 s args RX4 K A := C
  refine wn_aload_n C 0 rfl dX4_init_0 rfl ?_
  refine wn_obj C (gt_2 207 (by decide +kernel) rfl) ga_oi ga_oc dX4_init_1 (Nat.le_of_ble_eq_true rfl) (Nat.le_of_ble_eq_true rfl) ?_
  refine wn_aload_n C 0 rfl dX4_init_4 rfl ?_
  refine wn_aload_n C 1 rfl dX4_init_5 rfl ?_
  refine wn_putR C hin (w' := [(h0, .inr (4, [.ref a1, .null, .null])), (a1, .inr (2, f1))]) 0 0 rfl rfl (by decide) okX4 gw_448 rfl rfl rfl rfl rfl (Nat.le_of_ble_eq_true rfl) rfl dX4_init_6 ?_
  refine wn_aload_n C 0 rfl dX4_init_9 rfl ?_
  refine wn_aload_n C 1 rfl dX4_init_10 rfl ?_
  refine wn_getR C 1 0 rfl rfl (by decide) okX2 gw_82 e1_0 dX4_init_11 ?_
  refine wn_putR C hin (w' := [(h0, .inr (4, [.ref a1, .ref g1_0, .null])), (a1, .inr (2, f1))]) 0 1 rfl rfl (by decide) okX4 gw_449 rfl rfl rfl rfl rfl (Nat.le_of_ble_eq_true rfl) rfl dX4_init_14 ?_
  refine wn_aload_n C 0 rfl dX4_init_17 rfl ?_
  refine wn_aload_n C 2 rfl dX4_init_18 rfl ?_
  refine wn_putR C hin (w' := [(h0, .inr (4, [.ref a1, .ref g1_0, .ref a2])), (a1, .inr (2, f1))]) 0 2 rfl rfl (by decide) okX4 gw_450 rfl rfl rfl rfl rfl (Nat.le_of_ble_eq_true rfl) rfl dX4_init_19 ?_
  exact ret (Nat.le_of_ble_eq_true rfl) (Nat.le_of_ble_eq_true rfl) dX4_init_22 rfl
theorem dX11_init_0 : decode cX11_init 0 = .ok (.aload_n 0, 1) := by decide +kernel
theorem dX11_init_1 : decode cX11_init 1 = .ok (.invokespecial 3, 3) := by decide +kernel
theorem dX11_init_4 : decode cX11_init 4 = .ok (.aload_n 0, 1) := by decide +kernel
theorem dX11_init_5 : decode cX11_init 5 = .ok (.new 9, 3) := by decide +kernel
theorem dX11_init_8 : decode cX11_init 8 = .ok (.dup, 1) := by decide +kernel
theorem dX11_init_9 : decode cX11_init 9 = .ok (.invokespecial 11, 3) := by decide +kernel
theorem dX11_init_12 : decode cX11_init 12 = .ok (.putfield 12, 3) := by decide +kernel
theorem dX11_init_15 : decode cX11_init 15 = .ok (.aload_n 0, 1) := by decide +kernel
theorem dX11_init_16 : decode cX11_init 16 = .ok (.new 16, 3) := by decide +kernel
theorem dX11_init_19 : decode cX11_init 19 = .ok (.dup, 1) := by decide +kernel
theorem dX11_init_20 : decode cX11_init 20 = .ok (.aload_n 0, 1) := by decide +kernel
theorem dX11_init_21 : decode cX11_init 21 = .ok (.getfield 12, 3) := by decide +kernel
theorem dX11_init_24 : decode cX11_init 24 = .ok (.invokespecial 18, 3) := by decide +kernel
theorem dX11_init_27 : decode cX11_init 27 = .ok (.putfield 21, 3) := by decide +kernel
theorem dX11_init_30 : decode cX11_init 30 = .ok (.new 25, 3) := by decide +kernel
theorem dX11_init_33 : decode cX11_init 33 = .ok (.dup, 1) := by decide +kernel
theorem dX11_init_34 : decode cX11_init 34 = .ok (.aload_n 0, 1) := by decide +kernel
theorem dX11_init_35 : decode cX11_init 35 = .ok (.getfield 21, 3) := by decide +kernel
theorem dX11_init_38 : decode cX11_init 38 = .ok (.invokespecial 27, 3) := by decide +kernel
theorem dX11_init_41 : decode cX11_init 41 = .ok (.astore_n 1, 1) := by decide +kernel
theorem dX11_init_42 : decode cX11_init 42 = .ok (.aload_n 0, 1) := by decide +kernel
theorem dX11_init_43 : decode cX11_init 43 = .ok (.new 30, 3) := by decide +kernel
theorem dX11_init_46 : decode cX11_init 46 = .ok (.dup, 1) := by decide +kernel
theorem dX11_init_47 : decode cX11_init 47 = .ok (.aload_n 0, 1) := by decide +kernel
theorem dX11_init_48 : decode cX11_init 48 = .ok (.getfield 21, 3) := by decide +kernel
theorem dX11_init_51 : decode cX11_init 51 = .ok (.aload_n 1, 1) := by decide +kernel
theorem dX11_init_52 : decode cX11_init 52 = .ok (.invokespecial 32, 3) := by decide +kernel
theorem dX11_init_55 : decode cX11_init 55 = .ok (.putfield 35, 3) := by decide +kernel
theorem dX11_init_58 : decode cX11_init 58 = .ok (.new 39, 3) := by decide +kernel
theorem dX11_init_61 : decode cX11_init 61 = .ok (.dup, 1) := by decide +kernel
theorem dX11_init_62 : decode cX11_init 62 = .ok (.aload_n 0, 1) := by decide +kernel
theorem dX11_init_63 : decode cX11_init 63 = .ok (.getfield 12, 3) := by decide +kernel
theorem dX11_init_66 : decode cX11_init 66 = .ok (.aload_n 0, 1) := by decide +kernel
theorem dX11_init_67 : decode cX11_init 67 = .ok (.getfield 35, 3) := by decide +kernel
theorem dX11_init_70 : decode cX11_init 70 = .ok (.invokespecial 41, 3) := by decide +kernel
theorem dX11_init_73 : decode cX11_init 73 = .ok (.astore_n 2, 1) := by decide +kernel
theorem dX11_init_74 : decode cX11_init 74 = .ok (.aload_n 0, 1) := by decide +kernel
theorem dX11_init_75 : decode cX11_init 75 = .ok (.new 44, 3) := by decide +kernel
theorem dX11_init_78 : decode cX11_init 78 = .ok (.dup, 1) := by decide +kernel
theorem dX11_init_79 : decode cX11_init 79 = .ok (.aload_n 2, 1) := by decide +kernel
theorem dX11_init_80 : decode cX11_init 80 = .ok (.aload_n 0, 1) := by decide +kernel
theorem dX11_init_81 : decode cX11_init 81 = .ok (.getfield 35, 3) := by decide +kernel
theorem dX11_init_84 : decode cX11_init 84 = .ok (.invokespecial 46, 3) := by decide +kernel
theorem dX11_init_87 : decode cX11_init 87 = .ok (.putfield 49, 3) := by decide +kernel
theorem dX11_init_90 : decode cX11_init 90 = .ok (.aload_n 0, 1) := by decide +kernel
theorem dX11_init_91 : decode cX11_init 91 = .ok (.new 53, 3) := by decide +kernel
theorem dX11_init_94 : decode cX11_init 94 = .ok (.dup, 1) := by decide +kernel
theorem dX11_init_95 : decode cX11_init 95 = .ok (.aload_n 0, 1) := by decide +kernel
theorem dX11_init_96 : decode cX11_init 96 = .ok (.getfield 21, 3) := by decide +kernel
theorem dX11_init_99 : decode cX11_init 99 = .ok (.aload_n 1, 1) := by decide +kernel
theorem dX11_init_100 : decode cX11_init 100 = .ok (.invokespecial 55, 3) := by decide +kernel
theorem dX11_init_103 : decode cX11_init 103 = .ok (.putfield 56, 3) := by decide +kernel
theorem dX11_init_106 : decode cX11_init 106 = .ok (.aload_n 0, 1) := by decide +kernel
theorem dX11_init_107 : decode cX11_init 107 = .ok (.new 60, 3) := by decide +kernel
theorem dX11_init_110 : decode cX11_init 110 = .ok (.dup, 1) := by decide +kernel
theorem dX11_init_111 : decode cX11_init 111 = .ok (.aload_n 0, 1) := by decide +kernel
theorem dX11_init_112 : decode cX11_init 112 = .ok (.getfield 12, 3) := by decide +kernel
theorem dX11_init_115 : decode cX11_init 115 = .ok (.aload_n 2, 1) := by decide +kernel
theorem dX11_init_116 : decode cX11_init 116 = .ok (.invokespecial 62, 3) := by decide +kernel
theorem dX11_init_119 : decode cX11_init 119 = .ok (.putfield 65, 3) := by decide +kernel
theorem dX11_init_122 : decode cX11_init 122 = .ok (.return_, 1) := by decide +kernel
set_option maxRecDepth 100000 in
set_option maxHeartbeats 4000000 in
theorem k_X11 (l : Launch) (K : wK) (h0 : Nat)  : kV l yX11_init (Cond.code yX11_init cX11_init 3 none :: GT) ({ frames := 4, cells := 61, slots := 8481, locals := 240 } : Room) 61 8481 [.ref h0] K [(h0, .inr (10, [.null, .null, .null, .null, .null, .null, .int 0, .int 0]))] (fun u => ∃ q1 q2 q3 q4 q5 q6 q7 q8 q9 q10 q11 q12 q13 q14 q15 q16 q17 q18 q19 q20 q21 q22 q23 q24 q25 q26 q27 q28 q29 q30 q31 q32 q33 q34 q35 q36 q37 q38 q39 q40 q41 q42 q43 q44 q45 q46 q47 q48 q49 q50 q51 q52 q53 q54 q55 q56 q57 q58 q59 q60 q61 : Nat, u = [(h0, .inr (10, [.ref q1, .ref q15, .ref q35, .ref q46, .ref q48, .ref q61, .int 0, .int 0])), (q2, .inr (3, [.int 0, .int 0, .int 0, .ref q3, .ref q4])), (q3, zI K 1152), (q4, zI K 144), (q5, zZ K 144), (q6, zI K 144), (q7, zI K 144), (q8, zI K 4), (q9, zI K 144), (q10, zI K 144), (q11, zI K 512), (q12, zI K 656), (q13, zI K 144), (q14, zZ K 144), (q16, zZ K 144), (q17, zI K 144), (q18, zI K 144), (q19, zI K 144), (q20, zI K 145), (q21, zI K 144), (q22, .inr (9, [.ref q23, .ref q24, .ref q25, .ref q26, .ref q27, .ref q15, .ref q2, .ref q28, .ref q29, .ref q30, .ref q31, .ref q32, .ref q33, .ref q34, .int 0, .int 0, .int 0])), (q23, zI K 144), (q24, zI K 144), (q25, zI K 144), (q26, zI K 288), (q27, zI K 17), (q28, zI K 144), (q29, zI K 17), (q30, zI K 136), (q31, zI K 17), (q32, zI K 16), (q33, zI K 16), (q34, zI K 16), (q36, zJ K 3), (q37, zJ K 3), (q39, zI K 144), (q40, zI K 144), (q41, zI K 144), (q42, zI K 144), (q43, zZ K 144), (q44, zI K 144), (q45, zI K 144), (q46, .inr (0, [.int 0, .int 0, .int 0, .int 0, .ref q47, .int 0, .ref q38, .ref q35, .ref q1, .ref q15])), (q38, .inr (7, [.ref q39, .ref q1, .ref q2, .ref q35, .ref q40, .ref q41, .ref q42, .ref q43, .int 0, .ref q44, .ref q45, .int 0])), (q35, .inr (6, [.ref q15, .ref q22, .ref q1, .ref q36, .ref q37])), (q47, zI K 144), (q48, .inr (5, [.ref q49, .ref q50, .ref q1, .ref q15, .ref q22, .ref q51, .ref q54, .ref q57, .ref q58, .ref q59, .ref q60])), (q15, .inr (1, [.ref q1, .ref q2, .ref q16, .ref q17, .ref q18, .ref q19, .ref q20, .ref q21, .int 0, .int 0])), (q49, zJ K 6), (q50, zJ K 6), (q51, .inr (8, [.ref q52, .int 0, .int 0, .ref q53])), (q52, zJ K 870), (q53, zJ K 6), (q54, .inr (8, [.ref q55, .int 0, .int 0, .ref q56])), (q55, zJ K 870), (q56, zJ K 6), (q57, zJ K 6), (q58, zJ K 6), (q59, zJ K 6), (q60, zJ K 6), (q61, .inr (4, [.ref q1, .ref q2, .ref q38])), (q1, .inr (2, [.ref q2, .ref q5, .ref q6, .ref q7, .ref q8, .ref q9, .ref q10, .int 0, .int 0, .ref q11, .ref q12, .int 0, .ref q13, .ref q14]))]) := by
  refine kV_of (lv0 := [(0, .ref h0)]) (by decide) (Nat.le_of_ble_eq_true rfl) rfl rfl ?_
  intro p e s m args below meth c Q A C hin N ret
  replace C : Cx p ({ frames := 4, cells := 61, slots := 8481, locals := 240 } : Room) m c 0 0 cX11_init 3 s args RX11 K A := C
  refine wn_aload_n C 0 rfl dX11_init_0 rfl ?_
  refine wn_obj C (gt_1 30 (by decide +kernel) rfl) ga_oi ga_oc dX11_init_1 (Nat.le_of_ble_eq_true rfl) (Nat.le_of_ble_eq_true rfl) ?_
  refine wn_aload_n C 0 rfl dX11_init_4 rfl ?_
  refine wn_new C (ci := 2) (fs := [.null, .null, .null, .null, .null, .null, .null, .int 0, .int 0, .null, .null, .int 0, .null, .null]) tyX2_ok okX2 (gt_1 33 (by decide +kernel) rfl) (gt_1 34 (by decide +kernel) rfl) gw_2 rfl (fun j hj => by rcases (show j = 0 ∨ j = 1 ∨ j = 2 ∨ j = 3 ∨ j = 4 ∨ j = 5 ∨ j = 6 ∨ j = 7 ∨ j = 8 ∨ j = 9 ∨ j = 10 ∨ j = 11 ∨ j = 12 ∨ j = 13 by omega) with rfl | rfl | rfl | rfl | rfl | rfl | rfl | rfl | rfl | rfl | rfl | rfl | rfl | rfl <;> rfl) (Nat.le_of_ble_eq_true rfl) (Nat.le_of_ble_eq_true rfl) dX11_init_5 (fun q1 => ?_)
  replace C := C.more (cells' := 1) (slots' := 14) (Nat.le_of_ble_eq_true rfl) (Nat.le_of_ble_eq_true rfl)
  refine wn_dup C dX11_init_8 rfl ?_
  refine wn_callN C N (As := []) (rest := [.ref q1, .ref h0]) (wr := [(h0, .inr (10, [.null, .null, .null, .null, .null, .null, .int 0, .int 0]))]) (k_X2 l K q1) [1] [0] rfl rfl (by decide) (by decide) (by decide) gw_37 (by decide +kernel) gw_36 gw_2 ⟨by decide, by decide, by decide +kernel⟩ rfl rfl rfl rfl ⟨by decide, by decide⟩ rfl (Nat.le_of_ble_eq_true rfl) dX11_init_9 ⟨(Nat.le_of_ble_eq_true rfl), (Nat.le_of_ble_eq_true rfl)⟩ (fun w1 hw1 => ?_)
  obtain ⟨q2, q3, q4, q5, q6, q7, q8, q9, q10, q11, q12, q13, q14, rfl⟩ := hw1
  replace C := C.more (cells' := 14) (slots' := 3495) (Nat.le_of_ble_eq_true rfl) (Nat.le_of_ble_eq_true rfl)
  refine wn_putR C hin (w' := [(h0, .inr (10, [.ref q1, .null, .null, .null, .null, .null, .int 0, .int 0])), (q1, .inr (2, [.ref q2, .ref q5, .ref q6, .ref q7, .ref q8, .ref q9, .ref q10, .int 0, .int 0, .ref q11, .ref q12, .int 0, .ref q13, .ref q14])), (q2, .inr (3, [.int 0, .int 0, .int 0, .ref q3, .ref q4])), (q3, zI K 1152), (q4, zI K 144), (q5, zZ K 144), (q6, zI K 144), (q7, zI K 144), (q8, zI K 4), (q9, zI K 144), (q10, zI K 144), (q11, zI K 512), (q12, zI K 656), (q13, zI K 144), (q14, zZ K 144)]) 0 0 rfl rfl (by decide) okX11 gw_458 rfl rfl rfl rfl rfl (Nat.le_of_ble_eq_true rfl) rfl dX11_init_12 ?_
  refine wn_aload_n C 0 rfl dX11_init_15 rfl ?_
  refine wn_new C (ci := 1) (fs := [.null, .null, .null, .null, .null, .null, .null, .null, .int 0, .int 0]) tyX1_ok okX1 (gt_1 149 (by decide +kernel) rfl) (gt_1 150 (by decide +kernel) rfl) gw_4 rfl (fun j hj => by rcases (show j = 0 ∨ j = 1 ∨ j = 2 ∨ j = 3 ∨ j = 4 ∨ j = 5 ∨ j = 6 ∨ j = 7 ∨ j = 8 ∨ j = 9 by omega) with rfl | rfl | rfl | rfl | rfl | rfl | rfl | rfl | rfl | rfl <;> rfl) (Nat.le_of_ble_eq_true rfl) (Nat.le_of_ble_eq_true rfl) dX11_init_16 (fun q15 => ?_)
  replace C := C.more (cells' := 15) (slots' := 3505) (Nat.le_of_ble_eq_true rfl) (Nat.le_of_ble_eq_true rfl)
  refine wn_dup C dX11_init_19 rfl ?_
  refine wn_aload_n C 0 rfl dX11_init_20 rfl ?_
  refine wn_getR C 0 0 rfl rfl (by decide) okX11 gw_458 rfl dX11_init_21 ?_
  refine wn_call C N (As := [.ref q1]) (rest := [.ref q15, .ref h0]) (wr := [(h0, .inr (10, [.ref q1, .null, .null, .null, .null, .null, .int 0, .int 0])), (q2, .inr (3, [.int 0, .int 0, .int 0, .ref q3, .ref q4])), (q3, zI K 1152), (q4, zI K 144), (q5, zZ K 144), (q6, zI K 144), (q7, zI K 144), (q8, zI K 4), (q9, zI K 144), (q10, zI K 144), (q11, zI K 512), (q12, zI K 656), (q13, zI K 144), (q14, zZ K 144)]) (k_X1 l K q15 q1 ([.ref q2, .ref q5, .ref q6, .ref q7, .ref q8, .ref q9, .ref q10, .int 0, .int 0, .ref q11, .ref q12, .int 0, .ref q13, .ref q14]) q2 rfl) [15, 1] [0, 2, 3, 4, 5, 6, 7, 8, 9, 10, 11, 12, 13, 14] rfl rfl (by decide) (by decide) (by decide) gw_153 gw_151 gw_152 gw_4 ⟨by decide, by decide, by decide +kernel⟩ rfl rfl rfl rfl ⟨by decide, by decide⟩ rfl (Nat.le_of_ble_eq_true rfl) dX11_init_24 ⟨(Nat.le_of_ble_eq_true rfl), (Nat.le_of_ble_eq_true rfl)⟩ (fun w1 hw1 => ?_)
  obtain ⟨q16, q17, q18, q19, q20, q21, rfl⟩ := hw1
  replace C := C.more (cells' := 21) (slots' := 4370) (Nat.le_of_ble_eq_true rfl) (Nat.le_of_ble_eq_true rfl)
  refine wn_putR C hin (w' := [(h0, .inr (10, [.ref q1, .ref q15, .null, .null, .null, .null, .int 0, .int 0])), (q2, .inr (3, [.int 0, .int 0, .int 0, .ref q3, .ref q4])), (q3, zI K 1152), (q4, zI K 144), (q5, zZ K 144), (q6, zI K 144), (q7, zI K 144), (q8, zI K 4), (q9, zI K 144), (q10, zI K 144), (q11, zI K 512), (q12, zI K 656), (q13, zI K 144), (q14, zZ K 144), (q15, .inr (1, [.ref q1, .ref q2, .ref q16, .ref q17, .ref q18, .ref q19, .ref q20, .ref q21, .int 0, .int 0])), (q1, .inr (2, [.ref q2, .ref q5, .ref q6, .ref q7, .ref q8, .ref q9, .ref q10, .int 0, .int 0, .ref q11, .ref q12, .int 0, .ref q13, .ref q14])), (q16, zZ K 144), (q17, zI K 144), (q18, zI K 144), (q19, zI K 144), (q20, zI K 145), (q21, zI K 144)]) 0 1 rfl rfl (by decide) okX11 gw_459 rfl rfl rfl rfl rfl (Nat.le_of_ble_eq_true rfl) rfl dX11_init_27 ?_
  refine wn_new C (ci := 9) (fs := [.null, .null, .null, .null, .null, .null, .null, .null, .null, .null, .null, .null, .null, .null, .int 0, .int 0, .int 0]) tyX9_ok okX9 (gt_1 202 (by decide +kernel) rfl) (gt_1 203 (by decide +kernel) rfl) gw_5 rfl (fun j hj => by rcases (show j = 0 ∨ j = 1 ∨ j = 2 ∨ j = 3 ∨ j = 4 ∨ j = 5 ∨ j = 6 ∨ j = 7 ∨ j = 8 ∨ j = 9 ∨ j = 10 ∨ j = 11 ∨ j = 12 ∨ j = 13 ∨ j = 14 ∨ j = 15 ∨ j = 16 by omega) with rfl | rfl | rfl | rfl | rfl | rfl | rfl | rfl | rfl | rfl | rfl | rfl | rfl | rfl | rfl | rfl | rfl <;> rfl) (Nat.le_of_ble_eq_true rfl) (Nat.le_of_ble_eq_true rfl) dX11_init_30 (fun q22 => ?_)
  replace C := C.more (cells' := 22) (slots' := 4387) (Nat.le_of_ble_eq_true rfl) (Nat.le_of_ble_eq_true rfl)
  refine wn_dup C dX11_init_33 rfl ?_
  refine wn_aload_n C 0 rfl dX11_init_34 rfl ?_
  refine wn_getR C 0 1 rfl rfl (by decide) okX11 gw_459 rfl dX11_init_35 ?_
  refine wn_call C N (As := [.ref q15]) (rest := [.ref q22]) (wr := [(h0, .inr (10, [.ref q1, .ref q15, .null, .null, .null, .null, .int 0, .int 0])), (q2, .inr (3, [.int 0, .int 0, .int 0, .ref q3, .ref q4])), (q3, zI K 1152), (q4, zI K 144), (q5, zZ K 144), (q6, zI K 144), (q7, zI K 144), (q8, zI K 4), (q9, zI K 144), (q10, zI K 144), (q11, zI K 512), (q12, zI K 656), (q13, zI K 144), (q14, zZ K 144), (q1, .inr (2, [.ref q2, .ref q5, .ref q6, .ref q7, .ref q8, .ref q9, .ref q10, .int 0, .int 0, .ref q11, .ref q12, .int 0, .ref q13, .ref q14])), (q16, zZ K 144), (q17, zI K 144), (q18, zI K 144), (q19, zI K 144), (q20, zI K 145), (q21, zI K 144)]) (k_X9 l K q22 q15 ([.ref q1, .ref q2, .ref q16, .ref q17, .ref q18, .ref q19, .ref q20, .ref q21, .int 0, .int 0]) q2 rfl) [22, 14] [0, 1, 2, 3, 4, 5, 6, 7, 8, 9, 10, 11, 12, 13, 15, 16, 17, 18, 19, 20, 21] rfl rfl (by decide) (by decide) (by decide) gw_206 gw_204 gw_205 gw_5 ⟨by decide, by decide, by decide +kernel⟩ rfl rfl rfl rfl ⟨by decide, by decide⟩ rfl (Nat.le_of_ble_eq_true rfl) dX11_init_38 ⟨(Nat.le_of_ble_eq_true rfl), (Nat.le_of_ble_eq_true rfl)⟩ (fun w1 hw1 => ?_)
  obtain ⟨q23, q24, q25, q26, q27, q28, q29, q30, q31, q32, q33, q34, rfl⟩ := hw1
  replace C := C.more (cells' := 34) (slots' := 5486) (Nat.le_of_ble_eq_true rfl) (Nat.le_of_ble_eq_true rfl)
  refine wn_astore_n C dX11_init_41 rfl (by decide) rfl ?_
  refine wn_aload_n C 1 rfl dX11_init_42 rfl ?_
  refine wn_new C (ci := 6) (fs := [.null, .null, .null, .null, .null]) tyX6_ok okX6 (gt_2 25 (by decide +kernel) rfl) (gt_2 26 (by decide +kernel) rfl) gw_6 rfl (fun j hj => by rcases (show j = 0 ∨ j = 1 ∨ j = 2 ∨ j = 3 ∨ j = 4 by omega) with rfl | rfl | rfl | rfl | rfl <;> rfl) (Nat.le_of_ble_eq_true rfl) (Nat.le_of_ble_eq_true rfl) dX11_init_43 (fun q35 => ?_)
  replace C := C.more (cells' := 35) (slots' := 5491) (Nat.le_of_ble_eq_true rfl) (Nat.le_of_ble_eq_true rfl)
  refine wn_dup C dX11_init_46 rfl ?_
  refine wn_aload_n C 1 rfl dX11_init_47 rfl ?_
  refine wn_getR C 0 1 rfl rfl (by decide) okX11 gw_459 rfl dX11_init_48 ?_
  refine wn_aload_n C 0 rfl dX11_init_51 rfl ?_
  refine wn_call C N (As := [.ref q15, .ref q22]) (rest := [.ref q35, .ref h0]) (wr := [(h0, .inr (10, [.ref q1, .ref q15, .null, .null, .null, .null, .int 0, .int 0])), (q2, .inr (3, [.int 0, .int 0, .int 0, .ref q3, .ref q4])), (q3, zI K 1152), (q4, zI K 144), (q5, zZ K 144), (q6, zI K 144), (q7, zI K 144), (q8, zI K 4), (q9, zI K 144), (q10, zI K 144), (q11, zI K 512), (q12, zI K 656), (q13, zI K 144), (q14, zZ K 144), (q1, .inr (2, [.ref q2, .ref q5, .ref q6, .ref q7, .ref q8, .ref q9, .ref q10, .int 0, .int 0, .ref q11, .ref q12, .int 0, .ref q13, .ref q14])), (q16, zZ K 144), (q17, zI K 144), (q18, zI K 144), (q19, zI K 144), (q20, zI K 145), (q21, zI K 144), (q22, .inr (9, [.ref q23, .ref q24, .ref q25, .ref q26, .ref q27, .ref q15, .ref q2, .ref q28, .ref q29, .ref q30, .ref q31, .ref q32, .ref q33, .ref q34, .int 0, .int 0, .int 0])), (q23, zI K 144), (q24, zI K 144), (q25, zI K 144), (q26, zI K 288), (q27, zI K 17), (q28, zI K 144), (q29, zI K 17), (q30, zI K 136), (q31, zI K 17), (q32, zI K 16), (q33, zI K 16), (q34, zI K 16)]) (k_X6 l K q35 q15 ([.ref q1, .ref q2, .ref q16, .ref q17, .ref q18, .ref q19, .ref q20, .ref q21, .int 0, .int 0]) q1 q22 rfl) [35, 22] [0, 1, 2, 3, 4, 5, 6, 7, 8, 9, 10, 11, 12, 13, 14, 15, 16, 17, 18, 19, 20, 21, 23, 24, 25, 26, 27, 28, 29, 30, 31, 32, 33, 34] rfl rfl (by decide) (by decide) (by decide) gw_269 gw_267 gw_268 gw_6 ⟨by decide, by decide, by decide +kernel⟩ rfl rfl rfl rfl ⟨by decide, by decide⟩ rfl (Nat.le_of_ble_eq_true rfl) dX11_init_52 ⟨(Nat.le_of_ble_eq_true rfl), (Nat.le_of_ble_eq_true rfl)⟩ (fun w1 hw1 => ?_)
  obtain ⟨q36, q37, rfl⟩ := hw1
  replace C := C.more (cells' := 37) (slots' := 5497) (Nat.le_of_ble_eq_true rfl) (Nat.le_of_ble_eq_true rfl)
  refine wn_putR C hin (w' := [(h0, .inr (10, [.ref q1, .ref q15, .ref q35, .null, .null, .null, .int 0, .int 0])), (q2, .inr (3, [.int 0, .int 0, .int 0, .ref q3, .ref q4])), (q3, zI K 1152), (q4, zI K 144), (q5, zZ K 144), (q6, zI K 144), (q7, zI K 144), (q8, zI K 4), (q9, zI K 144), (q10, zI K 144), (q11, zI K 512), (q12, zI K 656), (q13, zI K 144), (q14, zZ K 144), (q1, .inr (2, [.ref q2, .ref q5, .ref q6, .ref q7, .ref q8, .ref q9, .ref q10, .int 0, .int 0, .ref q11, .ref q12, .int 0, .ref q13, .ref q14])), (q16, zZ K 144), (q17, zI K 144), (q18, zI K 144), (q19, zI K 144), (q20, zI K 145), (q21, zI K 144), (q22, .inr (9, [.ref q23, .ref q24, .ref q25, .ref q26, .ref q27, .ref q15, .ref q2, .ref q28, .ref q29, .ref q30, .ref q31, .ref q32, .ref q33, .ref q34, .int 0, .int 0, .int 0])), (q23, zI K 144), (q24, zI K 144), (q25, zI K 144), (q26, zI K 288), (q27, zI K 17), (q28, zI K 144), (q29, zI K 17), (q30, zI K 136), (q31, zI K 17), (q32, zI K 16), (q33, zI K 16), (q34, zI K 16), (q35, .inr (6, [.ref q15, .ref q22, .ref q1, .ref q36, .ref q37])), (q15, .inr (1, [.ref q1, .ref q2, .ref q16, .ref q17, .ref q18, .ref q19, .ref q20, .ref q21, .int 0, .int 0])), (q36, zJ K 3), (q37, zJ K 3)]) 0 2 rfl rfl (by decide) okX11 gw_460 rfl rfl rfl rfl rfl (Nat.le_of_ble_eq_true rfl) rfl dX11_init_55 ?_
  refine wn_new C (ci := 7) (fs := [.null, .null, .null, .null, .null, .null, .null, .null, .int 0, .null, .null, .int 0]) tyX7_ok okX7 (gt_2 49 (by decide +kernel) rfl) (gt_2 50 (by decide +kernel) rfl) gw_7 rfl (fun j hj => by rcases (show j = 0 ∨ j = 1 ∨ j = 2 ∨ j = 3 ∨ j = 4 ∨ j = 5 ∨ j = 6 ∨ j = 7 ∨ j = 8 ∨ j = 9 ∨ j = 10 ∨ j = 11 by omega) with rfl | rfl | rfl | rfl | rfl | rfl | rfl | rfl | rfl | rfl | rfl | rfl <;> rfl) (Nat.le_of_ble_eq_true rfl) (Nat.le_of_ble_eq_true rfl) dX11_init_58 (fun q38 => ?_)
  replace C := C.more (cells' := 38) (slots' := 5509) (Nat.le_of_ble_eq_true rfl) (Nat.le_of_ble_eq_true rfl)
  refine wn_dup C dX11_init_61 rfl ?_
  refine wn_aload_n C 1 rfl dX11_init_62 rfl ?_
  refine wn_getR C 0 0 rfl rfl (by decide) okX11 gw_458 rfl dX11_init_63 ?_
  refine wn_aload_n C 1 rfl dX11_init_66 rfl ?_
  refine wn_getR C 0 2 rfl rfl (by decide) okX11 gw_460 rfl dX11_init_67 ?_
  refine wn_call C N (As := [.ref q1, .ref q35]) (rest := [.ref q38]) (wr := [(h0, .inr (10, [.ref q1, .ref q15, .ref q35, .null, .null, .null, .int 0, .int 0])), (q2, .inr (3, [.int 0, .int 0, .int 0, .ref q3, .ref q4])), (q3, zI K 1152), (q4, zI K 144), (q5, zZ K 144), (q6, zI K 144), (q7, zI K 144), (q8, zI K 4), (q9, zI K 144), (q10, zI K 144), (q11, zI K 512), (q12, zI K 656), (q13, zI K 144), (q14, zZ K 144), (q16, zZ K 144), (q17, zI K 144), (q18, zI K 144), (q19, zI K 144), (q20, zI K 145), (q21, zI K 144), (q22, .inr (9, [.ref q23, .ref q24, .ref q25, .ref q26, .ref q27, .ref q15, .ref q2, .ref q28, .ref q29, .ref q30, .ref q31, .ref q32, .ref q33, .ref q34, .int 0, .int 0, .int 0])), (q23, zI K 144), (q24, zI K 144), (q25, zI K 144), (q26, zI K 288), (q27, zI K 17), (q28, zI K 144), (q29, zI K 17), (q30, zI K 136), (q31, zI K 17), (q32, zI K 16), (q33, zI K 16), (q34, zI K 16), (q35, .inr (6, [.ref q15, .ref q22, .ref q1, .ref q36, .ref q37])), (q15, .inr (1, [.ref q1, .ref q2, .ref q16, .ref q17, .ref q18, .ref q19, .ref q20, .ref q21, .int 0, .int 0])), (q36, zJ K 3), (q37, zJ K 3)]) (k_X7 l K q38 q1 ([.ref q2, .ref q5, .ref q6, .ref q7, .ref q8, .ref q9, .ref q10, .int 0, .int 0, .ref q11, .ref q12, .int 0, .ref q13, .ref q14]) q2 q35 rfl) [38, 14] [0, 1, 2, 3, 4, 5, 6, 7, 8, 9, 10, 11, 12, 13, 15, 16, 17, 18, 19, 20, 21, 22, 23, 24, 25, 26, 27, 28, 29, 30, 31, 32, 33, 34, 35, 36, 37] rfl rfl (by decide) (by decide) (by decide) gw_293 gw_291 gw_292 gw_7 ⟨by decide, by decide, by decide +kernel⟩ rfl rfl rfl rfl ⟨by decide, by decide⟩ rfl (Nat.le_of_ble_eq_true rfl) dX11_init_70 ⟨(Nat.le_of_ble_eq_true rfl), (Nat.le_of_ble_eq_true rfl)⟩ (fun w1 hw1 => ?_)
  obtain ⟨q39, q40, q41, q42, q43, q44, q45, rfl⟩ := hw1
  replace C := C.more (cells' := 45) (slots' := 6517) (Nat.le_of_ble_eq_true rfl) (Nat.le_of_ble_eq_true rfl)
  refine wn_astore_n C dX11_init_73 rfl (by decide) rfl ?_
  refine wn_aload_n C 2 rfl dX11_init_74 rfl ?_
  refine wn_new C (ci := 0) (fs := [.int 0, .int 0, .int 0, .int 0, .null, .int 0, .null, .null, .null, .null]) tyX0_ok okX0 (gt_2 95 (by decide +kernel) rfl) (gt_2 96 (by decide +kernel) rfl) gw_8 rfl (fun j hj => by rcases (show j = 0 ∨ j = 1 ∨ j = 2 ∨ j = 3 ∨ j = 4 ∨ j = 5 ∨ j = 6 ∨ j = 7 ∨ j = 8 ∨ j = 9 by omega) with rfl | rfl | rfl | rfl | rfl | rfl | rfl | rfl | rfl | rfl <;> rfl) (Nat.le_of_ble_eq_true rfl) (Nat.le_of_ble_eq_true rfl) dX11_init_75 (fun q46 => ?_)
  replace C := C.more (cells' := 46) (slots' := 6527) (Nat.le_of_ble_eq_true rfl) (Nat.le_of_ble_eq_true rfl)
  refine wn_dup C dX11_init_78 rfl ?_
  refine wn_aload_n C 0 rfl dX11_init_79 rfl ?_
  refine wn_aload_n C 2 rfl dX11_init_80 rfl ?_
  refine wn_getR C 0 2 rfl rfl (by decide) okX11 gw_460 rfl dX11_init_81 ?_
  refine wn_call C N (As := [.ref q38, .ref q35]) (rest := [.ref q46, .ref h0]) (wr := [(h0, .inr (10, [.ref q1, .ref q15, .ref q35, .null, .null, .null, .int 0, .int 0])), (q2, .inr (3, [.int 0, .int 0, .int 0, .ref q3, .ref q4])), (q3, zI K 1152), (q4, zI K 144), (q5, zZ K 144), (q6, zI K 144), (q7, zI K 144), (q8, zI K 4), (q9, zI K 144), (q10, zI K 144), (q11, zI K 512), (q12, zI K 656), (q13, zI K 144), (q14, zZ K 144), (q16, zZ K 144), (q17, zI K 144), (q18, zI K 144), (q19, zI K 144), (q20, zI K 145), (q21, zI K 144), (q22, .inr (9, [.ref q23, .ref q24, .ref q25, .ref q26, .ref q27, .ref q15, .ref q2, .ref q28, .ref q29, .ref q30, .ref q31, .ref q32, .ref q33, .ref q34, .int 0, .int 0, .int 0])), (q23, zI K 144), (q24, zI K 144), (q25, zI K 144), (q26, zI K 288), (q27, zI K 17), (q28, zI K 144), (q29, zI K 17), (q30, zI K 136), (q31, zI K 17), (q32, zI K 16), (q33, zI K 16), (q34, zI K 16), (q15, .inr (1, [.ref q1, .ref q2, .ref q16, .ref q17, .ref q18, .ref q19, .ref q20, .ref q21, .int 0, .int 0])), (q36, zJ K 3), (q37, zJ K 3), (q1, .inr (2, [.ref q2, .ref q5, .ref q6, .ref q7, .ref q8, .ref q9, .ref q10, .int 0, .int 0, .ref q11, .ref q12, .int 0, .ref q13, .ref q14])), (q39, zI K 144), (q40, zI K 144), (q41, zI K 144), (q42, zI K 144), (q43, zZ K 144), (q44, zI K 144), (q45, zI K 144)]) (k_X0 l K q46 q38 ([.ref q39, .ref q1, .ref q2, .ref q35, .ref q40, .ref q41, .ref q42, .ref q43, .int 0, .ref q44, .ref q45, .int 0]) q1 q35 ([.ref q15, .ref q22, .ref q1, .ref q36, .ref q37]) q15 rfl rfl) [46, 37, 33] [0, 1, 2, 3, 4, 5, 6, 7, 8, 9, 10, 11, 12, 13, 14, 15, 16, 17, 18, 19, 20, 21, 22, 23, 24, 25, 26, 27, 28, 29, 30, 31, 32, 34, 35, 36, 38, 39, 40, 41, 42, 43, 44, 45] rfl rfl (by decide) (by decide) (by decide) gw_339 gw_337 gw_338 gw_8 ⟨by decide, by decide, by decide +kernel⟩ rfl rfl rfl rfl ⟨by decide, by decide⟩ rfl (Nat.le_of_ble_eq_true rfl) dX11_init_84 ⟨(Nat.le_of_ble_eq_true rfl), (Nat.le_of_ble_eq_true rfl)⟩ (fun w1 hw1 => ?_)
  obtain ⟨q47, rfl⟩ := hw1
  replace C := C.more (cells' := 47) (slots' := 6671) (Nat.le_of_ble_eq_true rfl) (Nat.le_of_ble_eq_true rfl)
  refine wn_putR C hin (w' := [(h0, .inr (10, [.ref q1, .ref q15, .ref q35, .ref q46, .null, .null, .int 0, .int 0])), (q2, .inr (3, [.int 0, .int 0, .int 0, .ref q3, .ref q4])), (q3, zI K 1152), (q4, zI K 144), (q5, zZ K 144), (q6, zI K 144), (q7, zI K 144), (q8, zI K 4), (q9, zI K 144), (q10, zI K 144), (q11, zI K 512), (q12, zI K 656), (q13, zI K 144), (q14, zZ K 144), (q16, zZ K 144), (q17, zI K 144), (q18, zI K 144), (q19, zI K 144), (q20, zI K 145), (q21, zI K 144), (q22, .inr (9, [.ref q23, .ref q24, .ref q25, .ref q26, .ref q27, .ref q15, .ref q2, .ref q28, .ref q29, .ref q30, .ref q31, .ref q32, .ref q33, .ref q34, .int 0, .int 0, .int 0])), (q23, zI K 144), (q24, zI K 144), (q25, zI K 144), (q26, zI K 288), (q27, zI K 17), (q28, zI K 144), (q29, zI K 17), (q30, zI K 136), (q31, zI K 17), (q32, zI K 16), (q33, zI K 16), (q34, zI K 16), (q15, .inr (1, [.ref q1, .ref q2, .ref q16, .ref q17, .ref q18, .ref q19, .ref q20, .ref q21, .int 0, .int 0])), (q36, zJ K 3), (q37, zJ K 3), (q1, .inr (2, [.ref q2, .ref q5, .ref q6, .ref q7, .ref q8, .ref q9, .ref q10, .int 0, .int 0, .ref q11, .ref q12, .int 0, .ref q13, .ref q14])), (q39, zI K 144), (q40, zI K 144), (q41, zI K 144), (q42, zI K 144), (q43, zZ K 144), (q44, zI K 144), (q45, zI K 144), (q46, .inr (0, [.int 0, .int 0, .int 0, .int 0, .ref q47, .int 0, .ref q38, .ref q35, .ref q1, .ref q15])), (q38, .inr (7, [.ref q39, .ref q1, .ref q2, .ref q35, .ref q40, .ref q41, .ref q42, .ref q43, .int 0, .ref q44, .ref q45, .int 0])), (q35, .inr (6, [.ref q15, .ref q22, .ref q1, .ref q36, .ref q37])), (q47, zI K 144)]) 0 3 rfl rfl (by decide) okX11 gw_461 rfl rfl rfl rfl rfl (Nat.le_of_ble_eq_true rfl) rfl dX11_init_87 ?_
  refine wn_aload_n C 2 rfl dX11_init_90 rfl ?_
  refine wn_new C (ci := 5) (fs := [.null, .null, .null, .null, .null, .null, .null, .null, .null, .null, .null]) tyX5_ok okX5 (gt_2 138 (by decide +kernel) rfl) (gt_2 139 (by decide +kernel) rfl) gw_9 rfl (fun j hj => by rcases (show j = 0 ∨ j = 1 ∨ j = 2 ∨ j = 3 ∨ j = 4 ∨ j = 5 ∨ j = 6 ∨ j = 7 ∨ j = 8 ∨ j = 9 ∨ j = 10 by omega) with rfl | rfl | rfl | rfl | rfl | rfl | rfl | rfl | rfl | rfl | rfl <;> rfl) (Nat.le_of_ble_eq_true rfl) (Nat.le_of_ble_eq_true rfl) dX11_init_91 (fun q48 => ?_)
  replace C := C.more (cells' := 48) (slots' := 6682) (Nat.le_of_ble_eq_true rfl) (Nat.le_of_ble_eq_true rfl)
  refine wn_dup C dX11_init_94 rfl ?_
  refine wn_aload_n C 2 rfl dX11_init_95 rfl ?_
  refine wn_getR C 0 1 rfl rfl (by decide) okX11 gw_459 rfl dX11_init_96 ?_
  refine wn_aload_n C 1 rfl dX11_init_99 rfl ?_
  refine wn_call C N (As := [.ref q15, .ref q22]) (rest := [.ref q48, .ref h0]) (wr := [(h0, .inr (10, [.ref q1, .ref q15, .ref q35, .ref q46, .null, .null, .int 0, .int 0])), (q2, .inr (3, [.int 0, .int 0, .int 0, .ref q3, .ref q4])), (q3, zI K 1152), (q4, zI K 144), (q5, zZ K 144), (q6, zI K 144), (q7, zI K 144), (q8, zI K 4), (q9, zI K 144), (q10, zI K 144), (q11, zI K 512), (q12, zI K 656), (q13, zI K 144), (q14, zZ K 144), (q16, zZ K 144), (q17, zI K 144), (q18, zI K 144), (q19, zI K 144), (q20, zI K 145), (q21, zI K 144), (q22, .inr (9, [.ref q23, .ref q24, .ref q25, .ref q26, .ref q27, .ref q15, .ref q2, .ref q28, .ref q29, .ref q30, .ref q31, .ref q32, .ref q33, .ref q34, .int 0, .int 0, .int 0])), (q23, zI K 144), (q24, zI K 144), (q25, zI K 144), (q26, zI K 288), (q27, zI K 17), (q28, zI K 144), (q29, zI K 17), (q30, zI K 136), (q31, zI K 17), (q32, zI K 16), (q33, zI K 16), (q34, zI K 16), (q36, zJ K 3), (q37, zJ K 3), (q1, .inr (2, [.ref q2, .ref q5, .ref q6, .ref q7, .ref q8, .ref q9, .ref q10, .int 0, .int 0, .ref q11, .ref q12, .int 0, .ref q13, .ref q14])), (q39, zI K 144), (q40, zI K 144), (q41, zI K 144), (q42, zI K 144), (q43, zZ K 144), (q44, zI K 144), (q45, zI K 144), (q46, .inr (0, [.int 0, .int 0, .int 0, .int 0, .ref q47, .int 0, .ref q38, .ref q35, .ref q1, .ref q15])), (q38, .inr (7, [.ref q39, .ref q1, .ref q2, .ref q35, .ref q40, .ref q41, .ref q42, .ref q43, .int 0, .ref q44, .ref q45, .int 0])), (q35, .inr (6, [.ref q15, .ref q22, .ref q1, .ref q36, .ref q37])), (q47, zI K 144)]) (k_X5 l K q48 q15 ([.ref q1, .ref q2, .ref q16, .ref q17, .ref q18, .ref q19, .ref q20, .ref q21, .int 0, .int 0]) q1 q22 rfl) [48, 33] [0, 1, 2, 3, 4, 5, 6, 7, 8, 9, 10, 11, 12, 13, 14, 15, 16, 17, 18, 19, 20, 21, 22, 23, 24, 25, 26, 27, 28, 29, 30, 31, 32, 34, 35, 36, 37, 38, 39, 40, 41, 42, 43, 44, 45, 46, 47] rfl rfl (by decide) (by decide) (by decide) gw_382 gw_380 gw_381 gw_9 ⟨by decide, by decide, by decide +kernel⟩ rfl rfl rfl rfl ⟨by decide, by decide⟩ rfl (Nat.le_of_ble_eq_true rfl) dX11_init_100 ⟨(Nat.le_of_ble_eq_true rfl), (Nat.le_of_ble_eq_true rfl)⟩ (fun w1 hw1 => ?_)
  obtain ⟨q49, q50, q51, q52, q53, q54, q55, q56, q57, q58, q59, q60, rfl⟩ := hw1
  replace C := C.more (cells' := 60) (slots' := 8478) (Nat.le_of_ble_eq_true rfl) (Nat.le_of_ble_eq_true rfl)
  refine wn_putR C hin (w' := [(h0, .inr (10, [.ref q1, .ref q15, .ref q35, .ref q46, .ref q48, .null, .int 0, .int 0])), (q2, .inr (3, [.int 0, .int 0, .int 0, .ref q3, .ref q4])), (q3, zI K 1152), (q4, zI K 144), (q5, zZ K 144), (q6, zI K 144), (q7, zI K 144), (q8, zI K 4), (q9, zI K 144), (q10, zI K 144), (q11, zI K 512), (q12, zI K 656), (q13, zI K 144), (q14, zZ K 144), (q16, zZ K 144), (q17, zI K 144), (q18, zI K 144), (q19, zI K 144), (q20, zI K 145), (q21, zI K 144), (q22, .inr (9, [.ref q23, .ref q24, .ref q25, .ref q26, .ref q27, .ref q15, .ref q2, .ref q28, .ref q29, .ref q30, .ref q31, .ref q32, .ref q33, .ref q34, .int 0, .int 0, .int 0])), (q23, zI K 144), (q24, zI K 144), (q25, zI K 144), (q26, zI K 288), (q27, zI K 17), (q28, zI K 144), (q29, zI K 17), (q30, zI K 136), (q31, zI K 17), (q32, zI K 16), (q33, zI K 16), (q34, zI K 16), (q36, zJ K 3), (q37, zJ K 3), (q1, .inr (2, [.ref q2, .ref q5, .ref q6, .ref q7, .ref q8, .ref q9, .ref q10, .int 0, .int 0, .ref q11, .ref q12, .int 0, .ref q13, .ref q14])), (q39, zI K 144), (q40, zI K 144), (q41, zI K 144), (q42, zI K 144), (q43, zZ K 144), (q44, zI K 144), (q45, zI K 144), (q46, .inr (0, [.int 0, .int 0, .int 0, .int 0, .ref q47, .int 0, .ref q38, .ref q35, .ref q1, .ref q15])), (q38, .inr (7, [.ref q39, .ref q1, .ref q2, .ref q35, .ref q40, .ref q41, .ref q42, .ref q43, .int 0, .ref q44, .ref q45, .int 0])), (q35, .inr (6, [.ref q15, .ref q22, .ref q1, .ref q36, .ref q37])), (q47, zI K 144), (q48, .inr (5, [.ref q49, .ref q50, .ref q1, .ref q15, .ref q22, .ref q51, .ref q54, .ref q57, .ref q58, .ref q59, .ref q60])), (q15, .inr (1, [.ref q1, .ref q2, .ref q16, .ref q17, .ref q18, .ref q19, .ref q20, .ref q21, .int 0, .int 0])), (q49, zJ K 6), (q50, zJ K 6), (q51, .inr (8, [.ref q52, .int 0, .int 0, .ref q53])), (q52, zJ K 870), (q53, zJ K 6), (q54, .inr (8, [.ref q55, .int 0, .int 0, .ref q56])), (q55, zJ K 870), (q56, zJ K 6), (q57, zJ K 6), (q58, zJ K 6), (q59, zJ K 6), (q60, zJ K 6)]) 0 4 rfl rfl (by decide) okX11 gw_462 rfl rfl rfl rfl rfl (Nat.le_of_ble_eq_true rfl) rfl dX11_init_103 ?_
  refine wn_aload_n C 2 rfl dX11_init_106 rfl ?_
  refine wn_new C (ci := 4) (fs := [.null, .null, .null]) tyX4_ok okX4 (gt_2 202 (by decide +kernel) rfl) (gt_2 203 (by decide +kernel) rfl) gw_11 rfl (fun j hj => by rcases (show j = 0 ∨ j = 1 ∨ j = 2 by omega) with rfl | rfl | rfl <;> rfl) (Nat.le_of_ble_eq_true rfl) (Nat.le_of_ble_eq_true rfl) dX11_init_107 (fun q61 => ?_)
  replace C := C.more (cells' := 61) (slots' := 8481) (Nat.le_of_ble_eq_true rfl) (Nat.le_of_ble_eq_true rfl)
  refine wn_dup C dX11_init_110 rfl ?_
  refine wn_aload_n C 2 rfl dX11_init_111 rfl ?_
  refine wn_getR C 0 0 rfl rfl (by decide) okX11 gw_458 rfl dX11_init_112 ?_
  refine wn_aload_n C 0 rfl dX11_init_115 rfl ?_
  refine wn_call C N (As := [.ref q1, .ref q38]) (rest := [.ref q61, .ref h0]) (wr := [(h0, .inr (10, [.ref q1, .ref q15, .ref q35, .ref q46, .ref q48, .null, .int 0, .int 0])), (q2, .inr (3, [.int 0, .int 0, .int 0, .ref q3, .ref q4])), (q3, zI K 1152), (q4, zI K 144), (q5, zZ K 144), (q6, zI K 144), (q7, zI K 144), (q8, zI K 4), (q9, zI K 144), (q10, zI K 144), (q11, zI K 512), (q12, zI K 656), (q13, zI K 144), (q14, zZ K 144), (q16, zZ K 144), (q17, zI K 144), (q18, zI K 144), (q19, zI K 144), (q20, zI K 145), (q21, zI K 144), (q22, .inr (9, [.ref q23, .ref q24, .ref q25, .ref q26, .ref q27, .ref q15, .ref q2, .ref q28, .ref q29, .ref q30, .ref q31, .ref q32, .ref q33, .ref q34, .int 0, .int 0, .int 0])), (q23, zI K 144), (q24, zI K 144), (q25, zI K 144), (q26, zI K 288), (q27, zI K 17), (q28, zI K 144), (q29, zI K 17), (q30, zI K 136), (q31, zI K 17), (q32, zI K 16), (q33, zI K 16), (q34, zI K 16), (q36, zJ K 3), (q37, zJ K 3), (q39, zI K 144), (q40, zI K 144), (q41, zI K 144), (q42, zI K 144), (q43, zZ K 144), (q44, zI K 144), (q45, zI K 144), (q46, .inr (0, [.int 0, .int 0, .int 0, .int 0, .ref q47, .int 0, .ref q38, .ref q35, .ref q1, .ref q15])), (q38, .inr (7, [.ref q39, .ref q1, .ref q2, .ref q35, .ref q40, .ref q41, .ref q42, .ref q43, .int 0, .ref q44, .ref q45, .int 0])), (q35, .inr (6, [.ref q15, .ref q22, .ref q1, .ref q36, .ref q37])), (q47, zI K 144), (q48, .inr (5, [.ref q49, .ref q50, .ref q1, .ref q15, .ref q22, .ref q51, .ref q54, .ref q57, .ref q58, .ref q59, .ref q60])), (q15, .inr (1, [.ref q1, .ref q2, .ref q16, .ref q17, .ref q18, .ref q19, .ref q20, .ref q21, .int 0, .int 0])), (q49, zJ K 6), (q50, zJ K 6), (q51, .inr (8, [.ref q52, .int 0, .int 0, .ref q53])), (q52, zJ K 870), (q53, zJ K 6), (q54, .inr (8, [.ref q55, .int 0, .int 0, .ref q56])), (q55, zJ K 870), (q56, zJ K 6), (q57, zJ K 6), (q58, zJ K 6), (q59, zJ K 6), (q60, zJ K 6)]) (k_X4 l K q61 q1 ([.ref q2, .ref q5, .ref q6, .ref q7, .ref q8, .ref q9, .ref q10, .int 0, .int 0, .ref q11, .ref q12, .int 0, .ref q13, .ref q14]) q2 q38 rfl) [61, 35] [0, 1, 2, 3, 4, 5, 6, 7, 8, 9, 10, 11, 12, 13, 14, 15, 16, 17, 18, 19, 20, 21, 22, 23, 24, 25, 26, 27, 28, 29, 30, 31, 32, 33, 34, 36, 37, 38, 39, 40, 41, 42, 43, 44, 45, 46, 47, 48, 49, 50, 51, 52, 53, 54, 55, 56, 57, 58, 59, 60] rfl rfl (by decide) (by decide) (by decide) gw_446 gw_444 gw_445 gw_11 ⟨by decide, by decide, by decide +kernel⟩ rfl rfl rfl rfl ⟨by decide, by decide⟩ rfl (Nat.le_of_ble_eq_true rfl) dX11_init_116 ⟨(Nat.le_of_ble_eq_true rfl), (Nat.le_of_ble_eq_true rfl)⟩ (fun w1 hw1 => ?_)
  obtain ⟨rfl⟩ := hw1
  replace C := C.more (cells' := 61) (slots' := 8481) (Nat.le_of_ble_eq_true rfl) (Nat.le_of_ble_eq_true rfl)
  refine wn_putR C hin (w' := [(h0, .inr (10, [.ref q1, .ref q15, .ref q35, .ref q46, .ref q48, .ref q61, .int 0, .int 0])), (q2, .inr (3, [.int 0, .int 0, .int 0, .ref q3, .ref q4])), (q3, zI K 1152), (q4, zI K 144), (q5, zZ K 144), (q6, zI K 144), (q7, zI K 144), (q8, zI K 4), (q9, zI K 144), (q10, zI K 144), (q11, zI K 512), (q12, zI K 656), (q13, zI K 144), (q14, zZ K 144), (q16, zZ K 144), (q17, zI K 144), (q18, zI K 144), (q19, zI K 144), (q20, zI K 145), (q21, zI K 144), (q22, .inr (9, [.ref q23, .ref q24, .ref q25, .ref q26, .ref q27, .ref q15, .ref q2, .ref q28, .ref q29, .ref q30, .ref q31, .ref q32, .ref q33, .ref q34, .int 0, .int 0, .int 0])), (q23, zI K 144), (q24, zI K 144), (q25, zI K 144), (q26, zI K 288), (q27, zI K 17), (q28, zI K 144), (q29, zI K 17), (q30, zI K 136), (q31, zI K 17), (q32, zI K 16), (q33, zI K 16), (q34, zI K 16), (q36, zJ K 3), (q37, zJ K 3), (q39, zI K 144), (q40, zI K 144), (q41, zI K 144), (q42, zI K 144), (q43, zZ K 144), (q44, zI K 144), (q45, zI K 144), (q46, .inr (0, [.int 0, .int 0, .int 0, .int 0, .ref q47, .int 0, .ref q38, .ref q35, .ref q1, .ref q15])), (q38, .inr (7, [.ref q39, .ref q1, .ref q2, .ref q35, .ref q40, .ref q41, .ref q42, .ref q43, .int 0, .ref q44, .ref q45, .int 0])), (q35, .inr (6, [.ref q15, .ref q22, .ref q1, .ref q36, .ref q37])), (q47, zI K 144), (q48, .inr (5, [.ref q49, .ref q50, .ref q1, .ref q15, .ref q22, .ref q51, .ref q54, .ref q57, .ref q58, .ref q59, .ref q60])), (q15, .inr (1, [.ref q1, .ref q2, .ref q16, .ref q17, .ref q18, .ref q19, .ref q20, .ref q21, .int 0, .int 0])), (q49, zJ K 6), (q50, zJ K 6), (q51, .inr (8, [.ref q52, .int 0, .int 0, .ref q53])), (q52, zJ K 870), (q53, zJ K 6), (q54, .inr (8, [.ref q55, .int 0, .int 0, .ref q56])), (q55, zJ K 870), (q56, zJ K 6), (q57, zJ K 6), (q58, zJ K 6), (q59, zJ K 6), (q60, zJ K 6), (q61, .inr (4, [.ref q1, .ref q2, .ref q38])), (q1, .inr (2, [.ref q2, .ref q5, .ref q6, .ref q7, .ref q8, .ref q9, .ref q10, .int 0, .int 0, .ref q11, .ref q12, .int 0, .ref q13, .ref q14]))]) 0 5 rfl rfl (by decide) okX11 gw_463 rfl rfl rfl rfl rfl (Nat.le_of_ble_eq_true rfl) rfl dX11_init_119 ?_
  exact ret (Nat.le_of_ble_eq_true rfl) (Nat.le_of_ble_eq_true rfl) dX11_init_122 ⟨_, _, _, _, _, _, _, _, _, _, _, _, _, _, _, _, _, _, _, _, _, _, _, _, _, _, _, _, _, _, _, _, _, _, _, _, _, _, _, _, _, _, _, _, _, _, _, _, _, _, _, _, _, _, _, _, _, _, _, _, _, rfl⟩
