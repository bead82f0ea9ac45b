theorem ga_I : Cond.arrayClass .int ∈ GT := gt_1 81 (by decide +kernel) rfl
theorem ga_Z : Cond.arrayClass .boolean ∈ GT := gt_1 148 (by decide +kernel) rfl
theorem ga_J : Cond.arrayClass .long ∈ GT := gt_2 48 (by decide +kernel) rfl
theorem ga_oi : Cond.instanceMethod Lib.objectInit ∈ GT := gt_1 31 (by decide +kernel) rfl
theorem ga_oc : Cond.code Lib.objectInit ⟨#[0xb1]⟩ 1 none ∈ GT := gt_1 32 (by decide +kernel) rfl
theorem dX3_init_0 : decode cX3_init 0 = .ok (.aload_n 0, 1) := by decide +kernel
theorem dX3_init_1 : decode cX3_init 1 = .ok (.invokespecial 3, 3) := by decide +kernel
theorem dX3_init_4 : decode cX3_init 4 = .ok (.aload_n 0, 1) := by decide +kernel
theorem dX3_init_5 : decode cX3_init 5 = .ok (.sipush 1152, 3) := by decide +kernel
theorem dX3_init_8 : decode cX3_init 8 = .ok (.newarray .int, 2) := by decide +kernel
theorem dX3_init_10 : decode cX3_init 10 = .ok (.putfield 11, 3) := by decide +kernel
theorem dX3_init_13 : decode cX3_init 13 = .ok (.aload_n 0, 1) := by decide +kernel
theorem dX3_init_14 : decode cX3_init 14 = .ok (.sipush 144, 3) := by decide +kernel
theorem dX3_init_17 : decode cX3_init 17 = .ok (.newarray .int, 2) := by decide +kernel
theorem dX3_init_19 : decode cX3_init 19 = .ok (.putfield 15, 3) := by decide +kernel
theorem dX3_init_22 : decode cX3_init 22 = .ok (.return_, 1) := by decide +kernel
set_option maxRecDepth 100000 in
set_option maxHeartbeats 4000000 in
theorem k_X3 (l : Launch) (K : wK) (h0 : Nat)  : kV l yX3_init (Cond.code yX3_init cX3_init 1 none :: GT) ({ frames := 2, cells := 2, slots := 1296, locals := 120 } : Room) 2 1296 [.ref h0] K [(h0, .inr (3, [.int 0, .int 0, .int 0, .null, .null]))] (fun u => ∃ q1 q2 : Nat, u = [(h0, .inr (3, [.int 0, .int 0, .int 0, .ref q1, .ref q2])), (q1, zI K 1152), (q2, zI K 144)]) := by
  refine kV_of (lv0 := [(0, .ref h0)]) (by decide) (Nat.le_of_ble_eq_true rfl) rfl rfl ?_
  intro p e s m args below meth c Q A C hin N ret
  replace C : Cx p ({ frames := 2, cells := 2, slots := 1296, locals := 120 } : Room) m c 0 0 cX3_init 1 s args RX3 K A := C
  refine wn_aload_n C 0 rfl dX3_init_0 rfl ?_
  refine wn_obj C (gt_1 44 (by decide +kernel) rfl) ga_oi ga_oc dX3_init_1 (Nat.le_of_ble_eq_true rfl) (Nat.le_of_ble_eq_true rfl) ?_
  refine wn_aload_n C 0 rfl dX3_init_4 rfl ?_
  refine wn_sipush C (z := 1152) dX3_init_5 (by decide) ?_
  refine wn_newI C ga_I (inR_k 1152 rfl) rfl (Nat.le_of_ble_eq_true rfl) (Nat.le_of_ble_eq_true rfl) (Nat.le_of_ble_eq_true rfl) dX3_init_8 (fun q1 => ?_)
  replace C := C.more (cells' := 1) (slots' := 1152) (Nat.le_of_ble_eq_true rfl) (Nat.le_of_ble_eq_true rfl)
  refine wn_putR C hin (w' := [(h0, .inr (3, [.int 0, .int 0, .int 0, .ref q1, .null])), (q1, zI K 1152)]) 0 3 rfl rfl (by decide) okX3 gw_58 rfl rfl rfl rfl rfl (Nat.le_of_ble_eq_true rfl) rfl dX3_init_10 ?_
  refine wn_aload_n C 0 rfl dX3_init_13 rfl ?_
  refine wn_sipush C (z := 144) dX3_init_14 (by decide) ?_
  refine wn_newI C ga_I (inR_k 144 rfl) rfl (Nat.le_of_ble_eq_true rfl) (Nat.le_of_ble_eq_true rfl) (Nat.le_of_ble_eq_true rfl) dX3_init_17 (fun q2 => ?_)
  replace C := C.more (cells' := 2) (slots' := 1296) (Nat.le_of_ble_eq_true rfl) (Nat.le_of_ble_eq_true rfl)
  refine wn_putR C hin (w' := [(h0, .inr (3, [.int 0, .int 0, .int 0, .ref q1, .ref q2])), (q1, zI K 1152), (q2, zI K 144)]) 0 4 rfl rfl (by decide) okX3 gw_64 rfl rfl rfl rfl rfl (Nat.le_of_ble_eq_true rfl) rfl dX3_init_19 ?_
  exact ret (Nat.le_of_ble_eq_true rfl) (Nat.le_of_ble_eq_true rfl) dX3_init_22 ⟨_, _, rfl⟩
theorem dX2_init_0 : decode cX2_init 0 = .ok (.aload_n 0, 1) := by decide +kernel
theorem dX2_init_1 : decode cX2_init 1 = .ok (.invokespecial 3, 3) := by decide +kernel
theorem dX2_init_4 : decode cX2_init 4 = .ok (.aload_n 0, 1) := by decide +kernel
theorem dX2_init_5 : decode cX2_init 5 = .ok (.new 9, 3) := by decide +kernel
theorem dX2_init_8 : decode cX2_init 8 = .ok (.dup, 1) := by decide +kernel
theorem dX2_init_9 : decode cX2_init 9 = .ok (.invokespecial 11, 3) := by decide +kernel
theorem dX2_init_12 : decode cX2_init 12 = .ok (.putfield 12, 3) := by decide +kernel
theorem dX2_init_15 : decode cX2_init 15 = .ok (.aload_n 0, 1) := by decide +kernel
theorem dX2_init_16 : decode cX2_init 16 = .ok (.sipush 144, 3) := by decide +kernel
theorem dX2_init_19 : decode cX2_init 19 = .ok (.newarray .boolean, 2) := by decide +kernel
theorem dX2_init_21 : decode cX2_init 21 = .ok (.putfield 18, 3) := by decide +kernel
theorem dX2_init_24 : decode cX2_init 24 = .ok (.aload_n 0, 1) := by decide +kernel
theorem dX2_init_25 : decode cX2_init 25 = .ok (.sipush 144, 3) := by decide +kernel
theorem dX2_init_28 : decode cX2_init 28 = .ok (.newarray .int, 2) := by decide +kernel
theorem dX2_init_30 : decode cX2_init 30 = .ok (.putfield 22, 3) := by decide +kernel
theorem dX2_init_33 : decode cX2_init 33 = .ok (.aload_n 0, 1) := by decide +kernel
theorem dX2_init_34 : decode cX2_init 34 = .ok (.sipush 144, 3) := by decide +kernel
theorem dX2_init_37 : decode cX2_init 37 = .ok (.newarray .int, 2) := by decide +kernel
theorem dX2_init_39 : decode cX2_init 39 = .ok (.putfield 26, 3) := by decide +kernel
theorem dX2_init_42 : decode cX2_init 42 = .ok (.aload_n 0, 1) := by decide +kernel
theorem dX2_init_43 : decode cX2_init 43 = .ok (.iconst 4, 1) := by decide +kernel
theorem dX2_init_44 : decode cX2_init 44 = .ok (.newarray .int, 2) := by decide +kernel
theorem dX2_init_46 : decode cX2_init 46 = .ok (.putfield 29, 3) := by decide +kernel
theorem dX2_init_49 : decode cX2_init 49 = .ok (.aload_n 0, 1) := by decide +kernel
theorem dX2_init_50 : decode cX2_init 50 = .ok (.sipush 144, 3) := by decide +kernel
theorem dX2_init_53 : decode cX2_init 53 = .ok (.newarray .int, 2) := by decide +kernel
theorem dX2_init_55 : decode cX2_init 55 = .ok (.putfield 32, 3) := by decide +kernel
theorem dX2_init_58 : decode cX2_init 58 = .ok (.aload_n 0, 1) := by decide +kernel
theorem dX2_init_59 : decode cX2_init 59 = .ok (.sipush 144, 3) := by decide +kernel
theorem dX2_init_62 : decode cX2_init 62 = .ok (.newarray .int, 2) := by decide +kernel
theorem dX2_init_64 : decode cX2_init 64 = .ok (.putfield 35, 3) := by decide +kernel
theorem dX2_init_67 : decode cX2_init 67 = .ok (.aload_n 0, 1) := by decide +kernel
theorem dX2_init_68 : decode cX2_init 68 = .ok (.sipush 512, 3) := by decide +kernel
theorem dX2_init_71 : decode cX2_init 71 = .ok (.newarray .int, 2) := by decide +kernel
theorem dX2_init_73 : decode cX2_init 73 = .ok (.putfield 38, 3) := by decide +kernel
theorem dX2_init_76 : decode cX2_init 76 = .ok (.aload_n 0, 1) := by decide +kernel
theorem dX2_init_77 : decode cX2_init 77 = .ok (.sipush 656, 3) := by decide +kernel
theorem dX2_init_80 : decode cX2_init 80 = .ok (.newarray .int, 2) := by decide +kernel
theorem dX2_init_82 : decode cX2_init 82 = .ok (.putfield 41, 3) := by decide +kernel
theorem dX2_init_85 : decode cX2_init 85 = .ok (.aload_n 0, 1) := by decide +kernel
theorem dX2_init_86 : decode cX2_init 86 = .ok (.sipush 144, 3) := by decide +kernel
theorem dX2_init_89 : decode cX2_init 89 = .ok (.newarray .int, 2) := by decide +kernel
theorem dX2_init_91 : decode cX2_init 91 = .ok (.putfield 44, 3) := by decide +kernel
theorem dX2_init_94 : decode cX2_init 94 = .ok (.aload_n 0, 1) := by decide +kernel
theorem dX2_init_95 : decode cX2_init 95 = .ok (.sipush 144, 3) := by decide +kernel
theorem dX2_init_98 : decode cX2_init 98 = .ok (.newarray .boolean, 2) := by decide +kernel
theorem dX2_init_100 : decode cX2_init 100 = .ok (.putfield 47, 3) := by decide +kernel
theorem dX2_init_103 : decode cX2_init 103 = .ok (.return_, 1) := by decide +kernel
set_option maxRecDepth 100000 in
set_option maxHeartbeats 4000000 in
theorem k_X2 (l : Launch) (K : wK) (h0 : Nat)  : kV l yX2_init (Cond.code yX2_init cX2_init 1 none :: GT) ({ frames := 3, cells := 13, slots := 3481, locals := 180 } : Room) 13 3481 [.ref h0] K [(h0, .inr (2, [.null, .null, .null, .null, .null, .null, .null, .int 0, .int 0, .null, .null, .int 0, .null, .null]))] (fun u => ∃ q1 q2 q3 q4 q5 q6 q7 q8 q9 q10 q11 q12 q13 : Nat, u = [(h0, .inr (2, [.ref q1, .ref q4, .ref q5, .ref q6, .ref q7, .ref q8, .ref q9, .int 0, .int 0, .ref q10, .ref q11, .int 0, .ref q12, .ref q13])), (q1, .inr (3, [.int 0, .int 0, .int 0, .ref q2, .ref q3])), (q2, zI K 1152), (q3, zI K 144), (q4, zZ K 144), (q5, zI K 144), (q6, zI K 144), (q7, zI K 4), (q8, zI K 144), (q9, zI K 144), (q10, zI K 512), (q11, zI K 656), (q12, zI K 144), (q13, zZ K 144)]) := by
  refine kV_of (lv0 := [(0, .ref h0)]) (by decide) (Nat.le_of_ble_eq_true rfl) rfl rfl ?_
  intro p e s m args below meth c Q A C hin N ret
  replace C : Cx p ({ frames := 3, cells := 13, slots := 3481, locals := 180 } : Room) m c 0 0 cX2_init 1 s args RX2 K A := C
  refine wn_aload_n C 0 rfl dX2_init_0 rfl ?_
  refine wn_obj C (gt_1 38 (by decide +kernel) rfl) ga_oi ga_oc dX2_init_1 (Nat.le_of_ble_eq_true rfl) (Nat.le_of_ble_eq_true rfl) ?_
  refine wn_aload_n C 0 rfl dX2_init_4 rfl ?_
  refine wn_new C (ci := 3) (fs := [.int 0, .int 0, .int 0, .null, .null]) tyX3_ok okX3 (gt_1 39 (by decide +kernel) rfl) (gt_1 40 (by decide +kernel) rfl) gw_3 rfl (fun j hj => by rcases (show j = 0 ∨ j = 1 ∨ j = 2 ∨ j = 3 ∨ j = 4 by omega) with rfl | rfl | rfl | rfl | rfl <;> rfl) (Nat.le_of_ble_eq_true rfl) (Nat.le_of_ble_eq_true rfl) dX2_init_5 (fun q1 => ?_)
  replace C := C.more (cells' := 1) (slots' := 5) (Nat.le_of_ble_eq_true rfl) (Nat.le_of_ble_eq_true rfl)
  refine wn_dup C dX2_init_8 rfl ?_
  refine wn_callN C N (n := 0) (As := []) (rest := [.ref q1, .ref h0]) (wr := [(h0, .inr (2, [.null, .null, .null, .null, .null, .null, .null, .int 0, .int 0, .null, .null, .int 0, .null, .null]))]) (k_X3 l K q1) [1] [0] rfl rfl (by decide) (by decide) (by decide) gw_43 (by decide +kernel) gw_42 gw_3 ⟨by decide, by decide, by decide +kernel⟩ rfl rfl rfl rfl ⟨by decide, by decide⟩ rfl (Nat.le_of_ble_eq_true rfl) dX2_init_9 ⟨(Nat.le_of_ble_eq_true rfl), (Nat.le_of_ble_eq_true rfl)⟩ (fun w1 hw1 => ?_)
  obtain ⟨q2, q3, rfl⟩ := hw1
  replace C := C.more (cells' := 3) (slots' := 1301) (Nat.le_of_ble_eq_true rfl) (Nat.le_of_ble_eq_true rfl)
  refine wn_putR C hin (w' := [(h0, .inr (2, [.ref q1, .null, .null, .null, .null, .null, .null, .int 0, .int 0, .null, .null, .int 0, .null, .null])), (q1, .inr (3, [.int 0, .int 0, .int 0, .ref q2, .ref q3])), (q2, zI K 1152), (q3, zI K 144)]) 0 0 rfl rfl (by decide) okX2 gw_83 rfl rfl rfl rfl rfl (Nat.le_of_ble_eq_true rfl) rfl dX2_init_12 ?_
  refine wn_aload_n C 0 rfl dX2_init_15 rfl ?_
  refine wn_sipush C (z := 144) dX2_init_16 (by decide) ?_
  refine wn_newZ C ga_Z (inR_k 144 rfl) rfl (Nat.le_of_ble_eq_true rfl) (Nat.le_of_ble_eq_true rfl) (Nat.le_of_ble_eq_true rfl) dX2_init_19 (fun q4 => ?_)
  replace C := C.more (cells' := 4) (slots' := 1445) (Nat.le_of_ble_eq_true rfl) (Nat.le_of_ble_eq_true rfl)
  refine wn_putR C hin (w' := [(h0, .inr (2, [.ref q1, .ref q4, .null, .null, .null, .null, .null, .int 0, .int 0, .null, .null, .int 0, .null, .null])), (q1, .inr (3, [.int 0, .int 0, .int 0, .ref q2, .ref q3])), (q2, zI K 1152), (q3, zI K 144), (q4, zZ K 144)]) 0 1 rfl rfl (by decide) okX2 gw_89 rfl rfl rfl rfl rfl (Nat.le_of_ble_eq_true rfl) rfl dX2_init_21 ?_
  refine wn_aload_n C 0 rfl dX2_init_24 rfl ?_
  refine wn_sipush C (z := 144) dX2_init_25 (by decide) ?_
  refine wn_newI C ga_I (inR_k 144 rfl) rfl (Nat.le_of_ble_eq_true rfl) (Nat.le_of_ble_eq_true rfl) (Nat.le_of_ble_eq_true rfl) dX2_init_28 (fun q5 => ?_)
  replace C := C.more (cells' := 5) (slots' := 1589) (Nat.le_of_ble_eq_true rfl) (Nat.le_of_ble_eq_true rfl)
  refine wn_putR C hin (w' := [(h0, .inr (2, [.ref q1, .ref q4, .ref q5, .null, .null, .null, .null, .int 0, .int 0, .null, .null, .int 0, .null, .null])), (q1, .inr (3, [.int 0, .int 0, .int 0, .ref q2, .ref q3])), (q2, zI K 1152), (q3, zI K 144), (q4, zZ K 144), (q5, zI K 144)]) 0 2 rfl rfl (by decide) okX2 gw_92 rfl rfl rfl rfl rfl (Nat.le_of_ble_eq_true rfl) rfl dX2_init_30 ?_
  refine wn_aload_n C 0 rfl dX2_init_33 rfl ?_
  refine wn_sipush C (z := 144) dX2_init_34 (by decide) ?_
  refine wn_newI C ga_I (inR_k 144 rfl) rfl (Nat.le_of_ble_eq_true rfl) (Nat.le_of_ble_eq_true rfl) (Nat.le_of_ble_eq_true rfl) dX2_init_37 (fun q6 => ?_)
  replace C := C.more (cells' := 6) (slots' := 1733) (Nat.le_of_ble_eq_true rfl) (Nat.le_of_ble_eq_true rfl)
  refine wn_putR C hin (w' := [(h0, .inr (2, [.ref q1, .ref q4, .ref q5, .ref q6, .null, .null, .null, .int 0, .int 0, .null, .null, .int 0, .null, .null])), (q1, .inr (3, [.int 0, .int 0, .int 0, .ref q2, .ref q3])), (q2, zI K 1152), (q3, zI K 144), (q4, zZ K 144), (q5, zI K 144), (q6, zI K 144)]) 0 3 rfl rfl (by decide) okX2 gw_96 rfl rfl rfl rfl rfl (Nat.le_of_ble_eq_true rfl) rfl dX2_init_39 ?_
  refine wn_aload_n C 0 rfl dX2_init_42 rfl ?_
  refine wn_iconst C (z := 4) dX2_init_43 rfl ?_
  refine wn_newI C ga_I (inR_k 4 rfl) rfl (Nat.le_of_ble_eq_true rfl) (Nat.le_of_ble_eq_true rfl) (Nat.le_of_ble_eq_true rfl) dX2_init_44 (fun q7 => ?_)
  replace C := C.more (cells' := 7) (slots' := 1737) (Nat.le_of_ble_eq_true rfl) (Nat.le_of_ble_eq_true rfl)
  refine wn_putR C hin (w' := [(h0, .inr (2, [.ref q1, .ref q4, .ref q5, .ref q6, .ref q7, .null, .null, .int 0, .int 0, .null, .null, .int 0, .null, .null])), (q1, .inr (3, [.int 0, .int 0, .int 0, .ref q2, .ref q3])), (q2, zI K 1152), (q3, zI K 144), (q4, zZ K 144), (q5, zI K 144), (q6, zI K 144), (q7, zI K 4)]) 0 4 rfl rfl (by decide) okX2 gw_102 rfl rfl rfl rfl rfl (Nat.le_of_ble_eq_true rfl) rfl dX2_init_46 ?_
  refine wn_aload_n C 0 rfl dX2_init_49 rfl ?_
  refine wn_sipush C (z := 144) dX2_init_50 (by decide) ?_
  refine wn_newI C ga_I (inR_k 144 rfl) rfl (Nat.le_of_ble_eq_true rfl) (Nat.le_of_ble_eq_true rfl) (Nat.le_of_ble_eq_true rfl) dX2_init_53 (fun q8 => ?_)
  replace C := C.more (cells' := 8) (slots' := 1881) (Nat.le_of_ble_eq_true rfl) (Nat.le_of_ble_eq_true rfl)
  refine wn_putR C hin (w' := [(h0, .inr (2, [.ref q1, .ref q4, .ref q5, .ref q6, .ref q7, .ref q8, .null, .int 0, .int 0, .null, .null, .int 0, .null, .null])), (q1, .inr (3, [.int 0, .int 0, .int 0, .ref q2, .ref q3])), (q2, zI K 1152), (q3, zI K 144), (q4, zZ K 144), (q5, zI K 144), (q6, zI K 144), (q7, zI K 4), (q8, zI K 144)]) 0 5 rfl rfl (by decide) okX2 gw_104 rfl rfl rfl rfl rfl (Nat.le_of_ble_eq_true rfl) rfl dX2_init_55 ?_
  refine wn_aload_n C 0 rfl dX2_init_58 rfl ?_
  refine wn_sipush C (z := 144) dX2_init_59 (by decide) ?_
  refine wn_newI C ga_I (inR_k 144 rfl) rfl (Nat.le_of_ble_eq_true rfl) (Nat.le_of_ble_eq_true rfl) (Nat.le_of_ble_eq_true rfl) dX2_init_62 (fun q9 => ?_)
  replace C := C.more (cells' := 9) (slots' := 2025) (Nat.le_of_ble_eq_true rfl) (Nat.le_of_ble_eq_true rfl)
  refine wn_putR C hin (w' := [(h0, .inr (2, [.ref q1, .ref q4, .ref q5, .ref q6, .ref q7, .ref q8, .ref q9, .int 0, .int 0, .null, .null, .int 0, .null, .null])), (q1, .inr (3, [.int 0, .int 0, .int 0, .ref q2, .ref q3])), (q2, zI K 1152), (q3, zI K 144), (q4, zZ K 144), (q5, zI K 144), (q6, zI K 144), (q7, zI K 4), (q8, zI K 144), (q9, zI K 144)]) 0 6 rfl rfl (by decide) okX2 gw_107 rfl rfl rfl rfl rfl (Nat.le_of_ble_eq_true rfl) rfl dX2_init_64 ?_
  refine wn_aload_n C 0 rfl dX2_init_67 rfl ?_
  refine wn_sipush C (z := 512) dX2_init_68 (by decide) ?_
  refine wn_newI C ga_I (inR_k 512 rfl) rfl (Nat.le_of_ble_eq_true rfl) (Nat.le_of_ble_eq_true rfl) (Nat.le_of_ble_eq_true rfl) dX2_init_71 (fun q10 => ?_)
  replace C := C.more (cells' := 10) (slots' := 2537) (Nat.le_of_ble_eq_true rfl) (Nat.le_of_ble_eq_true rfl)
  refine wn_putR C hin (w' := [(h0, .inr (2, [.ref q1, .ref q4, .ref q5, .ref q6, .ref q7, .ref q8, .ref q9, .int 0, .int 0, .ref q10, .null, .int 0, .null, .null])), (q1, .inr (3, [.int 0, .int 0, .int 0, .ref q2, .ref q3])), (q2, zI K 1152), (q3, zI K 144), (q4, zZ K 144), (q5, zI K 144), (q6, zI K 144), (q7, zI K 4), (q8, zI K 144), (q9, zI K 144), (q10, zI K 512)]) 0 9 rfl rfl (by decide) okX2 gw_114 rfl rfl rfl rfl rfl (Nat.le_of_ble_eq_true rfl) rfl dX2_init_73 ?_
  refine wn_aload_n C 0 rfl dX2_init_76 rfl ?_
  refine wn_sipush C (z := 656) dX2_init_77 (by decide) ?_
  refine wn_newI C ga_I (inR_k 656 rfl) rfl (Nat.le_of_ble_eq_true rfl) (Nat.le_of_ble_eq_true rfl) (Nat.le_of_ble_eq_true rfl) dX2_init_80 (fun q11 => ?_)
  replace C := C.more (cells' := 11) (slots' := 3193) (Nat.le_of_ble_eq_true rfl) (Nat.le_of_ble_eq_true rfl)
  refine wn_putR C hin (w' := [(h0, .inr (2, [.ref q1, .ref q4, .ref q5, .ref q6, .ref q7, .ref q8, .ref q9, .int 0, .int 0, .ref q10, .ref q11, .int 0, .null, .null])), (q1, .inr (3, [.int 0, .int 0, .int 0, .ref q2, .ref q3])), (q2, zI K 1152), (q3, zI K 144), (q4, zZ K 144), (q5, zI K 144), (q6, zI K 144), (q7, zI K 4), (q8, zI K 144), (q9, zI K 144), (q10, zI K 512), (q11, zI K 656)]) 0 10 rfl rfl (by decide) okX2 gw_115 rfl rfl rfl rfl rfl (Nat.le_of_ble_eq_true rfl) rfl dX2_init_82 ?_
  refine wn_aload_n C 0 rfl dX2_init_85 rfl ?_
  refine wn_sipush C (z := 144) dX2_init_86 (by decide) ?_
  refine wn_newI C ga_I (inR_k 144 rfl) rfl (Nat.le_of_ble_eq_true rfl) (Nat.le_of_ble_eq_true rfl) (Nat.le_of_ble_eq_true rfl) dX2_init_89 (fun q12 => ?_)
  replace C := C.more (cells' := 12) (slots' := 3337) (Nat.le_of_ble_eq_true rfl) (Nat.le_of_ble_eq_true rfl)
  refine wn_putR C hin (w' := [(h0, .inr (2, [.ref q1, .ref q4, .ref q5, .ref q6, .ref q7, .ref q8, .ref q9, .int 0, .int 0, .ref q10, .ref q11, .int 0, .ref q12, .null])), (q1, .inr (3, [.int 0, .int 0, .int 0, .ref q2, .ref q3])), (q2, zI K 1152), (q3, zI K 144), (q4, zZ K 144), (q5, zI K 144), (q6, zI K 144), (q7, zI K 4), (q8, zI K 144), (q9, zI K 144), (q10, zI K 512), (q11, zI K 656), (q12, zI K 144)]) 0 12 rfl rfl (by decide) okX2 gw_117 rfl rfl rfl rfl rfl (Nat.le_of_ble_eq_true rfl) rfl dX2_init_91 ?_
  refine wn_aload_n C 0 rfl dX2_init_94 rfl ?_
  refine wn_sipush C (z := 144) dX2_init_95 (by decide) ?_
  refine wn_newZ C ga_Z (inR_k 144 rfl) rfl (Nat.le_of_ble_eq_true rfl) (Nat.le_of_ble_eq_true rfl) (Nat.le_of_ble_eq_true rfl) dX2_init_98 (fun q13 => ?_)
  replace C := C.more (cells' := 13) (slots' := 3481) (Nat.le_of_ble_eq_true rfl) (Nat.le_of_ble_eq_true rfl)
  refine wn_putR C hin (w' := [(h0, .inr (2, [.ref q1, .ref q4, .ref q5, .ref q6, .ref q7, .ref q8, .ref q9, .int 0, .int 0, .ref q10, .ref q11, .int 0, .ref q12, .ref q13])), (q1, .inr (3, [.int 0, .int 0, .int 0, .ref q2, .ref q3])), (q2, zI K 1152), (q3, zI K 144), (q4, zZ K 144), (q5, zI K 144), (q6, zI K 144), (q7, zI K 4), (q8, zI K 144), (q9, zI K 144), (q10, zI K 512), (q11, zI K 656), (q12, zI K 144), (q13, zZ K 144)]) 0 13 rfl rfl (by decide) okX2 gw_118 rfl rfl rfl rfl rfl (Nat.le_of_ble_eq_true rfl) rfl dX2_init_100 ?_
  exact ret (Nat.le_of_ble_eq_true rfl) (Nat.le_of_ble_eq_true rfl) dX2_init_103 ⟨_, _, _, _, _, _, _, _, _, _, _, _, _, rfl⟩
theorem dX1_init_0 : decode cX1_init 0 = .ok (.aload_n 0, 1) := by decide +kernel
theorem dX1_init_1 : decode cX1_init 1 = .ok (.invokespecial 3, 3) := by decide +kernel
theorem dX1_init_4 : decode cX1_init 4 = .ok (.aload_n 0, 1) := by decide +kernel
theorem dX1_init_5 : decode cX1_init 5 = .ok (.sipush 144, 3) := by decide +kernel
theorem dX1_init_8 : decode cX1_init 8 = .ok (.newarray .boolean, 2) := by decide +kernel
theorem dX1_init_10 : decode cX1_init 10 = .ok (.putfield 9, 3) := by decide +kernel
theorem dX1_init_13 : decode cX1_init 13 = .ok (.aload_n 0, 1) := by decide +kernel
theorem dX1_init_14 : decode cX1_init 14 = .ok (.sipush 144, 3) := by decide +kernel
theorem dX1_init_17 : decode cX1_init 17 = .ok (.newarray .int, 2) := by decide +kernel
theorem dX1_init_19 : decode cX1_init 19 = .ok (.putfield 15, 3) := by decide +kernel
theorem dX1_init_22 : decode cX1_init 22 = .ok (.aload_n 0, 1) := by decide +kernel
theorem dX1_init_23 : decode cX1_init 23 = .ok (.sipush 144, 3) := by decide +kernel
theorem dX1_init_26 : decode cX1_init 26 = .ok (.newarray .int, 2) := by decide +kernel
theorem dX1_init_28 : decode cX1_init 28 = .ok (.putfield 19, 3) := by decide +kernel
theorem dX1_init_31 : decode cX1_init 31 = .ok (.aload_n 0, 1) := by decide +kernel
theorem dX1_init_32 : decode cX1_init 32 = .ok (.sipush 144, 3) := by decide +kernel
theorem dX1_init_35 : decode cX1_init 35 = .ok (.newarray .int, 2) := by decide +kernel
theorem dX1_init_37 : decode cX1_init 37 = .ok (.putfield 22, 3) := by decide +kernel
theorem dX1_init_40 : decode cX1_init 40 = .ok (.aload_n 0, 1) := by decide +kernel
theorem dX1_init_41 : decode cX1_init 41 = .ok (.sipush 145, 3) := by decide +kernel
theorem dX1_init_44 : decode cX1_init 44 = .ok (.newarray .int, 2) := by decide +kernel
theorem dX1_init_46 : decode cX1_init 46 = .ok (.putfield 25, 3) := by decide +kernel
theorem dX1_init_49 : decode cX1_init 49 = .ok (.aload_n 0, 1) := by decide +kernel
theorem dX1_init_50 : decode cX1_init 50 = .ok (.sipush 144, 3) := by decide +kernel
theorem dX1_init_53 : decode cX1_init 53 = .ok (.newarray .int, 2) := by decide +kernel
theorem dX1_init_55 : decode cX1_init 55 = .ok (.putfield 28, 3) := by decide +kernel
theorem dX1_init_58 : decode cX1_init 58 = .ok (.aload_n 0, 1) := by decide +kernel
theorem dX1_init_59 : decode cX1_init 59 = .ok (.aload_n 1, 1) := by decide +kernel
theorem dX1_init_60 : decode cX1_init 60 = .ok (.putfield 31, 3) := by decide +kernel
theorem dX1_init_63 : decode cX1_init 63 = .ok (.aload_n 0, 1) := by decide +kernel
theorem dX1_init_64 : decode cX1_init 64 = .ok (.aload_n 1, 1) := by decide +kernel
theorem dX1_init_65 : decode cX1_init 65 = .ok (.getfield 35, 3) := by decide +kernel
theorem dX1_init_68 : decode cX1_init 68 = .ok (.putfield 41, 3) := by decide +kernel
theorem dX1_init_71 : decode cX1_init 71 = .ok (.return_, 1) := by decide +kernel
set_option maxRecDepth 100000 in
set_option maxHeartbeats 4000000 in
theorem k_X1 (l : Launch) (K : wK) (h0 : Nat) (a1 : Nat) (f1 : List Value) (g1_0 : Nat) (e1_0 : f1[0]? = some (.ref g1_0)) : kV l yX1_init (Cond.code yX1_init cX1_init 2 none :: GT) ({ frames := 2, cells := 6, slots := 865, locals := 120 } : Room) 6 865 [.ref h0, .ref a1] K [(h0, .inr (1, [.null, .null, .null, .null, .null, .null, .null, .null, .int 0, .int 0])), (a1, .inr (2, f1))] (fun u => ∃ q1 q2 q3 q4 q5 q6 : Nat, u = [(h0, .inr (1, [.ref a1, .ref g1_0, .ref q1, .ref q2, .ref q3, .ref q4, .ref q5, .ref q6, .int 0, .int 0])), (a1, .inr (2, f1)), (q1, zZ K 144), (q2, zI K 144), (q3, zI K 144), (q4, zI K 144), (q5, zI K 145), (q6, zI K 144)]) := by
  refine kV_of (lv0 := [(0, .ref h0), (1, .ref a1)]) (by decide) (Nat.le_of_ble_eq_true rfl) rfl rfl ?_
  intro p e s m args below meth c Q A C hin N ret
  replace C : Cx p ({ frames := 2, cells := 6, slots := 865, locals := 120 } : Room) m c 0 0 cX1_init 2 s args RX1 K A := C
  refine wn_aload_n C 0 rfl dX1_init_0 rfl ?_
  refine wn_obj C (gt_1 154 (by decide +kernel) rfl) ga_oi ga_oc dX1_init_1 (Nat.le_of_ble_eq_true rfl) (Nat.le_of_ble_eq_true rfl) ?_
  refine wn_aload_n C 0 rfl dX1_init_4 rfl ?_
  refine wn_sipush C (z := 144) dX1_init_5 (by decide) ?_
  refine wn_newZ C ga_Z (inR_k 144 rfl) rfl (Nat.le_of_ble_eq_true rfl) (Nat.le_of_ble_eq_true rfl) (Nat.le_of_ble_eq_true rfl) dX1_init_8 (fun q1 => ?_)
  replace C := C.more (cells' := 1) (slots' := 144) (Nat.le_of_ble_eq_true rfl) (Nat.le_of_ble_eq_true rfl)
  refine wn_putR C hin (w' := [(h0, .inr (1, [.null, .null, .ref q1, .null, .null, .null, .null, .null, .int 0, .int 0])), (a1, .inr (2, f1)), (q1, zZ K 144)]) 0 2 rfl rfl (by decide) okX1 gw_160 rfl rfl rfl rfl rfl (Nat.le_of_ble_eq_true rfl) rfl dX1_init_10 ?_
  refine wn_aload_n C 0 rfl dX1_init_13 rfl ?_
  refine wn_sipush C (z := 144) dX1_init_14 (by decide) ?_
  refine wn_newI C ga_I (inR_k 144 rfl) rfl (Nat.le_of_ble_eq_true rfl) (Nat.le_of_ble_eq_true rfl) (Nat.le_of_ble_eq_true rfl) dX1_init_17 (fun q2 => ?_)
  replace C := C.more (cells' := 2) (slots' := 288) (Nat.le_of_ble_eq_true rfl) (Nat.le_of_ble_eq_true rfl)
  refine wn_putR C hin (w' := [(h0, .inr (1, [.null, .null, .ref q1, .ref q2, .null, .null, .null, .null, .int 0, .int 0])), (a1, .inr (2, f1)), (q1, zZ K 144), (q2, zI K 144)]) 0 3 rfl rfl (by decide) okX1 gw_163 rfl rfl rfl rfl rfl (Nat.le_of_ble_eq_true rfl) rfl dX1_init_19 ?_
  refine wn_aload_n C 0 rfl dX1_init_22 rfl ?_
  refine wn_sipush C (z := 144) dX1_init_23 (by decide) ?_
  refine wn_newI C ga_I (inR_k 144 rfl) rfl (Nat.le_of_ble_eq_true rfl) (Nat.le_of_ble_eq_true rfl) (Nat.le_of_ble_eq_true rfl) dX1_init_26 (fun q3 => ?_)
  replace C := C.more (cells' := 3) (slots' := 432) (Nat.le_of_ble_eq_true rfl) (Nat.le_of_ble_eq_true rfl)
  refine wn_putR C hin (w' := [(h0, .inr (1, [.null, .null, .ref q1, .ref q2, .ref q3, .null, .null, .null, .int 0, .int 0])), (a1, .inr (2, f1)), (q1, zZ K 144), (q2, zI K 144), (q3, zI K 144)]) 0 4 rfl rfl (by decide) okX1 gw_167 rfl rfl rfl rfl rfl (Nat.le_of_ble_eq_true rfl) rfl dX1_init_28 ?_
  refine wn_aload_n C 0 rfl dX1_init_31 rfl ?_
  refine wn_sipush C (z := 144) dX1_init_32 (by decide) ?_
  refine wn_newI C ga_I (inR_k 144 rfl) rfl (Nat.le_of_ble_eq_true rfl) (Nat.le_of_ble_eq_true rfl) (Nat.le_of_ble_eq_true rfl) dX1_init_35 (fun q4 => ?_)
  replace C := C.more (cells' := 4) (slots' := 576) (Nat.le_of_ble_eq_true rfl) (Nat.le_of_ble_eq_true rfl)
  refine wn_putR C hin (w' := [(h0, .inr (1, [.null, .null, .ref q1, .ref q2, .ref q3, .ref q4, .null, .null, .int 0, .int 0])), (a1, .inr (2, f1)), (q1, zZ K 144), (q2, zI K 144), (q3, zI K 144), (q4, zI K 144)]) 0 5 rfl rfl (by decide) okX1 gw_169 rfl rfl rfl rfl rfl (Nat.le_of_ble_eq_true rfl) rfl dX1_init_37 ?_
  refine wn_aload_n C 0 rfl dX1_init_40 rfl ?_
  refine wn_sipush C (z := 145) dX1_init_41 (by decide) ?_
  refine wn_newI C ga_I (inR_k 145 rfl) rfl (Nat.le_of_ble_eq_true rfl) (Nat.le_of_ble_eq_true rfl) (Nat.le_of_ble_eq_true rfl) dX1_init_44 (fun q5 => ?_)
  replace C := C.more (cells' := 5) (slots' := 721) (Nat.le_of_ble_eq_true rfl) (Nat.le_of_ble_eq_true rfl)
  refine wn_putR C hin (w' := [(h0, .inr (1, [.null, .null, .ref q1, .ref q2, .ref q3, .ref q4, .ref q5, .null, .int 0, .int 0])), (a1, .inr (2, f1)), (q1, zZ K 144), (q2, zI K 144), (q3, zI K 144), (q4, zI K 144), (q5, zI K 145)]) 0 6 rfl rfl (by decide) okX1 gw_171 rfl rfl rfl rfl rfl (Nat.le_of_ble_eq_true rfl) rfl dX1_init_46 ?_
  refine wn_aload_n C 0 rfl dX1_init_49 rfl ?_
  refine wn_sipush C (z := 144) dX1_init_50 (by decide) ?_
  refine wn_newI C ga_I (inR_k 144 rfl) rfl (Nat.le_of_ble_eq_true rfl) (Nat.le_of_ble_eq_true rfl) (Nat.le_of_ble_eq_true rfl) dX1_init_53 (fun q6 => ?_)
  replace C := C.more (cells' := 6) (slots' := 865) (Nat.le_of_ble_eq_true rfl) (Nat.le_of_ble_eq_true rfl)
  refine wn_putR C hin (w' := [(h0, .inr (1, [.null, .null, .ref q1, .ref q2, .ref q3, .ref q4, .ref q5, .ref q6, .int 0, .int 0])), (a1, .inr (2, f1)), (q1, zZ K 144), (q2, zI K 144), (q3, zI K 144), (q4, zI K 144), (q5, zI K 145), (q6, zI K 144)]) 0 7 rfl rfl (by decide) okX1 gw_174 rfl rfl rfl rfl rfl (Nat.le_of_ble_eq_true rfl) rfl dX1_init_55 ?_
  refine wn_aload_n C 0 rfl dX1_init_58 rfl ?_
  refine wn_aload_n C 1 rfl dX1_init_59 rfl ?_
  refine wn_putR C hin (w' := [(h0, .inr (1, [.ref a1, .null, .ref q1, .ref q2, .ref q3, .ref q4, .ref q5, .ref q6, .int 0, .int 0])), (a1, .inr (2, f1)), (q1, zZ K 144), (q2, zI K 144), (q3, zI K 144), (q4, zI K 144), (q5, zI K 145), (q6, zI K 144)]) 0 0 rfl rfl (by decide) okX1 gw_156 rfl rfl rfl rfl rfl (Nat.le_of_ble_eq_true rfl) rfl dX1_init_60 ?_
  refine wn_aload_n C 0 rfl dX1_init_63 rfl ?_
  refine wn_aload_n C 1 rfl dX1_init_64 rfl ?_
  refine wn_getR C 1 0 rfl rfl (by decide) okX2 gw_84 e1_0 dX1_init_65 ?_
  refine wn_putR C hin (w' := [(h0, .inr (1, [.ref a1, .ref g1_0, .ref q1, .ref q2, .ref q3, .ref q4, .ref q5, .ref q6, .int 0, .int 0])), (a1, .inr (2, f1)), (q1, zZ K 144), (q2, zI K 144), (q3, zI K 144), (q4, zI K 144), (q5, zI K 145), (q6, zI K 144)]) 0 1 rfl rfl (by decide) okX1 gw_158 rfl rfl rfl rfl rfl (Nat.le_of_ble_eq_true rfl) rfl dX1_init_68 ?_
  exact ret (Nat.le_of_ble_eq_true rfl) (Nat.le_of_ble_eq_true rfl) dX1_init_71 ⟨_, _, _, _, _, _, rfl⟩
theorem dX9_init_0 : decode cX9_init 0 = .ok (.aload_n 0, 1) := by decide +kernel
theorem dX9_init_1 : decode cX9_init 1 = .ok (.invokespecial 3, 3) := by decide +kernel
theorem dX9_init_4 : decode cX9_init 4 = .ok (.aload_n 0, 1) := by decide +kernel
theorem dX9_init_5 : decode cX9_init 5 = .ok (.sipush 144, 3) := by decide +kernel
theorem dX9_init_8 : decode cX9_init 8 = .ok (.newarray .int, 2) := by decide +kernel
theorem dX9_init_10 : decode cX9_init 10 = .ok (.putfield 9, 3) := by decide +kernel
theorem dX9_init_13 : decode cX9_init 13 = .ok (.aload_n 0, 1) := by decide +kernel
theorem dX9_init_14 : decode cX9_init 14 = .ok (.sipush 144, 3) := by decide +kernel
theorem dX9_init_17 : decode cX9_init 17 = .ok (.newarray .int, 2) := by decide +kernel
theorem dX9_init_19 : decode cX9_init 19 = .ok (.putfield 15, 3) := by decide +kernel
theorem dX9_init_22 : decode cX9_init 22 = .ok (.aload_n 0, 1) := by decide +kernel
theorem dX9_init_23 : decode cX9_init 23 = .ok (.sipush 144, 3) := by decide +kernel
theorem dX9_init_26 : decode cX9_init 26 = .ok (.newarray .int, 2) := by decide +kernel
theorem dX9_init_28 : decode cX9_init 28 = .ok (.putfield 18, 3) := by decide +kernel
theorem dX9_init_31 : decode cX9_init 31 = .ok (.aload_n 0, 1) := by decide +kernel
theorem dX9_init_32 : decode cX9_init 32 = .ok (.sipush 288, 3) := by decide +kernel
theorem dX9_init_35 : decode cX9_init 35 = .ok (.newarray .int, 2) := by decide +kernel
theorem dX9_init_37 : decode cX9_init 37 = .ok (.putfield 21, 3) := by decide +kernel
theorem dX9_init_40 : decode cX9_init 40 = .ok (.aload_n 0, 1) := by decide +kernel
theorem dX9_init_41 : decode cX9_init 41 = .ok (.bipush 17, 2) := by decide +kernel
theorem dX9_init_43 : decode cX9_init 43 = .ok (.newarray .int, 2) := by decide +kernel
theorem dX9_init_45 : decode cX9_init 45 = .ok (.putfield 24, 3) := by decide +kernel
theorem dX9_init_48 : decode cX9_init 48 = .ok (.aload_n 0, 1) := by decide +kernel
theorem dX9_init_49 : decode cX9_init 49 = .ok (.sipush 144, 3) := by decide +kernel
theorem dX9_init_52 : decode cX9_init 52 = .ok (.newarray .int, 2) := by decide +kernel
theorem dX9_init_54 : decode cX9_init 54 = .ok (.putfield 27, 3) := by decide +kernel
theorem dX9_init_57 : decode cX9_init 57 = .ok (.aload_n 0, 1) := by decide +kernel
theorem dX9_init_58 : decode cX9_init 58 = .ok (.bipush 17, 2) := by decide +kernel
theorem dX9_init_60 : decode cX9_init 60 = .ok (.newarray .int, 2) := by decide +kernel
theorem dX9_init_62 : decode cX9_init 62 = .ok (.putfield 30, 3) := by decide +kernel
theorem dX9_init_65 : decode cX9_init 65 = .ok (.aload_n 0, 1) := by decide +kernel
theorem dX9_init_66 : decode cX9_init 66 = .ok (.sipush 136, 3) := by decide +kernel
theorem dX9_init_69 : decode cX9_init 69 = .ok (.newarray .int, 2) := by decide +kernel
theorem dX9_init_71 : decode cX9_init 71 = .ok (.putfield 35, 3) := by decide +kernel
theorem dX9_init_74 : decode cX9_init 74 = .ok (.aload_n 0, 1) := by decide +kernel
theorem dX9_init_75 : decode cX9_init 75 = .ok (.bipush 17, 2) := by decide +kernel
theorem dX9_init_77 : decode cX9_init 77 = .ok (.newarray .int, 2) := by decide +kernel
theorem dX9_init_79 : decode cX9_init 79 = .ok (.putfield 38, 3) := by decide +kernel
theorem dX9_init_82 : decode cX9_init 82 = .ok (.aload_n 0, 1) := by decide +kernel
theorem dX9_init_83 : decode cX9_init 83 = .ok (.bipush 16, 2) := by decide +kernel
theorem dX9_init_85 : decode cX9_init 85 = .ok (.newarray .int, 2) := by decide +kernel
theorem dX9_init_87 : decode cX9_init 87 = .ok (.putfield 41, 3) := by decide +kernel
theorem dX9_init_90 : decode cX9_init 90 = .ok (.aload_n 0, 1) := by decide +kernel
theorem dX9_init_91 : decode cX9_init 91 = .ok (.bipush 16, 2) := by decide +kernel
theorem dX9_init_93 : decode cX9_init 93 = .ok (.newarray .int, 2) := by decide +kernel
theorem dX9_init_95 : decode cX9_init 95 = .ok (.putfield 44, 3) := by decide +kernel
theorem dX9_init_98 : decode cX9_init 98 = .ok (.aload_n 0, 1) := by decide +kernel
theorem dX9_init_99 : decode cX9_init 99 = .ok (.bipush 16, 2) := by decide +kernel
theorem dX9_init_101 : decode cX9_init 101 = .ok (.newarray .int, 2) := by decide +kernel
theorem dX9_init_103 : decode cX9_init 103 = .ok (.putfield 47, 3) := by decide +kernel
theorem dX9_init_106 : decode cX9_init 106 = .ok (.aload_n 0, 1) := by decide +kernel
theorem dX9_init_107 : decode cX9_init 107 = .ok (.aload_n 1, 1) := by decide +kernel
theorem dX9_init_108 : decode cX9_init 108 = .ok (.putfield 50, 3) := by decide +kernel
theorem dX9_init_111 : decode cX9_init 111 = .ok (.aload_n 0, 1) := by decide +kernel
theorem dX9_init_112 : decode cX9_init 112 = .ok (.aload_n 1, 1) := by decide +kernel
theorem dX9_init_113 : decode cX9_init 113 = .ok (.getfield 54, 3) := by decide +kernel
theorem dX9_init_116 : decode cX9_init 116 = .ok (.putfield 60, 3) := by decide +kernel
theorem dX9_init_119 : decode cX9_init 119 = .ok (.return_, 1) := by decide +kernel
set_option maxRecDepth 100000 in
set_option maxHeartbeats 4000000 in
theorem k_X9 (l : Launch) (K : wK) (h0 : Nat) (a1 : Nat) (f1 : List Value) (g1_1 : Nat) (e1_1 : f1[1]? = some (.ref g1_1)) : kV l yX9_init (Cond.code yX9_init cX9_init 2 none :: GT) ({ frames := 2, cells := 12, slots := 1099, locals := 120 } : Room) 12 1099 [.ref h0, .ref a1] K [(h0, .inr (9, [.null, .null, .null, .null, .null, .null, .null, .null, .null, .null, .null, .null, .null, .null, .int 0, .int 0, .int 0])), (a1, .inr (1, f1))] (fun u => ∃ q1 q2 q3 q4 q5 q6 q7 q8 q9 q10 q11 q12 : Nat, u = [(h0, .inr (9, [.ref q1, .ref q2, .ref q3, .ref q4, .ref q5, .ref a1, .ref g1_1, .ref q6, .ref q7, .ref q8, .ref q9, .ref q10, .ref q11, .ref q12, .int 0, .int 0, .int 0])), (a1, .inr (1, f1)), (q1, zI K 144), (q2, zI K 144), (q3, zI K 144), (q4, zI K 288), (q5, zI K 17), (q6, zI K 144), (q7, zI K 17), (q8, zI K 136), (q9, zI K 17), (q10, zI K 16), (q11, zI K 16), (q12, zI K 16)]) := by
  refine kV_of (lv0 := [(0, .ref h0), (1, .ref a1)]) (by decide) (Nat.le_of_ble_eq_true rfl) rfl rfl ?_
  intro p e s m args below meth c Q A C hin N ret
  replace C : Cx p ({ frames := 2, cells := 12, slots := 1099, locals := 120 } : Room) m c 0 0 cX9_init 2 s args RX9 K A := C
  refine wn_aload_n C 0 rfl dX9_init_0 rfl ?_
  refine wn_obj C (gt_1 207 (by decide +kernel) rfl) ga_oi ga_oc dX9_init_1 (Nat.le_of_ble_eq_true rfl) (Nat.le_of_ble_eq_true rfl) ?_
  refine wn_aload_n C 0 rfl dX9_init_4 rfl ?_
  refine wn_sipush C (z := 144) dX9_init_5 (by decide) ?_
  refine wn_newI C ga_I (inR_k 144 rfl) rfl (Nat.le_of_ble_eq_true rfl) (Nat.le_of_ble_eq_true rfl) (Nat.le_of_ble_eq_true rfl) dX9_init_8 (fun q1 => ?_)
  replace C := C.more (cells' := 1) (slots' := 144) (Nat.le_of_ble_eq_true rfl) (Nat.le_of_ble_eq_true rfl)
  refine wn_putR C hin (w' := [(h0, .inr (9, [.ref q1, .null, .null, .null, .null, .null, .null, .null, .null, .null, .null, .null, .null, .null, .int 0, .int 0, .int 0])), (a1, .inr (1, f1)), (q1, zI K 144)]) 0 0 rfl rfl (by decide) okX9 gw_208 rfl rfl rfl rfl rfl (Nat.le_of_ble_eq_true rfl) rfl dX9_init_10 ?_
  refine wn_aload_n C 0 rfl dX9_init_13 rfl ?_
  refine wn_sipush C (z := 144) dX9_init_14 (by decide) ?_
  refine wn_newI C ga_I (inR_k 144 rfl) rfl (Nat.le_of_ble_eq_true rfl) (Nat.le_of_ble_eq_true rfl) (Nat.le_of_ble_eq_true rfl) dX9_init_17 (fun q2 => ?_)
  replace C := C.more (cells' := 2) (slots' := 288) (Nat.le_of_ble_eq_true rfl) (Nat.le_of_ble_eq_true rfl)
  refine wn_putR C hin (w' := [(h0, .inr (9, [.ref q1, .ref q2, .null, .null, .null, .null, .null, .null, .null, .null, .null, .null, .null, .null, .int 0, .int 0, .int 0])), (a1, .inr (1, f1)), (q1, zI K 144), (q2, zI K 144)]) 0 1 rfl rfl (by decide) okX9 gw_210 rfl rfl rfl rfl rfl (Nat.le_of_ble_eq_true rfl) rfl dX9_init_19 ?_
  refine wn_aload_n C 0 rfl dX9_init_22 rfl ?_
  refine wn_sipush C (z := 144) dX9_init_23 (by decide) ?_
  refine wn_newI C ga_I (inR_k 144 rfl) rfl (Nat.le_of_ble_eq_true rfl) (Nat.le_of_ble_eq_true rfl) (Nat.le_of_ble_eq_true rfl) dX9_init_26 (fun q3 => ?_)
  replace C := C.more (cells' := 3) (slots' := 432) (Nat.le_of_ble_eq_true rfl) (Nat.le_of_ble_eq_true rfl)
  refine wn_putR C hin (w' := [(h0, .inr (9, [.ref q1, .ref q2, .ref q3, .null, .null, .null, .null, .null, .null, .null, .null, .null, .null, .null, .int 0, .int 0, .int 0])), (a1, .inr (1, f1)), (q1, zI K 144), (q2, zI K 144), (q3, zI K 144)]) 0 2 rfl rfl (by decide) okX9 gw_212 rfl rfl rfl rfl rfl (Nat.le_of_ble_eq_true rfl) rfl dX9_init_28 ?_
  refine wn_aload_n C 0 rfl dX9_init_31 rfl ?_
  refine wn_sipush C (z := 288) dX9_init_32 (by decide) ?_
  refine wn_newI C ga_I (inR_k 288 rfl) rfl (Nat.le_of_ble_eq_true rfl) (Nat.le_of_ble_eq_true rfl) (Nat.le_of_ble_eq_true rfl) dX9_init_35 (fun q4 => ?_)
  replace C := C.more (cells' := 4) (slots' := 720) (Nat.le_of_ble_eq_true rfl) (Nat.le_of_ble_eq_true rfl)
  refine wn_putR C hin (w' := [(h0, .inr (9, [.ref q1, .ref q2, .ref q3, .ref q4, .null, .null, .null, .null, .null, .null, .null, .null, .null, .null, .int 0, .int 0, .int 0])), (a1, .inr (1, f1)), (q1, zI K 144), (q2, zI K 144), (q3, zI K 144), (q4, zI K 288)]) 0 3 rfl rfl (by decide) okX9 gw_214 rfl rfl rfl rfl rfl (Nat.le_of_ble_eq_true rfl) rfl dX9_init_37 ?_
  refine wn_aload_n C 0 rfl dX9_init_40 rfl ?_
  refine wn_bipush C (z := 17) dX9_init_41 (by decide) ?_
  refine wn_newI C ga_I (inR_k 17 rfl) rfl (Nat.le_of_ble_eq_true rfl) (Nat.le_of_ble_eq_true rfl) (Nat.le_of_ble_eq_true rfl) dX9_init_43 (fun q5 => ?_)
  replace C := C.more (cells' := 5) (slots' := 737) (Nat.le_of_ble_eq_true rfl) (Nat.le_of_ble_eq_true rfl)
  refine wn_putR C hin (w' := [(h0, .inr (9, [.ref q1, .ref q2, .ref q3, .ref q4, .ref q5, .null, .null, .null, .null, .null, .null, .null, .null, .null, .int 0, .int 0, .int 0])), (a1, .inr (1, f1)), (q1, zI K 144), (q2, zI K 144), (q3, zI K 144), (q4, zI K 288), (q5, zI K 17)]) 0 4 rfl rfl (by decide) okX9 gw_216 rfl rfl rfl rfl rfl (Nat.le_of_ble_eq_true rfl) rfl dX9_init_45 ?_
  refine wn_aload_n C 0 rfl dX9_init_48 rfl ?_
  refine wn_sipush C (z := 144) dX9_init_49 (by decide) ?_
  refine wn_newI C ga_I (inR_k 144 rfl) rfl (Nat.le_of_ble_eq_true rfl) (Nat.le_of_ble_eq_true rfl) (Nat.le_of_ble_eq_true rfl) dX9_init_52 (fun q6 => ?_)
  replace C := C.more (cells' := 6) (slots' := 881) (Nat.le_of_ble_eq_true rfl) (Nat.le_of_ble_eq_true rfl)
  refine wn_putR C hin (w' := [(h0, .inr (9, [.ref q1, .ref q2, .ref q3, .ref q4, .ref q5, .null, .null, .ref q6, .null, .null, .null, .null, .null, .null, .int 0, .int 0, .int 0])), (a1, .inr (1, f1)), (q1, zI K 144), (q2, zI K 144), (q3, zI K 144), (q4, zI K 288), (q5, zI K 17), (q6, zI K 144)]) 0 7 rfl rfl (by decide) okX9 gw_220 rfl rfl rfl rfl rfl (Nat.le_of_ble_eq_true rfl) rfl dX9_init_54 ?_
  refine wn_aload_n C 0 rfl dX9_init_57 rfl ?_
  refine wn_bipush C (z := 17) dX9_init_58 (by decide) ?_
  refine wn_newI C ga_I (inR_k 17 rfl) rfl (Nat.le_of_ble_eq_true rfl) (Nat.le_of_ble_eq_true rfl) (Nat.le_of_ble_eq_true rfl) dX9_init_60 (fun q7 => ?_)
  replace C := C.more (cells' := 7) (slots' := 898) (Nat.le_of_ble_eq_true rfl) (Nat.le_of_ble_eq_true rfl)
  refine wn_putR C hin (w' := [(h0, .inr (9, [.ref q1, .ref q2, .ref q3, .ref q4, .ref q5, .null, .null, .ref q6, .ref q7, .null, .null, .null, .null, .null, .int 0, .int 0, .int 0])), (a1, .inr (1, f1)), (q1, zI K 144), (q2, zI K 144), (q3, zI K 144), (q4, zI K 288), (q5, zI K 17), (q6, zI K 144), (q7, zI K 17)]) 0 8 rfl rfl (by decide) okX9 gw_221 rfl rfl rfl rfl rfl (Nat.le_of_ble_eq_true rfl) rfl dX9_init_62 ?_
  refine wn_aload_n C 0 rfl dX9_init_65 rfl ?_
  refine wn_sipush C (z := 136) dX9_init_66 (by decide) ?_
  refine wn_newI C ga_I (inR_k 136 rfl) rfl (Nat.le_of_ble_eq_true rfl) (Nat.le_of_ble_eq_true rfl) (Nat.le_of_ble_eq_true rfl) dX9_init_69 (fun q8 => ?_)
  replace C := C.more (cells' := 8) (slots' := 1034) (Nat.le_of_ble_eq_true rfl) (Nat.le_of_ble_eq_true rfl)
  refine wn_putR C hin (w' := [(h0, .inr (9, [.ref q1, .ref q2, .ref q3, .ref q4, .ref q5, .null, .null, .ref q6, .ref q7, .ref q8, .null, .null, .null, .null, .int 0, .int 0, .int 0])), (a1, .inr (1, f1)), (q1, zI K 144), (q2, zI K 144), (q3, zI K 144), (q4, zI K 288), (q5, zI K 17), (q6, zI K 144), (q7, zI K 17), (q8, zI K 136)]) 0 9 rfl rfl (by decide) okX9 gw_222 rfl rfl rfl rfl rfl (Nat.le_of_ble_eq_true rfl) rfl dX9_init_71 ?_
  refine wn_aload_n C 0 rfl dX9_init_74 rfl ?_
  refine wn_bipush C (z := 17) dX9_init_75 (by decide) ?_
  refine wn_newI C ga_I (inR_k 17 rfl) rfl (Nat.le_of_ble_eq_true rfl) (Nat.le_of_ble_eq_true rfl) (Nat.le_of_ble_eq_true rfl) dX9_init_77 (fun q9 => ?_)
  replace C := C.more (cells' := 9) (slots' := 1051) (Nat.le_of_ble_eq_true rfl) (Nat.le_of_ble_eq_true rfl)
  refine wn_putR C hin (w' := [(h0, .inr (9, [.ref q1, .ref q2, .ref q3, .ref q4, .ref q5, .null, .null, .ref q6, .ref q7, .ref q8, .ref q9, .null, .null, .null, .int 0, .int 0, .int 0])), (a1, .inr (1, f1)), (q1, zI K 144), (q2, zI K 144), (q3, zI K 144), (q4, zI K 288), (q5, zI K 17), (q6, zI K 144), (q7, zI K 17), (q8, zI K 136), (q9, zI K 17)]) 0 10 rfl rfl (by decide) okX9 gw_223 rfl rfl rfl rfl rfl (Nat.le_of_ble_eq_true rfl) rfl dX9_init_79 ?_
  refine wn_aload_n C 0 rfl dX9_init_82 rfl ?_
  refine wn_bipush C (z := 16) dX9_init_83 (by decide) ?_
  refine wn_newI C ga_I (inR_k 16 rfl) rfl (Nat.le_of_ble_eq_true rfl) (Nat.le_of_ble_eq_true rfl) (Nat.le_of_ble_eq_true rfl) dX9_init_85 (fun q10 => ?_)
  replace C := C.more (cells' := 10) (slots' := 1067) (Nat.le_of_ble_eq_true rfl) (Nat.le_of_ble_eq_true rfl)
  refine wn_putR C hin (w' := [(h0, .inr (9, [.ref q1, .ref q2, .ref q3, .ref q4, .ref q5, .null, .null, .ref q6, .ref q7, .ref q8, .ref q9, .ref q10, .null, .null, .int 0, .int 0, .int 0])), (a1, .inr (1, f1)), (q1, zI K 144), (q2, zI K 144), (q3, zI K 144), (q4, zI K 288), (q5, zI K 17), (q6, zI K 144), (q7, zI K 17), (q8, zI K 136), (q9, zI K 17), (q10, zI K 16)]) 0 11 rfl rfl (by decide) okX9 gw_224 rfl rfl rfl rfl rfl (Nat.le_of_ble_eq_true rfl) rfl dX9_init_87 ?_
  refine wn_aload_n C 0 rfl dX9_init_90 rfl ?_
  refine wn_bipush C (z := 16) dX9_init_91 (by decide) ?_
  refine wn_newI C ga_I (inR_k 16 rfl) rfl (Nat.le_of_ble_eq_true rfl) (Nat.le_of_ble_eq_true rfl) (Nat.le_of_ble_eq_true rfl) dX9_init_93 (fun q11 => ?_)
  replace C := C.more (cells' := 11) (slots' := 1083) (Nat.le_of_ble_eq_true rfl) (Nat.le_of_ble_eq_true rfl)
  refine wn_putR C hin (w' := [(h0, .inr (9, [.ref q1, .ref q2, .ref q3, .ref q4, .ref q5, .null, .null, .ref q6, .ref q7, .ref q8, .ref q9, .ref q10, .ref q11, .null, .int 0, .int 0, .int 0])), (a1, .inr (1, f1)), (q1, zI K 144), (q2, zI K 144), (q3, zI K 144), (q4, zI K 288), (q5, zI K 17), (q6, zI K 144), (q7, zI K 17), (q8, zI K 136), (q9, zI K 17), (q10, zI K 16), (q11, zI K 16)]) 0 12 rfl rfl (by decide) okX9 gw_225 rfl rfl rfl rfl rfl (Nat.le_of_ble_eq_true rfl) rfl dX9_init_95 ?_
  refine wn_aload_n C 0 rfl dX9_init_98 rfl ?_
  refine wn_bipush C (z := 16) dX9_init_99 (by decide) ?_
  refine wn_newI C ga_I (inR_k 16 rfl) rfl (Nat.le_of_ble_eq_true rfl) (Nat.le_of_ble_eq_true rfl) (Nat.le_of_ble_eq_true rfl) dX9_init_101 (fun q12 => ?_)
  replace C := C.more (cells' := 12) (slots' := 1099) (Nat.le_of_ble_eq_true rfl) (Nat.le_of_ble_eq_true rfl)
  refine wn_putR C hin (w' := [(h0, .inr (9, [.ref q1, .ref q2, .ref q3, .ref q4, .ref q5, .null, .null, .ref q6, .ref q7, .ref q8, .ref q9, .ref q10, .ref q11, .ref q12, .int 0, .int 0, .int 0])), (a1, .inr (1, f1)), (q1, zI K 144), (q2, zI K 144), (q3, zI K 144), (q4, zI K 288), (q5, zI K 17), (q6, zI K 144), (q7, zI K 17), (q8, zI K 136), (q9, zI K 17), (q10, zI K 16), (q11, zI K 16), (q12, zI K 16)]) 0 13 rfl rfl (by decide) okX9 gw_226 rfl rfl rfl rfl rfl (Nat.le_of_ble_eq_true rfl) rfl dX9_init_103 ?_
  refine wn_aload_n C 0 rfl dX9_init_106 rfl ?_
  refine wn_aload_n C 1 rfl dX9_init_107 rfl ?_
  refine wn_putR C hin (w' := [(h0, .inr (9, [.ref q1, .ref q2, .ref q3, .ref q4, .ref q5, .ref a1, .null, .ref q6, .ref q7, .ref q8, .ref q9, .ref q10, .ref q11, .ref q12, .int 0, .int 0, .int 0])), (a1, .inr (1, f1)), (q1, zI K 144), (q2, zI K 144), (q3, zI K 144), (q4, zI K 288), (q5, zI K 17), (q6, zI K 144), (q7, zI K 17), (q8, zI K 136), (q9, zI K 17), (q10, zI K 16), (q11, zI K 16), (q12, zI K 16)]) 0 5 rfl rfl (by decide) okX9 gw_218 rfl rfl rfl rfl rfl (Nat.le_of_ble_eq_true rfl) rfl dX9_init_108 ?_
  refine wn_aload_n C 0 rfl dX9_init_111 rfl ?_
  refine wn_aload_n C 1 rfl dX9_init_112 rfl ?_
  refine wn_getR C 1 1 rfl rfl (by decide) okX1 gw_159 e1_1 dX9_init_113 ?_
  refine wn_putR C hin (w' := [(h0, .inr (9, [.ref q1, .ref q2, .ref q3, .ref q4, .ref q5, .ref a1, .ref g1_1, .ref q6, .ref q7, .ref q8, .ref q9, .ref q10, .ref q11, .ref q12, .int 0, .int 0, .int 0])), (a1, .inr (1, f1)), (q1, zI K 144), (q2, zI K 144), (q3, zI K 144), (q4, zI K 288), (q5, zI K 17), (q6, zI K 144), (q7, zI K 17), (q8, zI K 136), (q9, zI K 17), (q10, zI K 16), (q11, zI K 16), (q12, zI K 16)]) 0 6 rfl rfl (by decide) okX9 gw_219 rfl rfl rfl rfl rfl (Nat.le_of_ble_eq_true rfl) rfl dX9_init_116 ?_
  exact ret (Nat.le_of_ble_eq_true rfl) (Nat.le_of_ble_eq_true rfl) dX9_init_119 ⟨_, _, _, _, _, _, _, _, _, _, _, _, rfl⟩
theorem dX6_init_0 : decode cX6_init 0 = .ok (.aload_n 0, 1) := by decide +kernel
