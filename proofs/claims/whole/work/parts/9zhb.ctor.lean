theorem dX6_init_1 : decode cX6_init 1 = .ok (.invokespecial 5, 3) := by decide +kernel
theorem dX6_init_4 : decode cX6_init 4 = .ok (.aload_n 0, 1) := by decide +kernel
theorem dX6_init_5 : decode cX6_init 5 = .ok (.iconst 3, 1) := by decide +kernel
theorem dX6_init_6 : decode cX6_init 6 = .ok (.newarray .long, 2) := by decide +kernel
theorem dX6_init_8 : decode cX6_init 8 = .ok (.putfield 11, 3) := by decide +kernel
theorem dX6_init_11 : decode cX6_init 11 = .ok (.aload_n 0, 1) := by decide +kernel
theorem dX6_init_12 : decode cX6_init 12 = .ok (.iconst 3, 1) := by decide +kernel
theorem dX6_init_13 : decode cX6_init 13 = .ok (.newarray .long, 2) := by decide +kernel
theorem dX6_init_15 : decode cX6_init 15 = .ok (.putfield 15, 3) := by decide +kernel
theorem dX6_init_18 : decode cX6_init 18 = .ok (.aload_n 0, 1) := by decide +kernel
theorem dX6_init_19 : decode cX6_init 19 = .ok (.aload_n 1, 1) := by decide +kernel
theorem dX6_init_20 : decode cX6_init 20 = .ok (.putfield 18, 3) := by decide +kernel
theorem dX6_init_23 : decode cX6_init 23 = .ok (.aload_n 0, 1) := by decide +kernel
theorem dX6_init_24 : decode cX6_init 24 = .ok (.aload_n 2, 1) := by decide +kernel
theorem dX6_init_25 : decode cX6_init 25 = .ok (.putfield 22, 3) := by decide +kernel
theorem dX6_init_28 : decode cX6_init 28 = .ok (.aload_n 0, 1) := by decide +kernel
theorem dX6_init_29 : decode cX6_init 29 = .ok (.aload_n 1, 1) := by decide +kernel
theorem dX6_init_30 : decode cX6_init 30 = .ok (.getfield 26, 3) := by decide +kernel
theorem dX6_init_33 : decode cX6_init 33 = .ok (.putfield 32, 3) := by decide +kernel
theorem dX6_init_36 : decode cX6_init 36 = .ok (.return_, 1) := by decide +kernel
set_option maxRecDepth 100000 in
set_option maxHeartbeats 4000000 in
theorem k_X6 (l : Launch) (K : wK) (h0 : Nat) (a1 : Nat) (f1 : List Value) (g1_0 : Nat) (a2 : Nat) (e1_0 : f1[0]? = some (.ref g1_0)) : kV l yX6_init (Cond.code yX6_init cX6_init 3 none :: GT) ({ frames := 2, cells := 2, slots := 6, locals := 120 } : Room) 2 6 [.ref h0, .ref a1, .ref a2] K [(h0, .inr (6, [.null, .null, .null, .null, .null])), (a1, .inr (1, f1))] (fun u => ∃ q1 q2 : Nat, u = [(h0, .inr (6, [.ref a1, .ref a2, .ref g1_0, .ref q1, .ref q2])), (a1, .inr (1, f1)), (q1, zJ K 3), (q2, zJ K 3)]) := by
  refine kV_of (lv0 := [(0, .ref h0), (1, .ref a1), (2, .ref a2)]) (by decide) (Nat.le_of_ble_eq_true rfl) rfl rfl ?_
  intro p e s m args below meth c Q A C hin N ret
  replace C : Cx p ({ frames := 2, cells := 2, slots := 6, locals := 120 } : Room) m c 0 0 cX6_init 3 s args RX6 K A := C
  refine wn_aload_n C 0 rfl dX6_init_0 rfl ?_
  refine wn_obj C (gt_2 30 (by decide +kernel) rfl) ga_oi ga_oc dX6_init_1 (Nat.le_of_ble_eq_true rfl) (Nat.le_of_ble_eq_true rfl) ?_
  refine wn_aload_n C 0 rfl dX6_init_4 rfl ?_
  refine wn_iconst C (z := 3) dX6_init_5 rfl ?_
  refine wn_newJ C ga_J (inR_k 3 rfl) rfl (Nat.le_of_ble_eq_true rfl) (Nat.le_of_ble_eq_true rfl) (Nat.le_of_ble_eq_true rfl) dX6_init_6 (fun q1 => ?_)
  replace C := C.more (cells' := 1) (slots' := 3) (Nat.le_of_ble_eq_true rfl) (Nat.le_of_ble_eq_true rfl)
  refine wn_putR C hin (w' := [(h0, .inr (6, [.null, .null, .null, .ref q1, .null])), (a1, .inr (1, f1)), (q1, zJ K 3)]) 0 3 rfl rfl (by decide) okX6 gw_275 rfl rfl rfl rfl rfl (Nat.le_of_ble_eq_true rfl) rfl dX6_init_8 ?_
  refine wn_aload_n C 0 rfl dX6_init_11 rfl ?_
  refine wn_iconst C (z := 3) dX6_init_12 rfl ?_
  refine wn_newJ C ga_J (inR_k 3 rfl) rfl (Nat.le_of_ble_eq_true rfl) (Nat.le_of_ble_eq_true rfl) (Nat.le_of_ble_eq_true rfl) dX6_init_13 (fun q2 => ?_)
  replace C := C.more (cells' := 2) (slots' := 6) (Nat.le_of_ble_eq_true rfl) (Nat.le_of_ble_eq_true rfl)
  refine wn_putR C hin (w' := [(h0, .inr (6, [.null, .null, .null, .ref q1, .ref q2])), (a1, .inr (1, f1)), (q1, zJ K 3), (q2, zJ K 3)]) 0 4 rfl rfl (by decide) okX6 gw_276 rfl rfl rfl rfl rfl (Nat.le_of_ble_eq_true rfl) rfl dX6_init_15 ?_
  refine wn_aload_n C 0 rfl dX6_init_18 rfl ?_
  refine wn_aload_n C 1 rfl dX6_init_19 rfl ?_
  refine wn_putR C hin (w' := [(h0, .inr (6, [.ref a1, .null, .null, .ref q1, .ref q2])), (a1, .inr (1, f1)), (q1, zJ K 3), (q2, zJ K 3)]) 0 0 rfl rfl (by decide) okX6 gw_271 rfl rfl rfl rfl rfl (Nat.le_of_ble_eq_true rfl) rfl dX6_init_20 ?_
  refine wn_aload_n C 0 rfl dX6_init_23 rfl ?_
  refine wn_aload_n C 2 rfl dX6_init_24 rfl ?_
  refine wn_putR C hin (w' := [(h0, .inr (6, [.ref a1, .ref a2, .null, .ref q1, .ref q2])), (a1, .inr (1, f1)), (q1, zJ K 3), (q2, zJ K 3)]) 0 1 rfl rfl (by decide) okX6 gw_273 rfl rfl rfl rfl rfl (Nat.le_of_ble_eq_true rfl) rfl dX6_init_25 ?_
  refine wn_aload_n C 0 rfl dX6_init_28 rfl ?_
  refine wn_aload_n C 1 rfl dX6_init_29 rfl ?_
  refine wn_getR C 1 0 rfl rfl (by decide) okX1 gw_155 e1_0 dX6_init_30 ?_
  refine wn_putR C hin (w' := [(h0, .inr (6, [.ref a1, .ref a2, .ref g1_0, .ref q1, .ref q2])), (a1, .inr (1, f1)), (q1, zJ K 3), (q2, zJ K 3)]) 0 2 rfl rfl (by decide) okX6 gw_274 rfl rfl rfl rfl rfl (Nat.le_of_ble_eq_true rfl) rfl dX6_init_33 ?_
  exact ret (Nat.le_of_ble_eq_true rfl) (Nat.le_of_ble_eq_true rfl) dX6_init_36 ⟨_, _, rfl⟩
theorem dX7_init_0 : decode cX7_init 0 = .ok (.aload_n 0, 1) := by decide +kernel
theorem dX7_init_1 : decode cX7_init 1 = .ok (.invokespecial 5, 3) := by decide +kernel
theorem dX7_init_4 : decode cX7_init 4 = .ok (.aload_n 0, 1) := by decide +kernel
theorem dX7_init_5 : decode cX7_init 5 = .ok (.sipush 144, 3) := by decide +kernel
theorem dX7_init_8 : decode cX7_init 8 = .ok (.newarray .int, 2) := by decide +kernel
theorem dX7_init_10 : decode cX7_init 10 = .ok (.putfield 11, 3) := by decide +kernel
theorem dX7_init_13 : decode cX7_init 13 = .ok (.aload_n 0, 1) := by decide +kernel
theorem dX7_init_14 : decode cX7_init 14 = .ok (.sipush 144, 3) := by decide +kernel
theorem dX7_init_17 : decode cX7_init 17 = .ok (.newarray .int, 2) := by decide +kernel
theorem dX7_init_19 : decode cX7_init 19 = .ok (.putfield 17, 3) := by decide +kernel
theorem dX7_init_22 : decode cX7_init 22 = .ok (.aload_n 0, 1) := by decide +kernel
theorem dX7_init_23 : decode cX7_init 23 = .ok (.sipush 144, 3) := by decide +kernel
theorem dX7_init_26 : decode cX7_init 26 = .ok (.newarray .int, 2) := by decide +kernel
theorem dX7_init_28 : decode cX7_init 28 = .ok (.putfield 20, 3) := by decide +kernel
theorem dX7_init_31 : decode cX7_init 31 = .ok (.aload_n 0, 1) := by decide +kernel
theorem dX7_init_32 : decode cX7_init 32 = .ok (.sipush 144, 3) := by decide +kernel
theorem dX7_init_35 : decode cX7_init 35 = .ok (.newarray .int, 2) := by decide +kernel
theorem dX7_init_37 : decode cX7_init 37 = .ok (.putfield 23, 3) := by decide +kernel
theorem dX7_init_40 : decode cX7_init 40 = .ok (.aload_n 0, 1) := by decide +kernel
theorem dX7_init_41 : decode cX7_init 41 = .ok (.sipush 144, 3) := by decide +kernel
theorem dX7_init_44 : decode cX7_init 44 = .ok (.newarray .boolean, 2) := by decide +kernel
theorem dX7_init_46 : decode cX7_init 46 = .ok (.putfield 26, 3) := by decide +kernel
theorem dX7_init_49 : decode cX7_init 49 = .ok (.aload_n 0, 1) := by decide +kernel
theorem dX7_init_50 : decode cX7_init 50 = .ok (.sipush 144, 3) := by decide +kernel
theorem dX7_init_53 : decode cX7_init 53 = .ok (.newarray .int, 2) := by decide +kernel
theorem dX7_init_55 : decode cX7_init 55 = .ok (.putfield 30, 3) := by decide +kernel
theorem dX7_init_58 : decode cX7_init 58 = .ok (.aload_n 0, 1) := by decide +kernel
theorem dX7_init_59 : decode cX7_init 59 = .ok (.sipush 144, 3) := by decide +kernel
theorem dX7_init_62 : decode cX7_init 62 = .ok (.newarray .int, 2) := by decide +kernel
theorem dX7_init_64 : decode cX7_init 64 = .ok (.putfield 33, 3) := by decide +kernel
theorem dX7_init_67 : decode cX7_init 67 = .ok (.aload_n 0, 1) := by decide +kernel
theorem dX7_init_68 : decode cX7_init 68 = .ok (.aload_n 1, 1) := by decide +kernel
theorem dX7_init_69 : decode cX7_init 69 = .ok (.putfield 36, 3) := by decide +kernel
theorem dX7_init_72 : decode cX7_init 72 = .ok (.aload_n 0, 1) := by decide +kernel
theorem dX7_init_73 : decode cX7_init 73 = .ok (.aload_n 1, 1) := by decide +kernel
theorem dX7_init_74 : decode cX7_init 74 = .ok (.getfield 40, 3) := by decide +kernel
theorem dX7_init_77 : decode cX7_init 77 = .ok (.putfield 46, 3) := by decide +kernel
theorem dX7_init_80 : decode cX7_init 80 = .ok (.aload_n 0, 1) := by decide +kernel
theorem dX7_init_81 : decode cX7_init 81 = .ok (.aload_n 2, 1) := by decide +kernel
theorem dX7_init_82 : decode cX7_init 82 = .ok (.putfield 47, 3) := by decide +kernel
theorem dX7_init_85 : decode cX7_init 85 = .ok (.return_, 1) := by decide +kernel
set_option maxRecDepth 100000 in
set_option maxHeartbeats 4000000 in
theorem k_X7 (l : Launch) (K : wK) (h0 : Nat) (a1 : Nat) (f1 : List Value) (g1_0 : Nat) (a2 : Nat) (e1_0 : f1[0]? = some (.ref g1_0)) : kV l yX7_init (Cond.code yX7_init cX7_init 3 none :: GT) ({ frames := 2, cells := 7, slots := 1008, locals := 120 } : Room) 7 1008 [.ref h0, .ref a1, .ref a2] K [(h0, .inr (7, [.null, .null, .null, .null, .null, .null, .null, .null, .int 0, .null, .null, .int 0])), (a1, .inr (2, f1))] (fun u => ∃ q1 q2 q3 q4 q5 q6 q7 : Nat, u = [(h0, .inr (7, [.ref q1, .ref a1, .ref g1_0, .ref a2, .ref q2, .ref q3, .ref q4, .ref q5, .int 0, .ref q6, .ref q7, .int 0])), (a1, .inr (2, f1)), (q1, zI K 144), (q2, zI K 144), (q3, zI K 144), (q4, zI K 144), (q5, zZ K 144), (q6, zI K 144), (q7, zI K 144)]) := by
  refine kV_of (lv0 := [(0, .ref h0), (1, .ref a1), (2, .ref a2)]) (by decide) (Nat.le_of_ble_eq_true rfl) rfl rfl ?_
  intro p e s m args below meth c Q A C hin N ret
  replace C : Cx p ({ frames := 2, cells := 7, slots := 1008, locals := 120 } : Room) m c 0 0 cX7_init 3 s args RX7 K A := C
  refine wn_aload_n C 0 rfl dX7_init_0 rfl ?_
  refine wn_obj C (gt_2 54 (by decide +kernel) rfl) ga_oi ga_oc dX7_init_1 (Nat.le_of_ble_eq_true rfl) (Nat.le_of_ble_eq_true rfl) ?_
  refine wn_aload_n C 0 rfl dX7_init_4 rfl ?_
  refine wn_sipush C (z := 144) dX7_init_5 (by decide) ?_
  refine wn_newI C ga_I (inR_k 144 rfl) rfl (Nat.le_of_ble_eq_true rfl) (Nat.le_of_ble_eq_true rfl) (Nat.le_of_ble_eq_true rfl) dX7_init_8 (fun q1 => ?_)
  replace C := C.more (cells' := 1) (slots' := 144) (Nat.le_of_ble_eq_true rfl) (Nat.le_of_ble_eq_true rfl)
  refine wn_putR C hin (w' := [(h0, .inr (7, [.ref q1, .null, .null, .null, .null, .null, .null, .null, .int 0, .null, .null, .int 0])), (a1, .inr (2, f1)), (q1, zI K 144)]) 0 0 rfl rfl (by decide) okX7 gw_295 rfl rfl rfl rfl rfl (Nat.le_of_ble_eq_true rfl) rfl dX7_init_10 ?_
  refine wn_aload_n C 0 rfl dX7_init_13 rfl ?_
  refine wn_sipush C (z := 144) dX7_init_14 (by decide) ?_
  refine wn_newI C ga_I (inR_k 144 rfl) rfl (Nat.le_of_ble_eq_true rfl) (Nat.le_of_ble_eq_true rfl) (Nat.le_of_ble_eq_true rfl) dX7_init_17 (fun q2 => ?_)
  replace C := C.more (cells' := 2) (slots' := 288) (Nat.le_of_ble_eq_true rfl) (Nat.le_of_ble_eq_true rfl)
  refine wn_putR C hin (w' := [(h0, .inr (7, [.ref q1, .null, .null, .null, .ref q2, .null, .null, .null, .int 0, .null, .null, .int 0])), (a1, .inr (2, f1)), (q1, zI K 144), (q2, zI K 144)]) 0 4 rfl rfl (by decide) okX7 gw_302 rfl rfl rfl rfl rfl (Nat.le_of_ble_eq_true rfl) rfl dX7_init_19 ?_
  refine wn_aload_n C 0 rfl dX7_init_22 rfl ?_
  refine wn_sipush C (z := 144) dX7_init_23 (by decide) ?_
  refine wn_newI C ga_I (inR_k 144 rfl) rfl (Nat.le_of_ble_eq_true rfl) (Nat.le_of_ble_eq_true rfl) (Nat.le_of_ble_eq_true rfl) dX7_init_26 (fun q3 => ?_)
  replace C := C.more (cells' := 3) (slots' := 432) (Nat.le_of_ble_eq_true rfl) (Nat.le_of_ble_eq_true rfl)
  refine wn_putR C hin (w' := [(h0, .inr (7, [.ref q1, .null, .null, .null, .ref q2, .ref q3, .null, .null, .int 0, .null, .null, .int 0])), (a1, .inr (2, f1)), (q1, zI K 144), (q2, zI K 144), (q3, zI K 144)]) 0 5 rfl rfl (by decide) okX7 gw_303 rfl rfl rfl rfl rfl (Nat.le_of_ble_eq_true rfl) rfl dX7_init_28 ?_
  refine wn_aload_n C 0 rfl dX7_init_31 rfl ?_
  refine wn_sipush C (z := 144) dX7_init_32 (by decide) ?_
  refine wn_newI C ga_I (inR_k 144 rfl) rfl (Nat.le_of_ble_eq_true rfl) (Nat.le_of_ble_eq_true rfl) (Nat.le_of_ble_eq_true rfl) dX7_init_35 (fun q4 => ?_)
  replace C := C.more (cells' := 4) (slots' := 576) (Nat.le_of_ble_eq_true rfl) (Nat.le_of_ble_eq_true rfl)
  refine wn_putR C hin (w' := [(h0, .inr (7, [.ref q1, .null, .null, .null, .ref q2, .ref q3, .ref q4, .null, .int 0, .null, .null, .int 0])), (a1, .inr (2, f1)), (q1, zI K 144), (q2, zI K 144), (q3, zI K 144), (q4, zI K 144)]) 0 6 rfl rfl (by decide) okX7 gw_304 rfl rfl rfl rfl rfl (Nat.le_of_ble_eq_true rfl) rfl dX7_init_37 ?_
  refine wn_aload_n C 0 rfl dX7_init_40 rfl ?_
  refine wn_sipush C (z := 144) dX7_init_41 (by decide) ?_
  refine wn_newZ C ga_Z (inR_k 144 rfl) rfl (Nat.le_of_ble_eq_true rfl) (Nat.le_of_ble_eq_true rfl) (Nat.le_of_ble_eq_true rfl) dX7_init_44 (fun q5 => ?_)
  replace C := C.more (cells' := 5) (slots' := 720) (Nat.le_of_ble_eq_true rfl) (Nat.le_of_ble_eq_true rfl)
  refine wn_putR C hin (w' := [(h0, .inr (7, [.ref q1, .null, .null, .null, .ref q2, .ref q3, .ref q4, .ref q5, .int 0, .null, .null, .int 0])), (a1, .inr (2, f1)), (q1, zI K 144), (q2, zI K 144), (q3, zI K 144), (q4, zI K 144), (q5, zZ K 144)]) 0 7 rfl rfl (by decide) okX7 gw_305 rfl rfl rfl rfl rfl (Nat.le_of_ble_eq_true rfl) rfl dX7_init_46 ?_
  refine wn_aload_n C 0 rfl dX7_init_49 rfl ?_
  refine wn_sipush C (z := 144) dX7_init_50 (by decide) ?_
  refine wn_newI C ga_I (inR_k 144 rfl) rfl (Nat.le_of_ble_eq_true rfl) (Nat.le_of_ble_eq_true rfl) (Nat.le_of_ble_eq_true rfl) dX7_init_53 (fun q6 => ?_)
  replace C := C.more (cells' := 6) (slots' := 864) (Nat.le_of_ble_eq_true rfl) (Nat.le_of_ble_eq_true rfl)
  refine wn_putR C hin (w' := [(h0, .inr (7, [.ref q1, .null, .null, .null, .ref q2, .ref q3, .ref q4, .ref q5, .int 0, .ref q6, .null, .int 0])), (a1, .inr (2, f1)), (q1, zI K 144), (q2, zI K 144), (q3, zI K 144), (q4, zI K 144), (q5, zZ K 144), (q6, zI K 144)]) 0 9 rfl rfl (by decide) okX7 gw_307 rfl rfl rfl rfl rfl (Nat.le_of_ble_eq_true rfl) rfl dX7_init_55 ?_
  refine wn_aload_n C 0 rfl dX7_init_58 rfl ?_
  refine wn_sipush C (z := 144) dX7_init_59 (by decide) ?_
  refine wn_newI C ga_I (inR_k 144 rfl) rfl (Nat.le_of_ble_eq_true rfl) (Nat.le_of_ble_eq_true rfl) (Nat.le_of_ble_eq_true rfl) dX7_init_62 (fun q7 => ?_)
  replace C := C.more (cells' := 7) (slots' := 1008) (Nat.le_of_ble_eq_true rfl) (Nat.le_of_ble_eq_true rfl)
  refine wn_putR C hin (w' := [(h0, .inr (7, [.ref q1, .null, .null, .null, .ref q2, .ref q3, .ref q4, .ref q5, .int 0, .ref q6, .ref q7, .int 0])), (a1, .inr (2, f1)), (q1, zI K 144), (q2, zI K 144), (q3, zI K 144), (q4, zI K 144), (q5, zZ K 144), (q6, zI K 144), (q7, zI K 144)]) 0 10 rfl rfl (by decide) okX7 gw_308 rfl rfl rfl rfl rfl (Nat.le_of_ble_eq_true rfl) rfl dX7_init_64 ?_
  refine wn_aload_n C 0 rfl dX7_init_67 rfl ?_
  refine wn_aload_n C 1 rfl dX7_init_68 rfl ?_
  refine wn_putR C hin (w' := [(h0, .inr (7, [.ref q1, .ref a1, .null, .null, .ref q2, .ref q3, .ref q4, .ref q5, .int 0, .ref q6, .ref q7, .int 0])), (a1, .inr (2, f1)), (q1, zI K 144), (q2, zI K 144), (q3, zI K 144), (q4, zI K 144), (q5, zZ K 144), (q6, zI K 144), (q7, zI K 144)]) 0 1 rfl rfl (by decide) okX7 gw_299 rfl rfl rfl rfl rfl (Nat.le_of_ble_eq_true rfl) rfl dX7_init_69 ?_
  refine wn_aload_n C 0 rfl dX7_init_72 rfl ?_
  refine wn_aload_n C 1 rfl dX7_init_73 rfl ?_
  refine wn_getR C 1 0 rfl rfl (by decide) okX2 gw_85 e1_0 dX7_init_74 ?_
  refine wn_putR C hin (w' := [(h0, .inr (7, [.ref q1, .ref a1, .ref g1_0, .null, .ref q2, .ref q3, .ref q4, .ref q5, .int 0, .ref q6, .ref q7, .int 0])), (a1, .inr (2, f1)), (q1, zI K 144), (q2, zI K 144), (q3, zI K 144), (q4, zI K 144), (q5, zZ K 144), (q6, zI K 144), (q7, zI K 144)]) 0 2 rfl rfl (by decide) okX7 gw_300 rfl rfl rfl rfl rfl (Nat.le_of_ble_eq_true rfl) rfl dX7_init_77 ?_
  refine wn_aload_n C 0 rfl dX7_init_80 rfl ?_
  refine wn_aload_n C 2 rfl dX7_init_81 rfl ?_
  refine wn_putR C hin (w' := [(h0, .inr (7, [.ref q1, .ref a1, .ref g1_0, .ref a2, .ref q2, .ref q3, .ref q4, .ref q5, .int 0, .ref q6, .ref q7, .int 0])), (a1, .inr (2, f1)), (q1, zI K 144), (q2, zI K 144), (q3, zI K 144), (q4, zI K 144), (q5, zZ K 144), (q6, zI K 144), (q7, zI K 144)]) 0 3 rfl rfl (by decide) okX7 gw_301 rfl rfl rfl rfl rfl (Nat.le_of_ble_eq_true rfl) rfl dX7_init_82 ?_
  exact ret (Nat.le_of_ble_eq_true rfl) (Nat.le_of_ble_eq_true rfl) dX7_init_85 ⟨_, _, _, _, _, _, _, rfl⟩
theorem dX0_init_0 : decode cX0_init 0 = .ok (.aload_n 0, 1) := by decide +kernel
theorem dX0_init_1 : decode cX0_init 1 = .ok (.invokespecial 3, 3) := by decide +kernel
theorem dX0_init_4 : decode cX0_init 4 = .ok (.aload_n 0, 1) := by decide +kernel
theorem dX0_init_5 : decode cX0_init 5 = .ok (.sipush 144, 3) := by decide +kernel
theorem dX0_init_8 : decode cX0_init 8 = .ok (.newarray .int, 2) := by decide +kernel
theorem dX0_init_10 : decode cX0_init 10 = .ok (.putfield 9, 3) := by decide +kernel
theorem dX0_init_13 : decode cX0_init 13 = .ok (.aload_n 0, 1) := by decide +kernel
theorem dX0_init_14 : decode cX0_init 14 = .ok (.aload_n 1, 1) := by decide +kernel
theorem dX0_init_15 : decode cX0_init 15 = .ok (.putfield 15, 3) := by decide +kernel
theorem dX0_init_18 : decode cX0_init 18 = .ok (.aload_n 0, 1) := by decide +kernel
theorem dX0_init_19 : decode cX0_init 19 = .ok (.aload_n 2, 1) := by decide +kernel
theorem dX0_init_20 : decode cX0_init 20 = .ok (.putfield 19, 3) := by decide +kernel
theorem dX0_init_23 : decode cX0_init 23 = .ok (.aload_n 0, 1) := by decide +kernel
theorem dX0_init_24 : decode cX0_init 24 = .ok (.aload_n 1, 1) := by decide +kernel
theorem dX0_init_25 : decode cX0_init 25 = .ok (.getfield 23, 3) := by decide +kernel
theorem dX0_init_28 : decode cX0_init 28 = .ok (.putfield 29, 3) := by decide +kernel
theorem dX0_init_31 : decode cX0_init 31 = .ok (.aload_n 0, 1) := by decide +kernel
theorem dX0_init_32 : decode cX0_init 32 = .ok (.aload_n 2, 1) := by decide +kernel
theorem dX0_init_33 : decode cX0_init 33 = .ok (.getfield 30, 3) := by decide +kernel
theorem dX0_init_36 : decode cX0_init 36 = .ok (.putfield 36, 3) := by decide +kernel
theorem dX0_init_39 : decode cX0_init 39 = .ok (.return_, 1) := by decide +kernel
set_option maxRecDepth 100000 in
set_option maxHeartbeats 4000000 in
theorem k_X0 (l : Launch) (K : wK) (h0 : Nat) (a1 : Nat) (f1 : List Value) (g1_1 : Nat) (a2 : Nat) (f2 : List Value) (g2_0 : Nat) (e1_1 : f1[1]? = some (.ref g1_1)) (e2_0 : f2[0]? = some (.ref g2_0)) : kV l yX0_init (Cond.code yX0_init cX0_init 3 none :: GT) ({ frames := 2, cells := 1, slots := 144, locals := 120 } : Room) 1 144 [.ref h0, .ref a1, .ref a2] K [(h0, .inr (0, [.int 0, .int 0, .int 0, .int 0, .null, .int 0, .null, .null, .null, .null])), (a1, .inr (7, f1)), (a2, .inr (6, f2))] (fun u => ∃ q1 : Nat, u = [(h0, .inr (0, [.int 0, .int 0, .int 0, .int 0, .ref q1, .int 0, .ref a1, .ref a2, .ref g1_1, .ref g2_0])), (a1, .inr (7, f1)), (a2, .inr (6, f2)), (q1, zI K 144)]) := by
  refine kV_of (lv0 := [(0, .ref h0), (1, .ref a1), (2, .ref a2)]) (by decide) (Nat.le_of_ble_eq_true rfl) rfl rfl ?_
  intro p e s m args below meth c Q A C hin N ret
  replace C : Cx p ({ frames := 2, cells := 1, slots := 144, locals := 120 } : Room) m c 0 0 cX0_init 3 s args RX0 K A := C
  refine wn_aload_n C 0 rfl dX0_init_0 rfl ?_
  refine wn_obj C (gt_2 100 (by decide +kernel) rfl) ga_oi ga_oc dX0_init_1 (Nat.le_of_ble_eq_true rfl) (Nat.le_of_ble_eq_true rfl) ?_
  refine wn_aload_n C 0 rfl dX0_init_4 rfl ?_
  refine wn_sipush C (z := 144) dX0_init_5 (by decide) ?_
  refine wn_newI C ga_I (inR_k 144 rfl) rfl (Nat.le_of_ble_eq_true rfl) (Nat.le_of_ble_eq_true rfl) (Nat.le_of_ble_eq_true rfl) dX0_init_8 (fun q1 => ?_)
  replace C := C.more (cells' := 1) (slots' := 144) (Nat.le_of_ble_eq_true rfl) (Nat.le_of_ble_eq_true rfl)
  refine wn_putR C hin (w' := [(h0, .inr (0, [.int 0, .int 0, .int 0, .int 0, .ref q1, .int 0, .null, .null, .null, .null])), (a1, .inr (7, f1)), (a2, .inr (6, f2)), (q1, zI K 144)]) 0 4 rfl rfl (by decide) okX0 gw_349 rfl rfl rfl rfl rfl (Nat.le_of_ble_eq_true rfl) rfl dX0_init_10 ?_
  refine wn_aload_n C 0 rfl dX0_init_13 rfl ?_
  refine wn_aload_n C 1 rfl dX0_init_14 rfl ?_
  refine wn_putR C hin (w' := [(h0, .inr (0, [.int 0, .int 0, .int 0, .int 0, .ref q1, .int 0, .ref a1, .null, .null, .null])), (a1, .inr (7, f1)), (a2, .inr (6, f2)), (q1, zI K 144)]) 0 6 rfl rfl (by decide) okX0 gw_353 rfl rfl rfl rfl rfl (Nat.le_of_ble_eq_true rfl) rfl dX0_init_15 ?_
  refine wn_aload_n C 0 rfl dX0_init_18 rfl ?_
  refine wn_aload_n C 2 rfl dX0_init_19 rfl ?_
  refine wn_putR C hin (w' := [(h0, .inr (0, [.int 0, .int 0, .int 0, .int 0, .ref q1, .int 0, .ref a1, .ref a2, .null, .null])), (a1, .inr (7, f1)), (a2, .inr (6, f2)), (q1, zI K 144)]) 0 7 rfl rfl (by decide) okX0 gw_354 rfl rfl rfl rfl rfl (Nat.le_of_ble_eq_true rfl) rfl dX0_init_20 ?_
  refine wn_aload_n C 0 rfl dX0_init_23 rfl ?_
  refine wn_aload_n C 1 rfl dX0_init_24 rfl ?_
  refine wn_getR C 1 1 rfl rfl (by decide) okX7 gw_298 e1_1 dX0_init_25 ?_
  refine wn_putR C hin (w' := [(h0, .inr (0, [.int 0, .int 0, .int 0, .int 0, .ref q1, .int 0, .ref a1, .ref a2, .ref g1_1, .null])), (a1, .inr (7, f1)), (a2, .inr (6, f2)), (q1, zI K 144)]) 0 8 rfl rfl (by decide) okX0 gw_355 rfl rfl rfl rfl rfl (Nat.le_of_ble_eq_true rfl) rfl dX0_init_28 ?_
  refine wn_aload_n C 0 rfl dX0_init_31 rfl ?_
  refine wn_aload_n C 2 rfl dX0_init_32 rfl ?_
  refine wn_getR C 2 0 rfl rfl (by decide) okX6 gw_272 e2_0 dX0_init_33 ?_
  refine wn_putR C hin (w' := [(h0, .inr (0, [.int 0, .int 0, .int 0, .int 0, .ref q1, .int 0, .ref a1, .ref a2, .ref g1_1, .ref g2_0])), (a1, .inr (7, f1)), (a2, .inr (6, f2)), (q1, zI K 144)]) 0 9 rfl rfl (by decide) okX0 gw_356 rfl rfl rfl rfl rfl (Nat.le_of_ble_eq_true rfl) rfl dX0_init_36 ?_
  exact ret (Nat.le_of_ble_eq_true rfl) (Nat.le_of_ble_eq_true rfl) dX0_init_39 ⟨_, rfl⟩
theorem dX8_init_0 : decode cX8_init 0 = .ok (.aload_n 0, 1) := by decide +kernel
theorem dX8_init_1 : decode cX8_init 1 = .ok (.invokespecial 3, 3) := by decide +kernel
theorem dX8_init_4 : decode cX8_init 4 = .ok (.aload_n 0, 1) := by decide +kernel
theorem dX8_init_5 : decode cX8_init 5 = .ok (.sipush 870, 3) := by decide +kernel
theorem dX8_init_8 : decode cX8_init 8 = .ok (.newarray .long, 2) := by decide +kernel
theorem dX8_init_10 : decode cX8_init 10 = .ok (.putfield 11, 3) := by decide +kernel
theorem dX8_init_13 : decode cX8_init 13 = .ok (.aload_n 0, 1) := by decide +kernel
theorem dX8_init_14 : decode cX8_init 14 = .ok (.bipush 6, 2) := by decide +kernel
theorem dX8_init_16 : decode cX8_init 16 = .ok (.newarray .long, 2) := by decide +kernel
theorem dX8_init_18 : decode cX8_init 18 = .ok (.putfield 17, 3) := by decide +kernel
theorem dX8_init_21 : decode cX8_init 21 = .ok (.return_, 1) := by decide +kernel
set_option maxRecDepth 100000 in
set_option maxHeartbeats 4000000 in
theorem k_X8 (l : Launch) (K : wK) (h0 : Nat)  : kV l yX8_init (Cond.code yX8_init cX8_init 1 none :: GT) ({ frames := 2, cells := 2, slots := 876, locals := 120 } : Room) 2 876 [.ref h0] K [(h0, .inr (8, [.null, .int 0, .int 0, .null]))] (fun u => ∃ q1 q2 : Nat, u = [(h0, .inr (8, [.ref q1, .int 0, .int 0, .ref q2])), (q1, zJ K 870), (q2, zJ K 6)]) := by
  refine kV_of (lv0 := [(0, .ref h0)]) (by decide) (Nat.le_of_ble_eq_true rfl) rfl rfl ?_
  intro p e s m args below meth c Q A C hin N ret
  replace C : Cx p ({ frames := 2, cells := 2, slots := 876, locals := 120 } : Room) m c 0 0 cX8_init 1 s args RX8 K A := C
  refine wn_aload_n C 0 rfl dX8_init_0 rfl ?_
  refine wn_obj C (gt_2 149 (by decide +kernel) rfl) ga_oi ga_oc dX8_init_1 (Nat.le_of_ble_eq_true rfl) (Nat.le_of_ble_eq_true rfl) ?_
  refine wn_aload_n C 0 rfl dX8_init_4 rfl ?_
  refine wn_sipush C (z := 870) dX8_init_5 (by decide) ?_
  refine wn_newJ C ga_J (inR_k 870 rfl) rfl (Nat.le_of_ble_eq_true rfl) (Nat.le_of_ble_eq_true rfl) (Nat.le_of_ble_eq_true rfl) dX8_init_8 (fun q1 => ?_)
  replace C := C.more (cells' := 1) (slots' := 870) (Nat.le_of_ble_eq_true rfl) (Nat.le_of_ble_eq_true rfl)
  refine wn_putR C hin (w' := [(h0, .inr (8, [.ref q1, .int 0, .int 0, .null])), (q1, zJ K 870)]) 0 0 rfl rfl (by decide) okX8 gw_390 rfl rfl rfl rfl rfl (Nat.le_of_ble_eq_true rfl) rfl dX8_init_10 ?_
  refine wn_aload_n C 0 rfl dX8_init_13 rfl ?_
  refine wn_bipush C (z := 6) dX8_init_14 (by decide) ?_
  refine wn_newJ C ga_J (inR_k 6 rfl) rfl (Nat.le_of_ble_eq_true rfl) (Nat.le_of_ble_eq_true rfl) (Nat.le_of_ble_eq_true rfl) dX8_init_16 (fun q2 => ?_)
  replace C := C.more (cells' := 2) (slots' := 876) (Nat.le_of_ble_eq_true rfl) (Nat.le_of_ble_eq_true rfl)
  refine wn_putR C hin (w' := [(h0, .inr (8, [.ref q1, .int 0, .int 0, .ref q2])), (q1, zJ K 870), (q2, zJ K 6)]) 0 3 rfl rfl (by decide) okX8 gw_396 rfl rfl rfl rfl rfl (Nat.le_of_ble_eq_true rfl) rfl dX8_init_18 ?_
  exact ret (Nat.le_of_ble_eq_true rfl) (Nat.le_of_ble_eq_true rfl) dX8_init_21 ⟨_, _, rfl⟩
theorem dX5_init_0 : decode cX5_init 0 = .ok (.aload_n 0, 1) := by decide +kernel
theorem dX5_init_1 : decode cX5_init 1 = .ok (.invokespecial 3, 3) := by decide +kernel
theorem dX5_init_4 : decode cX5_init 4 = .ok (.aload_n 0, 1) := by decide +kernel
theorem dX5_init_5 : decode cX5_init 5 = .ok (.bipush 6, 2) := by decide +kernel
theorem dX5_init_7 : decode cX5_init 7 = .ok (.newarray .long, 2) := by decide +kernel
theorem dX5_init_9 : decode cX5_init 9 = .ok (.putfield 11, 3) := by decide +kernel
theorem dX5_init_12 : decode cX5_init 12 = .ok (.aload_n 0, 1) := by decide +kernel
theorem dX5_init_13 : decode cX5_init 13 = .ok (.bipush 6, 2) := by decide +kernel
theorem dX5_init_15 : decode cX5_init 15 = .ok (.newarray .long, 2) := by decide +kernel
theorem dX5_init_17 : decode cX5_init 17 = .ok (.putfield 17, 3) := by decide +kernel
theorem dX5_init_20 : decode cX5_init 20 = .ok (.aload_n 0, 1) := by decide +kernel
theorem dX5_init_21 : decode cX5_init 21 = .ok (.new 20, 3) := by decide +kernel
theorem dX5_init_24 : decode cX5_init 24 = .ok (.dup, 1) := by decide +kernel
theorem dX5_init_25 : decode cX5_init 25 = .ok (.invokespecial 22, 3) := by decide +kernel
theorem dX5_init_28 : decode cX5_init 28 = .ok (.putfield 23, 3) := by decide +kernel
theorem dX5_init_31 : decode cX5_init 31 = .ok (.aload_n 0, 1) := by decide +kernel
theorem dX5_init_32 : decode cX5_init 32 = .ok (.new 20, 3) := by decide +kernel
theorem dX5_init_35 : decode cX5_init 35 = .ok (.dup, 1) := by decide +kernel
theorem dX5_init_36 : decode cX5_init 36 = .ok (.invokespecial 22, 3) := by decide +kernel
theorem dX5_init_39 : decode cX5_init 39 = .ok (.putfield 27, 3) := by decide +kernel
theorem dX5_init_42 : decode cX5_init 42 = .ok (.aload_n 0, 1) := by decide +kernel
theorem dX5_init_43 : decode cX5_init 43 = .ok (.bipush 6, 2) := by decide +kernel
theorem dX5_init_45 : decode cX5_init 45 = .ok (.newarray .long, 2) := by decide +kernel
theorem dX5_init_47 : decode cX5_init 47 = .ok (.putfield 30, 3) := by decide +kernel
theorem dX5_init_50 : decode cX5_init 50 = .ok (.aload_n 0, 1) := by decide +kernel
theorem dX5_init_51 : decode cX5_init 51 = .ok (.bipush 6, 2) := by decide +kernel
theorem dX5_init_53 : decode cX5_init 53 = .ok (.newarray .long, 2) := by decide +kernel
theorem dX5_init_55 : decode cX5_init 55 = .ok (.putfield 33, 3) := by decide +kernel
theorem dX5_init_58 : decode cX5_init 58 = .ok (.aload_n 0, 1) := by decide +kernel
theorem dX5_init_59 : decode cX5_init 59 = .ok (.bipush 6, 2) := by decide +kernel
theorem dX5_init_61 : decode cX5_init 61 = .ok (.newarray .long, 2) := by decide +kernel
theorem dX5_init_63 : decode cX5_init 63 = .ok (.putfield 36, 3) := by decide +kernel
theorem dX5_init_66 : decode cX5_init 66 = .ok (.aload_n 0, 1) := by decide +kernel
theorem dX5_init_67 : decode cX5_init 67 = .ok (.bipush 6, 2) := by decide +kernel
theorem dX5_init_69 : decode cX5_init 69 = .ok (.newarray .long, 2) := by decide +kernel
theorem dX5_init_71 : decode cX5_init 71 = .ok (.putfield 39, 3) := by decide +kernel
theorem dX5_init_74 : decode cX5_init 74 = .ok (.aload_n 0, 1) := by decide +kernel
theorem dX5_init_75 : decode cX5_init 75 = .ok (.aload_n 1, 1) := by decide +kernel
theorem dX5_init_76 : decode cX5_init 76 = .ok (.getfield 42, 3) := by decide +kernel
theorem dX5_init_79 : decode cX5_init 79 = .ok (.putfield 48, 3) := by decide +kernel
theorem dX5_init_82 : decode cX5_init 82 = .ok (.aload_n 0, 1) := by decide +kernel
theorem dX5_init_83 : decode cX5_init 83 = .ok (.aload_n 1, 1) := by decide +kernel
theorem dX5_init_84 : decode cX5_init 84 = .ok (.putfield 49, 3) := by decide +kernel
theorem dX5_init_87 : decode cX5_init 87 = .ok (.aload_n 0, 1) := by decide +kernel
theorem dX5_init_88 : decode cX5_init 88 = .ok (.aload_n 2, 1) := by decide +kernel
theorem dX5_init_89 : decode cX5_init 89 = .ok (.putfield 53, 3) := by decide +kernel
theorem dX5_init_92 : decode cX5_init 92 = .ok (.return_, 1) := by decide +kernel
set_option maxRecDepth 100000 in
set_option maxHeartbeats 4000000 in
theorem k_X5 (l : Launch) (K : wK) (h0 : Nat) (a1 : Nat) (f1 : List Value) (g1_0 : Nat) (a2 : Nat) (e1_0 : f1[0]? = some (.ref g1_0)) : kV l yX5_init (Cond.code yX5_init cX5_init 3 none :: GT) ({ frames := 3, cells := 12, slots := 1796, locals := 180 } : Room) 12 1796 [.ref h0, .ref a1, .ref a2] K [(h0, .inr (5, [.null, .null, .null, .null, .null, .null, .null, .null, .null, .null, .null])), (a1, .inr (1, f1))] (fun u => ∃ q1 q2 q3 q4 q5 q6 q7 q8 q9 q10 q11 q12 : Nat, u = [(h0, .inr (5, [.ref q1, .ref q2, .ref g1_0, .ref a1, .ref a2, .ref q3, .ref q6, .ref q9, .ref q10, .ref q11, .ref q12])), (a1, .inr (1, f1)), (q1, zJ K 6), (q2, zJ K 6), (q3, .inr (8, [.ref q4, .int 0, .int 0, .ref q5])), (q4, zJ K 870), (q5, zJ K 6), (q6, .inr (8, [.ref q7, .int 0, .int 0, .ref q8])), (q7, zJ K 870), (q8, zJ K 6), (q9, zJ K 6), (q10, zJ K 6), (q11, zJ K 6), (q12, zJ K 6)]) := by
  refine kV_of (lv0 := [(0, .ref h0), (1, .ref a1), (2, .ref a2)]) (by decide) (Nat.le_of_ble_eq_true rfl) rfl rfl ?_
  intro p e s m args below meth c Q A C hin N ret
  replace C : Cx p ({ frames := 3, cells := 12, slots := 1796, locals := 180 } : Room) m c 0 0 cX5_init 3 s args RX5 K A := C
  refine wn_aload_n C 0 rfl dX5_init_0 rfl ?_
  refine wn_obj C (gt_2 143 (by decide +kernel) rfl) ga_oi ga_oc dX5_init_1 (Nat.le_of_ble_eq_true rfl) (Nat.le_of_ble_eq_true rfl) ?_
  refine wn_aload_n C 0 rfl dX5_init_4 rfl ?_
  refine wn_bipush C (z := 6) dX5_init_5 (by decide) ?_
  refine wn_newJ C ga_J (inR_k 6 rfl) rfl (Nat.le_of_ble_eq_true rfl) (Nat.le_of_ble_eq_true rfl) (Nat.le_of_ble_eq_true rfl) dX5_init_7 (fun q1 => ?_)
  replace C := C.more (cells' := 1) (slots' := 6) (Nat.le_of_ble_eq_true rfl) (Nat.le_of_ble_eq_true rfl)
  refine wn_putR C hin (w' := [(h0, .inr (5, [.ref q1, .null, .null, .null, .null, .null, .null, .null, .null, .null, .null])), (a1, .inr (1, f1)), (q1, zJ K 6)]) 0 0 rfl rfl (by decide) okX5 gw_406 rfl rfl rfl rfl rfl (Nat.le_of_ble_eq_true rfl) rfl dX5_init_9 ?_
  refine wn_aload_n C 0 rfl dX5_init_12 rfl ?_
  refine wn_bipush C (z := 6) dX5_init_13 (by decide) ?_
  refine wn_newJ C ga_J (inR_k 6 rfl) rfl (Nat.le_of_ble_eq_true rfl) (Nat.le_of_ble_eq_true rfl) (Nat.le_of_ble_eq_true rfl) dX5_init_15 (fun q2 => ?_)
  replace C := C.more (cells' := 2) (slots' := 12) (Nat.le_of_ble_eq_true rfl) (Nat.le_of_ble_eq_true rfl)
  refine wn_putR C hin (w' := [(h0, .inr (5, [.ref q1, .ref q2, .null, .null, .null, .null, .null, .null, .null, .null, .null])), (a1, .inr (1, f1)), (q1, zJ K 6), (q2, zJ K 6)]) 0 1 rfl rfl (by decide) okX5 gw_408 rfl rfl rfl rfl rfl (Nat.le_of_ble_eq_true rfl) rfl dX5_init_17 ?_
  refine wn_aload_n C 0 rfl dX5_init_20 rfl ?_
  refine wn_new C (ci := 8) (fs := [.null, .int 0, .int 0, .null]) tyX8_ok okX8 (gt_2 144 (by decide +kernel) rfl) (gt_2 145 (by decide +kernel) rfl) gw_10 rfl (fun j hj => by rcases (show j = 0 ∨ j = 1 ∨ j = 2 ∨ j = 3 by omega) with rfl | rfl | rfl | rfl <;> rfl) (Nat.le_of_ble_eq_true rfl) (Nat.le_of_ble_eq_true rfl) dX5_init_21 (fun q3 => ?_)
  replace C := C.more (cells' := 3) (slots' := 16) (Nat.le_of_ble_eq_true rfl) (Nat.le_of_ble_eq_true rfl)
  refine wn_dup C dX5_init_24 rfl ?_
  refine wn_callN C N (n := 0) (As := []) (rest := [.ref q3, .ref h0]) (wr := [(h0, .inr (5, [.ref q1, .ref q2, .null, .null, .null, .null, .null, .null, .null, .null, .null])), (a1, .inr (1, f1)), (q1, zJ K 6), (q2, zJ K 6)]) (k_X8 l K q3) [4] [0, 1, 2, 3] rfl rfl (by decide) (by decide) (by decide) gw_388 (by decide +kernel) gw_387 gw_10 ⟨by decide, by decide, by decide +kernel⟩ rfl rfl rfl rfl ⟨by decide, by decide⟩ rfl (Nat.le_of_ble_eq_true rfl) dX5_init_25 ⟨(Nat.le_of_ble_eq_true rfl), (Nat.le_of_ble_eq_true rfl)⟩ (fun w1 hw1 => ?_)
  obtain ⟨q4, q5, rfl⟩ := hw1
  replace C := C.more (cells' := 5) (slots' := 892) (Nat.le_of_ble_eq_true rfl) (Nat.le_of_ble_eq_true rfl)
  refine wn_putR C hin (w' := [(h0, .inr (5, [.ref q1, .ref q2, .null, .null, .null, .ref q3, .null, .null, .null, .null, .null])), (a1, .inr (1, f1)), (q1, zJ K 6), (q2, zJ K 6), (q3, .inr (8, [.ref q4, .int 0, .int 0, .ref q5])), (q4, zJ K 870), (q5, zJ K 6)]) 0 5 rfl rfl (by decide) okX5 gw_413 rfl rfl rfl rfl rfl (Nat.le_of_ble_eq_true rfl) rfl dX5_init_28 ?_
  refine wn_aload_n C 0 rfl dX5_init_31 rfl ?_
  refine wn_new C (ci := 8) (fs := [.null, .int 0, .int 0, .null]) tyX8_ok okX8 (gt_2 144 (by decide +kernel) rfl) (gt_2 145 (by decide +kernel) rfl) gw_10 rfl (fun j hj => by rcases (show j = 0 ∨ j = 1 ∨ j = 2 ∨ j = 3 by omega) with rfl | rfl | rfl | rfl <;> rfl) (Nat.le_of_ble_eq_true rfl) (Nat.le_of_ble_eq_true rfl) dX5_init_32 (fun q6 => ?_)
  replace C := C.more (cells' := 6) (slots' := 896) (Nat.le_of_ble_eq_true rfl) (Nat.le_of_ble_eq_true rfl)
  refine wn_dup C dX5_init_35 rfl ?_
  refine wn_callN C N (n := 0) (As := []) (rest := [.ref q6, .ref h0]) (wr := [(h0, .inr (5, [.ref q1, .ref q2, .null, .null, .null, .ref q3, .null, .null, .null, .null, .null])), (a1, .inr (1, f1)), (q1, zJ K 6), (q2, zJ K 6), (q3, .inr (8, [.ref q4, .int 0, .int 0, .ref q5])), (q4, zJ K 870), (q5, zJ K 6)]) (k_X8 l K q6) [7] [0, 1, 2, 3, 4, 5, 6] rfl rfl (by decide) (by decide) (by decide) gw_388 (by decide +kernel) gw_387 gw_10 ⟨by decide, by decide, by decide +kernel⟩ rfl rfl rfl rfl ⟨by decide, by decide⟩ rfl (Nat.le_of_ble_eq_true rfl) dX5_init_36 ⟨(Nat.le_of_ble_eq_true rfl), (Nat.le_of_ble_eq_true rfl)⟩ (fun w1 hw1 => ?_)
  obtain ⟨q7, q8, rfl⟩ := hw1
  replace C := C.more (cells' := 8) (slots' := 1772) (Nat.le_of_ble_eq_true rfl) (Nat.le_of_ble_eq_true rfl)
  refine wn_putR C hin (w' := [(h0, .inr (5, [.ref q1, .ref q2, .null, .null, .null, .ref q3, .ref q6, .null, .null, .null, .null])), (a1, .inr (1, f1)), (q1, zJ K 6), (q2, zJ K 6), (q3, .inr (8, [.ref q4, .int 0, .int 0, .ref q5])), (q4, zJ K 870), (q5, zJ K 6), (q6, .inr (8, [.ref q7, .int 0, .int 0, .ref q8])), (q7, zJ K 870), (q8, zJ K 6)]) 0 6 rfl rfl (by decide) okX5 gw_414 rfl rfl rfl rfl rfl (Nat.le_of_ble_eq_true rfl) rfl dX5_init_39 ?_
  refine wn_aload_n C 0 rfl dX5_init_42 rfl ?_
  refine wn_bipush C (z := 6) dX5_init_43 (by decide) ?_
  refine wn_newJ C ga_J (inR_k 6 rfl) rfl (Nat.le_of_ble_eq_true rfl) (Nat.le_of_ble_eq_true rfl) (Nat.le_of_ble_eq_true rfl) dX5_init_45 (fun q9 => ?_)
  replace C := C.more (cells' := 9) (slots' := 1778) (Nat.le_of_ble_eq_true rfl) (Nat.le_of_ble_eq_true rfl)
  refine wn_putR C hin (w' := [(h0, .inr (5, [.ref q1, .ref q2, .null, .null, .null, .ref q3, .ref q6, .ref q9, .null, .null, .null])), (a1, .inr (1, f1)), (q1, zJ K 6), (q2, zJ K 6), (q3, .inr (8, [.ref q4, .int 0, .int 0, .ref q5])), (q4, zJ K 870), (q5, zJ K 6), (q6, .inr (8, [.ref q7, .int 0, .int 0, .ref q8])), (q7, zJ K 870), (q8, zJ K 6), (q9, zJ K 6)]) 0 7 rfl rfl (by decide) okX5 gw_415 rfl rfl rfl rfl rfl (Nat.le_of_ble_eq_true rfl) rfl dX5_init_47 ?_
  refine wn_aload_n C 0 rfl dX5_init_50 rfl ?_
  refine wn_bipush C (z := 6) dX5_init_51 (by decide) ?_
  refine wn_newJ C ga_J (inR_k 6 rfl) rfl (Nat.le_of_ble_eq_true rfl) (Nat.le_of_ble_eq_true rfl) (Nat.le_of_ble_eq_true rfl) dX5_init_53 (fun q10 => ?_)
  replace C := C.more (cells' := 10) (slots' := 1784) (Nat.le_of_ble_eq_true rfl) (Nat.le_of_ble_eq_true rfl)
  refine wn_putR C hin (w' := [(h0, .inr (5, [.ref q1, .ref q2, .null, .null, .null, .ref q3, .ref q6, .ref q9, .ref q10, .null, .null])), (a1, .inr (1, f1)), (q1, zJ K 6), (q2, zJ K 6), (q3, .inr (8, [.ref q4, .int 0, .int 0, .ref q5])), (q4, zJ K 870), (q5, zJ K 6), (q6, .inr (8, [.ref q7, .int 0, .int 0, .ref q8])), (q7, zJ K 870), (q8, zJ K 6), (q9, zJ K 6), (q10, zJ K 6)]) 0 8 rfl rfl (by decide) okX5 gw_416 rfl rfl rfl rfl rfl (Nat.le_of_ble_eq_true rfl) rfl dX5_init_55 ?_
  refine wn_aload_n C 0 rfl dX5_init_58 rfl ?_
  refine wn_bipush C (z := 6) dX5_init_59 (by decide) ?_
  refine wn_newJ C ga_J (inR_k 6 rfl) rfl (Nat.le_of_ble_eq_true rfl) (Nat.le_of_ble_eq_true rfl) (Nat.le_of_ble_eq_true rfl) dX5_init_61 (fun q11 => ?_)
  replace C := C.more (cells' := 11) (slots' := 1790) (Nat.le_of_ble_eq_true rfl) (Nat.le_of_ble_eq_true rfl)
  refine wn_putR C hin (w' := [(h0, .inr (5, [.ref q1, .ref q2, .null, .null, .null, .ref q3, .ref q6, .ref q9, .ref q10, .ref q11, .null])), (a1, .inr (1, f1)), (q1, zJ K 6), (q2, zJ K 6), (q3, .inr (8, [.ref q4, .int 0, .int 0, .ref q5])), (q4, zJ K 870), (q5, zJ K 6), (q6, .inr (8, [.ref q7, .int 0, .int 0, .ref q8])), (q7, zJ K 870), (q8, zJ K 6), (q9, zJ K 6), (q10, zJ K 6), (q11, zJ K 6)]) 0 9 rfl rfl (by decide) okX5 gw_417 rfl rfl rfl rfl rfl (Nat.le_of_ble_eq_true rfl) rfl dX5_init_63 ?_
  refine wn_aload_n C 0 rfl dX5_init_66 rfl ?_
  refine wn_bipush C (z := 6) dX5_init_67 (by decide) ?_
  refine wn_newJ C ga_J (inR_k 6 rfl) rfl (Nat.le_of_ble_eq_true rfl) (Nat.le_of_ble_eq_true rfl) (Nat.le_of_ble_eq_true rfl) dX5_init_69 (fun q12 => ?_)
  replace C := C.more (cells' := 12) (slots' := 1796) (Nat.le_of_ble_eq_true rfl) (Nat.le_of_ble_eq_true rfl)
  refine wn_putR C hin (w' := [(h0, .inr (5, [.ref q1, .ref q2, .null, .null, .null, .ref q3, .ref q6, .ref q9, .ref q10, .ref q11, .ref q12])), (a1, .inr (1, f1)), (q1, zJ K 6), (q2, zJ K 6), (q3, .inr (8, [.ref q4, .int 0, .int 0, .ref q5])), (q4, zJ K 870), (q5, zJ K 6), (q6, .inr (8, [.ref q7, .int 0, .int 0, .ref q8])), (q7, zJ K 870), (q8, zJ K 6), (q9, zJ K 6), (q10, zJ K 6), (q11, zJ K 6), (q12, zJ K 6)]) 0 10 rfl rfl (by decide) okX5 gw_418 rfl rfl rfl rfl rfl (Nat.le_of_ble_eq_true rfl) rfl dX5_init_71 ?_
  refine wn_aload_n C 0 rfl dX5_init_74 rfl ?_
  refine wn_aload_n C 1 rfl dX5_init_75 rfl ?_
  refine wn_getR C 1 0 rfl rfl (by decide) okX1 gw_157 e1_0 dX5_init_76 ?_
  refine wn_putR C hin (w' := [(h0, .inr (5, [.ref q1, .ref q2, .ref g1_0, .null, .null, .ref q3, .ref q6, .ref q9, .ref q10, .ref q11, .ref q12])), (a1, .inr (1, f1)), (q1, zJ K 6), (q2, zJ K 6), (q3, .inr (8, [.ref q4, .int 0, .int 0, .ref q5])), (q4, zJ K 870), (q5, zJ K 6), (q6, .inr (8, [.ref q7, .int 0, .int 0, .ref q8])), (q7, zJ K 870), (q8, zJ K 6), (q9, zJ K 6), (q10, zJ K 6), (q11, zJ K 6), (q12, zJ K 6)]) 0 2 rfl rfl (by decide) okX5 gw_410 rfl rfl rfl rfl rfl (Nat.le_of_ble_eq_true rfl) rfl dX5_init_79 ?_
  refine wn_aload_n C 0 rfl dX5_init_82 rfl ?_
  refine wn_aload_n C 1 rfl dX5_init_83 rfl ?_
  refine wn_putR C hin (w' := [(h0, .inr (5, [.ref q1, .ref q2, .ref g1_0, .ref a1, .null, .ref q3, .ref q6, .ref q9, .ref q10, .ref q11, .ref q12])), (a1, .inr (1, f1)), (q1, zJ K 6), (q2, zJ K 6), (q3, .inr (8, [.ref q4, .int 0, .int 0, .ref q5])), (q4, zJ K 870), (q5, zJ K 6), (q6, .inr (8, [.ref q7, .int 0, .int 0, .ref q8])), (q7, zJ K 870), (q8, zJ K 6), (q9, zJ K 6), (q10, zJ K 6), (q11, zJ K 6), (q12, zJ K 6)]) 0 3 rfl rfl (by decide) okX5 gw_411 rfl rfl rfl rfl rfl (Nat.le_of_ble_eq_true rfl) rfl dX5_init_84 ?_
  refine wn_aload_n C 0 rfl dX5_init_87 rfl ?_
  refine wn_aload_n C 2 rfl dX5_init_88 rfl ?_
  refine wn_putR C hin (w' := [(h0, .inr (5, [.ref q1, .ref q2, .ref g1_0, .ref a1, .ref a2, .ref q3, .ref q6, .ref q9, .ref q10, .ref q11, .ref q12])), (a1, .inr (1, f1)), (q1, zJ K 6), (q2, zJ K 6), (q3, .inr (8, [.ref q4, .int 0, .int 0, .ref q5])), (q4, zJ K 870), (q5, zJ K 6), (q6, .inr (8, [.ref q7, .int 0, .int 0, .ref q8])), (q7, zJ K 870), (q8, zJ K 6), (q9, zJ K 6), (q10, zJ K 6), (q11, zJ K 6), (q12, zJ K 6)]) 0 4 rfl rfl (by decide) okX5 gw_412 rfl rfl rfl rfl rfl (Nat.le_of_ble_eq_true rfl) rfl dX5_init_89 ?_
  exact ret (Nat.le_of_ble_eq_true rfl) (Nat.le_of_ble_eq_true rfl) dX5_init_92 ⟨_, _, _, _, _, _, _, _, _, _, _, _, rfl⟩
theorem dX4_init_0 : decode cX4_init 0 = .ok (.aload_n 0, 1) := by decide +kernel
theorem dX4_init_1 : decode cX4_init 1 = .ok (.invokespecial 7, 3) := by decide +kernel
theorem dX4_init_4 : decode cX4_init 4 = .ok (.aload_n 0, 1) := by decide +kernel
theorem dX4_init_5 : decode cX4_init 5 = .ok (.aload_n 1, 1) := by decide +kernel
theorem dX4_init_6 : decode cX4_init 6 = .ok (.putfield 13, 3) := by decide +kernel
theorem dX4_init_9 : decode cX4_init 9 = .ok (.aload_n 0, 1) := by decide +kernel
theorem dX4_init_10 : decode cX4_init 10 = .ok (.aload_n 1, 1) := by decide +kernel
theorem dX4_init_11 : decode cX4_init 11 = .ok (.getfield 17, 3) := by decide +kernel
theorem dX4_init_14 : decode cX4_init 14 = .ok (.putfield 23, 3) := by decide +kernel
theorem dX4_init_17 : decode cX4_init 17 = .ok (.aload_n 0, 1) := by decide +kernel
theorem dX4_init_18 : decode cX4_init 18 = .ok (.aload_n 2, 1) := by decide +kernel
theorem dX4_init_19 : decode cX4_init 19 = .ok (.putfield 24, 3) := by decide +kernel
theorem dX4_init_22 : decode cX4_init 22 = .ok (.return_, 1) := by decide +kernel
set_option maxRecDepth 100000 in
set_option maxHeartbeats 4000000 in
theorem k_X4 (l : Launch) (K : wK) (h0 : Nat) (a1 : Nat) (f1 : List Value) (g1_0 : Nat) (a2 : Nat) (e1_0 : f1[0]? = some (.ref g1_0)) : kV l yX4_init (Cond.code yX4_init cX4_init 3 none :: GT) ({ frames := 2, cells := 0, slots := 0, locals := 120 } : Room) 0 0 [.ref h0, .ref a1, .ref a2] K [(h0, .inr (4, [.null, .null, .null])), (a1, .inr (2, f1))] (fun u => u = [(h0, .inr (4, [.ref a1, .ref g1_0, .ref a2])), (a1, .inr (2, f1))]) := by
  refine kV_of (lv0 := [(0, .ref h0), (1, .ref a1), (2, .ref a2)]) (by decide) (Nat.le_of_ble_eq_true rfl) rfl rfl ?_
  intro p e s m args below meth c Q A C hin N ret
  replace C : Cx p ({ frames := 2, cells := 0, slots := 0, locals := 120 } : Room) m c 0 0 cX4_init 3 s args RX4 K A := C
  refine wn_aload_n C 0 rfl dX4_init_0 rfl ?_
  refine wn_obj C (gt_2 207 (by decide +kernel) rfl) ga_oi ga_oc dX4_init_1 (Nat.le_of_ble_eq_true rfl) (Nat.le_of_ble_eq_true rfl) ?_
  refine wn_aload_n C 0 rfl dX4_init_4 rfl ?_
  refine wn_aload_n C 1 rfl dX4_init_5 rfl ?_
  refine wn_putR C hin (w' := [(h0, .inr (4, [.ref a1, .null, .null])), (a1, .inr (2, f1))]) 0 0 rfl rfl (by decide) okX4 gw_448 rfl rfl rfl rfl rfl (Nat.le_of_ble_eq_true rfl) rfl dX4_init_6 ?_
  refine wn_aload_n C 0 rfl dX4_init_9 rfl ?_
  refine wn_aload_n C 1 rfl dX4_init_10 rfl ?_
  refine wn_getR C 1 0 rfl rfl (by decide) okX2 gw_82 e1_0 dX4_init_11 ?_
  refine wn_putR C hin (w' := [(h0, .inr (4, [.ref a1, .ref g1_0, .null])), (a1, .inr (2, f1))]) 0 1 rfl rfl (by decide) okX4 gw_449 rfl rfl rfl rfl rfl (Nat.le_of_ble_eq_true rfl) rfl dX4_init_14 ?_
  refine wn_aload_n C 0 rfl dX4_init_17 rfl ?_
  refine wn_aload_n C 2 rfl dX4_init_18 rfl ?_
  refine wn_putR C hin (w' := [(h0, .inr (4, [.ref a1, .ref g1_0, .ref a2])), (a1, .inr (2, f1))]) 0 2 rfl rfl (by decide) okX4 gw_450 rfl rfl rfl rfl rfl (Nat.le_of_ble_eq_true rfl) rfl dX4_init_19 ?_
  exact ret (Nat.le_of_ble_eq_true rfl) (Nat.le_of_ble_eq_true rfl) dX4_init_22 rfl
theorem dX11_init_0 : decode cX11_init 0 = .ok (.aload_n 0, 1) := by decide +kernel
theorem dX11_init_1 : decode cX11_init 1 = .ok (.invokespecial 3, 3) := by decide +kernel
theorem dX11_init_4 : decode cX11_init 4 = .ok (.aload_n 0, 1) := by decide +kernel
theorem dX11_init_5 : decode cX11_init 5 = .ok (.new 9, 3) := by decide +kernel
theorem dX11_init_8 : decode cX11_init 8 = .ok (.dup, 1) := by decide +kernel
theorem dX11_init_9 : decode cX11_init 9 = .ok (.invokespecial 11, 3) := by decide +kernel
theorem dX11_init_12 : decode cX11_init 12 = .ok (.putfield 12, 3) := by decide +kernel
theorem dX11_init_15 : decode cX11_init 15 = .ok (.aload_n 0, 1) := by decide +kernel
theorem dX11_init_16 : decode cX11_init 16 = .ok (.new 16, 3) := by decide +kernel
theorem dX11_init_19 : decode cX11_init 19 = .ok (.dup, 1) := by decide +kernel
theorem dX11_init_20 : decode cX11_init 20 = .ok (.aload_n 0, 1) := by decide +kernel
theorem dX11_init_21 : decode cX11_init 21 = .ok (.getfield 12, 3) := by decide +kernel
theorem dX11_init_24 : decode cX11_init 24 = .ok (.invokespecial 18, 3) := by decide +kernel
theorem dX11_init_27 : decode cX11_init 27 = .ok (.putfield 21, 3) := by decide +kernel
theorem dX11_init_30 : decode cX11_init 30 = .ok (.new 25, 3) := by decide +kernel
theorem dX11_init_33 : decode cX11_init 33 = .ok (.dup, 1) := by decide +kernel
theorem dX11_init_34 : decode cX11_init 34 = .ok (.aload_n 0, 1) := by decide +kernel
theorem dX11_init_35 : decode cX11_init 35 = .ok (.getfield 21, 3) := by decide +kernel
theorem dX11_init_38 : decode cX11_init 38 = .ok (.invokespecial 27, 3) := by decide +kernel
theorem dX11_init_41 : decode cX11_init 41 = .ok (.astore_n 1, 1) := by decide +kernel
