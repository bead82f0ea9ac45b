/-! the law's entry: what its premises say -/
theorem tb_t {w : Cond} (h : w ∈ tables_1) : w ∈ lw_tbl := List.mem_append_right _ h
theorem tb_1 {w : Cond} (i : Nat) (h : tables_1_1[i]? = some w) : w ∈ lw_tbl := tb_t ((fun h => List.mem_append_left _ h) (List.mem_of_getElem? h))
theorem tb_2 {w : Cond} (i : Nat) (h : tables_1_2[i]? = some w) : w ∈ lw_tbl := tb_t ((fun h => List.mem_append_right _ (List.mem_append_left _ h)) (List.mem_of_getElem? h))
theorem tb_3 {w : Cond} (i : Nat) (h : tables_1_3[i]? = some w) : w ∈ lw_tbl := tb_t ((fun h => List.mem_append_right _ (List.mem_append_right _ (List.mem_append_left _ h))) (List.mem_of_getElem? h))
theorem tb_4 {w : Cond} (i : Nat) (h : tables_1_4[i]? = some w) : w ∈ lw_tbl := tb_t ((fun h => List.mem_append_right _ (List.mem_append_right _ (List.mem_append_right _ (List.mem_append_left _ h)))) (List.mem_of_getElem? h))
theorem tb_5 {w : Cond} (i : Nat) (h : tables_1_5[i]? = some w) : w ∈ lw_tbl := tb_t ((fun h => List.mem_append_right _ (List.mem_append_right _ (List.mem_append_right _ (List.mem_append_right _ (List.mem_append_left _ h))))) (List.mem_of_getElem? h))
theorem tb_6 {w : Cond} (i : Nat) (h : tables_1_6[i]? = some w) : w ∈ lw_tbl := tb_t ((fun h => List.mem_append_right _ (List.mem_append_right _ (List.mem_append_right _ (List.mem_append_right _ (List.mem_append_right _ (List.mem_append_left _ h)))))) (List.mem_of_getElem? h))
theorem tb_7 {w : Cond} (i : Nat) (h : tables_1_7[i]? = some w) : w ∈ lw_tbl := tb_t ((fun h => List.mem_append_right _ (List.mem_append_right _ (List.mem_append_right _ (List.mem_append_right _ (List.mem_append_right _ (List.mem_append_right _ (List.mem_append_left _ h))))))) (List.mem_of_getElem? h))
theorem tb_8 {w : Cond} (i : Nat) (h : tables_1_8[i]? = some w) : w ∈ lw_tbl := tb_t ((fun h => List.mem_append_right _ (List.mem_append_right _ (List.mem_append_right _ (List.mem_append_right _ (List.mem_append_right _ (List.mem_append_right _ (List.mem_append_right _ (h)))))))) (List.mem_of_getElem? h))
theorem arr_of {s : State} {args : Array Value} {ty : FieldType} (h : (Cond.arrayClass ty).before args s = true) (hv : ∀ cA, s.vm.findClass ("[" ++ ty.toString) = some cA → va_RA s cA ty) : ∃ cA, ArrOfT s cA ty ∧ va_RA s cA ty := by
  obtain ⟨c, k, comp, h1, h2, h3⟩ := Cond.arrayClass_spec h
  exact ⟨c, fun n z => ⟨fun k h => (by cases h), k, h2, comp, h3⟩, hv c h1⟩
theorem start_K {s : State} {args : Array Value} (hts : ∀ w ∈ lw_tbl, w.before args s = true) : ∃ K : wK, va_K K.1 vwCl (wTY K) s := by
  have htg : ∀ w ∈ GT, w.before args s = true := fun w h => hts w (List.mem_filter.mp h).1
  obtain ⟨c0, i0, k0⟩ := u_known (C := RX0) (T := TX0) (N := 10) (n := 10) htg okX0.1 (hts (.instantiable RX0 10) (tb_2 96 (by decide +kernel)))
  obtain ⟨c1, i1, k1⟩ := u_known (C := RX1) (T := TX1) (N := 10) (n := 10) htg okX1.1 (hts (.instantiable RX1 10) (tb_1 150 (by decide +kernel)))
  obtain ⟨c2, i2, k2⟩ := u_known (C := RX2) (T := TX2) (N := 14) (n := 14) htg okX2.1 (hts (.instantiable RX2 14) (tb_1 34 (by decide +kernel)))
  obtain ⟨c3, i3, k3⟩ := u_known (C := RX3) (T := TX3) (N := 5) (n := 5) htg okX3.1 (hts (.instantiable RX3 5) (tb_1 40 (by decide +kernel)))
  obtain ⟨c4, i4, k4⟩ := u_known (C := RX4) (T := TX4) (N := 3) (n := 3) htg okX4.1 (hts (.instantiable RX4 3) (tb_2 203 (by decide +kernel)))
  obtain ⟨c5, i5, k5⟩ := u_known (C := RX5) (T := TX5) (N := 11) (n := 11) htg okX5.1 (hts (.instantiable RX5 11) (tb_2 139 (by decide +kernel)))
  obtain ⟨c6, i6, k6⟩ := u_known (C := RX6) (T := TX6) (N := 5) (n := 5) htg okX6.1 (hts (.instantiable RX6 5) (tb_2 26 (by decide +kernel)))
  obtain ⟨c7, i7, k7⟩ := u_known (C := RX7) (T := TX7) (N := 12) (n := 12) htg okX7.1 (hts (.instantiable RX7 12) (tb_2 50 (by decide +kernel)))
  obtain ⟨c8, i8, k8⟩ := u_known (C := RX8) (T := TX8) (N := 4) (n := 4) htg okX8.1 (hts (.instantiable RX8 4) (tb_2 145 (by decide +kernel)))
  obtain ⟨c9, i9, k9⟩ := u_known (C := RX9) (T := TX9) (N := 17) (n := 17) htg okX9.1 (hts (.instantiable RX9 17) (tb_1 203 (by decide +kernel)))
  obtain ⟨c10, i10, k10⟩ := u_known (C := RX11) (T := TX11) (N := 8) (n := 8) htg okX11.1 (hts (.instantiable RX11 8) (tb_1 26 (by decide +kernel)))
  obtain ⟨c11, i11, k11⟩ := u_known (C := RX12) (T := TX12) (N := 36) (n := 36) htg okX12.1 (hts (.instantiable RX12 36) (tb_6 26 (by decide +kernel)))
  obtain ⟨cI, aI, rI⟩ := arr_of (ty := .int) (htg _ ga_I) (fun _ h => h)
  obtain ⟨cZ, aZ, rZ⟩ := arr_of (ty := .boolean) (htg _ ga_Z) (fun _ h => h)
  obtain ⟨cJ, aJ, rJ⟩ := arr_of (ty := .long) (htg _ ga_J) (fun _ h => h)
  refine ⟨((fun k => match k with | 0 => c0 | 1 => c1 | 2 => c2 | 3 => c3 | 4 => c4 | 5 => c5 | 6 => c6 | 7 => c7 | 8 => c8 | 9 => c9 | 10 => c10 | _ => c11, fun k => match k with | 0 => i0 | 1 => i1 | 2 => i2 | 3 => i3 | 4 => i4 | 5 => i5 | 6 => i6 | 7 => i7 | 8 => i8 | 9 => i9 | 10 => i10 | _ => i11), cI, cZ, cJ), fun k q hq => ?_, fun k q hq => ?_⟩
  · match k, hq with
    | 0, hq => cases hq; exact k0
    | 1, hq => cases hq; exact k1
    | 2, hq => cases hq; exact k2
    | 3, hq => cases hq; exact k3
    | 4, hq => cases hq; exact k4
    | 5, hq => cases hq; exact k5
    | 6, hq => cases hq; exact k6
    | 7, hq => cases hq; exact k7
    | 8, hq => cases hq; exact k8
    | 9, hq => cases hq; exact k9
    | 10, hq => cases hq; exact k10
    | 11, hq => cases hq; exact k11
    | k + 12, hq => simp [vwCl] at hq
  · match k, hq with
    | 0, hq => cases hq; exact ⟨aI, rI⟩
    | 1, hq => cases hq; exact ⟨aZ, rZ⟩
    | 2, hq => cases hq; exact ⟨aJ, rJ⟩
    | k + 3, hq => simp [wTY] at hq
theorem fl_int : Cond.arrayOf (.static RX9 "CHOICES" "[I") .int ∈ flatC (Jvm.Cond.and given_1 narrow_1) := by decide +kernel
theorem fl_len : Cond.eq (.length (.static RX9 "CHOICES" "[I")) (.int (Int32.ofNat 81)) ∈ flatC (Jvm.Cond.and given_1 narrow_1) := by decide +kernel
theorem fl_el : ∀ j, j < 81 → Cond.eq (.elem (.static RX9 "CHOICES" "[I") (.int (Int32.ofNat j))) (.int (iI (chZ (j : Int)))) ∈ flatC (Jvm.Cond.and given_1 narrow_1) := by decide +kernel
theorem fl_u : Cond.isRef (.static Bundle.tN "UNASSIGNED_STACK" Bundle.steD) ∈ flatC (Jvm.Cond.and given_1 narrow_1) := by decide +kernel
theorem fl_s : Cond.isRef (.static Bundle.tN "SUPPRESSED_SENTINEL" Bundle.listD) ∈ flatC (Jvm.Cond.and given_1 narrow_1) := by decide +kernel
theorem fl_n : ∀ q ∈ xN, Cond.not (.castable q.1 q.2) ∈ flatC (Jvm.Cond.and given_1 narrow_1) := by decide +kernel
theorem xB_in : ∀ w ∈ xB, w ∈ lw_tbl := by
  unfold xB
  exact List.forall_mem_cons.mpr ⟨tb_4 167 (by decide +kernel), List.forall_mem_cons.mpr ⟨tb_4 183 (by decide +kernel), List.forall_mem_cons.mpr ⟨tb_4 199 (by decide +kernel), List.forall_mem_cons.mpr ⟨tb_3 22 (by decide +kernel), List.forall_mem_cons.mpr ⟨tb_3 23 (by decide +kernel), List.forall_mem_cons.mpr ⟨tb_3 25 (by decide +kernel), List.forall_mem_cons.mpr ⟨tb_3 27 (by decide +kernel), fun _ h => absurd h List.not_mem_nil⟩⟩⟩⟩⟩⟩⟩
theorem nLs_in : ∀ q ∈ nLs, Cond.methodLinkNest q.1 q.2.1 q.2.2 "MineDesk" ∈ lw_tbl := by
  unfold nLs
  exact List.forall_mem_cons.mpr ⟨tb_1 35 (by decide +kernel), List.forall_mem_cons.mpr ⟨tb_1 41 (by decide +kernel), List.forall_mem_cons.mpr ⟨tb_2 146 (by decide +kernel), fun _ h => absurd h List.not_mem_nil⟩⟩⟩
theorem start_z {s : State} {args : Array Value} (hts : ∀ w ∈ lw_tbl, w.before args s = true) (hgv : (Jvm.Cond.and given_1 narrow_1).before args s = true) : zOK (fun q : Nat => s.heap.size ≤ q) s := by
  have hs := flat_of_before _ hgv
  have hA : ∀ a : Nat, a < s.heap.size → ¬ (fun q : Nat => s.heap.size ≤ q) a := fun a h => Nat.not_le.mpr h
  obtain ⟨t, h1, h2⟩ := va_Tof (f := fun j => .int (iI (chZ (j : Int)))) (N := 81) (by decide) (hs _ fl_int) (va_eqt (hs _ fl_len)) (fun j hj => va_eqt (hs _ (fl_el j hj))) hA
  exact ⟨t, va_Zref (hts _ (tb_4 78 (by decide +kernel))) (hts (.initialized RX9) (tb_1 5 (by decide +kernel))) h1 hA, h2⟩
theorem start_t {s : State} {args : Array Value} (hts : ∀ w ∈ lw_tbl, w.before args s = true) (hgv : (Jvm.Cond.and given_1 narrow_1).before args s = true) : tOK (fun q : Nat => s.heap.size ≤ q) s := by
  have hs := flat_of_before _ hgv
  have hA : ∀ a : Nat, a < s.heap.size → ¬ (fun q : Nat => s.heap.size ≤ q) a := fun a h => Nat.not_le.mpr h
  refine ⟨vx_Zqof (hts _ (tb_3 47 (by decide +kernel))) (hts (.initialized Bundle.tN) (tb_1 13 (by decide +kernel))) (hs _ fl_u) hA, vx_Zqof (hts _ (tb_3 49 (by decide +kernel))) (hts (.initialized Bundle.tN) (tb_1 13 (by decide +kernel))) (hs _ fl_s) hA, fun w hw => va_tabs (xB_on w hw) rfl (hts w (xB_in w hw)), fun q hq => va_Nc.of (hs _ (fl_n q hq))⟩
theorem start_n {s : State} {args : Array Value} (hts : ∀ w ∈ lw_tbl, w.before args s = true) : nOK s := by
  intro q hq
  exact va_Nw.of rfl (hts (.methodLinkNest q.1 q.2.1 q.2.2 "MineDesk") (nLs_in q hq))
