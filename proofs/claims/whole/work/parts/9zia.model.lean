theorem dX12_init_0 : decode cX12_init 0 = .ok (.aload_n 0, 1) := by decide +kernel
theorem dX12_init_1 : decode cX12_init 1 = .ok (.invokespecial 1, 3) := by decide +kernel
theorem dX12_init_4 : decode cX12_init 4 = .ok (.aload_n 0, 1) := by decide +kernel
theorem dX12_init_5 : decode cX12_init 5 = .ok (.sipush 1152, 3) := by decide +kernel
theorem dX12_init_8 : decode cX12_init 8 = .ok (.newarray .int, 2) := by decide +kernel
theorem dX12_init_10 : decode cX12_init 10 = .ok (.putfield 7, 3) := by decide +kernel
theorem dX12_init_13 : decode cX12_init 13 = .ok (.aload_n 0, 1) := by decide +kernel
theorem dX12_init_14 : decode cX12_init 14 = .ok (.sipush 144, 3) := by decide +kernel
theorem dX12_init_17 : decode cX12_init 17 = .ok (.newarray .int, 2) := by decide +kernel
theorem dX12_init_19 : decode cX12_init 19 = .ok (.putfield 13, 3) := by decide +kernel
theorem dX12_init_22 : decode cX12_init 22 = .ok (.aload_n 0, 1) := by decide +kernel
theorem dX12_init_23 : decode cX12_init 23 = .ok (.sipush 144, 3) := by decide +kernel
theorem dX12_init_26 : decode cX12_init 26 = .ok (.newarray .boolean, 2) := by decide +kernel
theorem dX12_init_28 : decode cX12_init 28 = .ok (.putfield 16, 3) := by decide +kernel
theorem dX12_init_31 : decode cX12_init 31 = .ok (.aload_n 0, 1) := by decide +kernel
theorem dX12_init_32 : decode cX12_init 32 = .ok (.sipush 144, 3) := by decide +kernel
theorem dX12_init_35 : decode cX12_init 35 = .ok (.newarray .int, 2) := by decide +kernel
theorem dX12_init_37 : decode cX12_init 37 = .ok (.putfield 20, 3) := by decide +kernel
theorem dX12_init_40 : decode cX12_init 40 = .ok (.aload_n 0, 1) := by decide +kernel
theorem dX12_init_41 : decode cX12_init 41 = .ok (.sipush 5200, 3) := by decide +kernel
theorem dX12_init_44 : decode cX12_init 44 = .ok (.newarray .long, 2) := by decide +kernel
theorem dX12_init_46 : decode cX12_init 46 = .ok (.putfield 23, 3) := by decide +kernel
theorem dX12_init_49 : decode cX12_init 49 = .ok (.aload_n 0, 1) := by decide +kernel
theorem dX12_init_50 : decode cX12_init 50 = .ok (.sipush 1040, 3) := by decide +kernel
theorem dX12_init_53 : decode cX12_init 53 = .ok (.newarray .int, 2) := by decide +kernel
theorem dX12_init_55 : decode cX12_init 55 = .ok (.putfield 27, 3) := by decide +kernel
theorem dX12_init_58 : decode cX12_init 58 = .ok (.aload_n 0, 1) := by decide +kernel
theorem dX12_init_59 : decode cX12_init 59 = .ok (.sipush 144, 3) := by decide +kernel
theorem dX12_init_62 : decode cX12_init 62 = .ok (.newarray .boolean, 2) := by decide +kernel
theorem dX12_init_64 : decode cX12_init 64 = .ok (.putfield 30, 3) := by decide +kernel
theorem dX12_init_67 : decode cX12_init 67 = .ok (.aload_n 0, 1) := by decide +kernel
theorem dX12_init_68 : decode cX12_init 68 = .ok (.sipush 144, 3) := by decide +kernel
theorem dX12_init_71 : decode cX12_init 71 = .ok (.newarray .boolean, 2) := by decide +kernel
theorem dX12_init_73 : decode cX12_init 73 = .ok (.putfield 33, 3) := by decide +kernel
theorem dX12_init_76 : decode cX12_init 76 = .ok (.aload_n 0, 1) := by decide +kernel
theorem dX12_init_77 : decode cX12_init 77 = .ok (.sipush 144, 3) := by decide +kernel
theorem dX12_init_80 : decode cX12_init 80 = .ok (.newarray .boolean, 2) := by decide +kernel
theorem dX12_init_82 : decode cX12_init 82 = .ok (.putfield 36, 3) := by decide +kernel
theorem dX12_init_85 : decode cX12_init 85 = .ok (.aload_n 0, 1) := by decide +kernel
theorem dX12_init_86 : decode cX12_init 86 = .ok (.sipush 144, 3) := by decide +kernel
theorem dX12_init_89 : decode cX12_init 89 = .ok (.newarray .int, 2) := by decide +kernel
theorem dX12_init_91 : decode cX12_init 91 = .ok (.putfield 39, 3) := by decide +kernel
theorem dX12_init_94 : decode cX12_init 94 = .ok (.aload_n 0, 1) := by decide +kernel
theorem dX12_init_95 : decode cX12_init 95 = .ok (.sipush 144, 3) := by decide +kernel
theorem dX12_init_98 : decode cX12_init 98 = .ok (.newarray .int, 2) := by decide +kernel
theorem dX12_init_100 : decode cX12_init 100 = .ok (.putfield 42, 3) := by decide +kernel
theorem dX12_init_103 : decode cX12_init 103 = .ok (.aload_n 0, 1) := by decide +kernel
theorem dX12_init_104 : decode cX12_init 104 = .ok (.bipush 72, 2) := by decide +kernel
theorem dX12_init_106 : decode cX12_init 106 = .ok (.newarray .int, 2) := by decide +kernel
theorem dX12_init_108 : decode cX12_init 108 = .ok (.putfield 45, 3) := by decide +kernel
theorem dX12_init_111 : decode cX12_init 111 = .ok (.aload_n 0, 1) := by decide +kernel
theorem dX12_init_112 : decode cX12_init 112 = .ok (.sipush 1224, 3) := by decide +kernel
theorem dX12_init_115 : decode cX12_init 115 = .ok (.newarray .int, 2) := by decide +kernel
theorem dX12_init_117 : decode cX12_init 117 = .ok (.putfield 48, 3) := by decide +kernel
theorem dX12_init_120 : decode cX12_init 120 = .ok (.aload_n 0, 1) := by decide +kernel
theorem dX12_init_121 : decode cX12_init 121 = .ok (.sipush 19584, 3) := by decide +kernel
theorem dX12_init_124 : decode cX12_init 124 = .ok (.newarray .int, 2) := by decide +kernel
theorem dX12_init_126 : decode cX12_init 126 = .ok (.putfield 51, 3) := by decide +kernel
theorem dX12_init_129 : decode cX12_init 129 = .ok (.aload_n 0, 1) := by decide +kernel
theorem dX12_init_130 : decode cX12_init 130 = .ok (.sipush 144, 3) := by decide +kernel
theorem dX12_init_133 : decode cX12_init 133 = .ok (.newarray .int, 2) := by decide +kernel
theorem dX12_init_135 : decode cX12_init 135 = .ok (.putfield 54, 3) := by decide +kernel
theorem dX12_init_138 : decode cX12_init 138 = .ok (.aload_n 0, 1) := by decide +kernel
theorem dX12_init_139 : decode cX12_init 139 = .ok (.sipush 144, 3) := by decide +kernel
theorem dX12_init_142 : decode cX12_init 142 = .ok (.newarray .int, 2) := by decide +kernel
theorem dX12_init_144 : decode cX12_init 144 = .ok (.putfield 57, 3) := by decide +kernel
theorem dX12_init_147 : decode cX12_init 147 = .ok (.aload_n 0, 1) := by decide +kernel
theorem dX12_init_148 : decode cX12_init 148 = .ok (.ldc 60, 2) := by decide +kernel
theorem dX12_init_150 : decode cX12_init 150 = .ok (.newarray .int, 2) := by decide +kernel
theorem dX12_init_152 : decode cX12_init 152 = .ok (.putfield 61, 3) := by decide +kernel
theorem dX12_init_155 : decode cX12_init 155 = .ok (.aload_n 0, 1) := by decide +kernel
theorem dX12_init_156 : decode cX12_init 156 = .ok (.sipush 145, 3) := by decide +kernel
theorem dX12_init_159 : decode cX12_init 159 = .ok (.newarray .boolean, 2) := by decide +kernel
theorem dX12_init_161 : decode cX12_init 161 = .ok (.putfield 64, 3) := by decide +kernel
theorem dX12_init_164 : decode cX12_init 164 = .ok (.aload_n 0, 1) := by decide +kernel
theorem dX12_init_165 : decode cX12_init 165 = .ok (.sipush 145, 3) := by decide +kernel
theorem dX12_init_168 : decode cX12_init 168 = .ok (.newarray .boolean, 2) := by decide +kernel
theorem dX12_init_170 : decode cX12_init 170 = .ok (.putfield 67, 3) := by decide +kernel
theorem dX12_init_173 : decode cX12_init 173 = .ok (.aload_n 0, 1) := by decide +kernel
theorem dX12_init_174 : decode cX12_init 174 = .ok (.sipush 144, 3) := by decide +kernel
theorem dX12_init_177 : decode cX12_init 177 = .ok (.newarray .int, 2) := by decide +kernel
theorem dX12_init_179 : decode cX12_init 179 = .ok (.putfield 70, 3) := by decide +kernel
theorem dX12_init_182 : decode cX12_init 182 = .ok (.aload_n 0, 1) := by decide +kernel
theorem dX12_init_183 : decode cX12_init 183 = .ok (.sipush 2700, 3) := by decide +kernel
theorem dX12_init_186 : decode cX12_init 186 = .ok (.newarray .long, 2) := by decide +kernel
theorem dX12_init_188 : decode cX12_init 188 = .ok (.putfield 73, 3) := by decide +kernel
theorem dX12_init_191 : decode cX12_init 191 = .ok (.aload_n 0, 1) := by decide +kernel
theorem dX12_init_192 : decode cX12_init 192 = .ok (.sipush 144, 3) := by decide +kernel
theorem dX12_init_195 : decode cX12_init 195 = .ok (.newarray .int, 2) := by decide +kernel
theorem dX12_init_197 : decode cX12_init 197 = .ok (.putfield 76, 3) := by decide +kernel
theorem dX12_init_200 : decode cX12_init 200 = .ok (.iconst 1, 1) := by decide +kernel
theorem dX12_init_201 : decode cX12_init 201 = .ok (.istore_n 1, 1) := by decide +kernel
theorem dX12_init_202 : decode cX12_init 202 = .ok (.iload_n 1, 1) := by decide +kernel
theorem dX12_init_203 : decode cX12_init 203 = .ok (.ldc 60, 2) := by decide +kernel
theorem dX12_init_205 : decode cX12_init 205 = .ok (.if_icmp .ge 27, 3) := by decide +kernel
theorem dX12_init_208 : decode cX12_init 208 = .ok (.aload_n 0, 1) := by decide +kernel
theorem dX12_init_209 : decode cX12_init 209 = .ok (.getfield 61, 3) := by decide +kernel
theorem dX12_init_212 : decode cX12_init 212 = .ok (.iload_n 1, 1) := by decide +kernel
theorem dX12_init_213 : decode cX12_init 213 = .ok (.aload_n 0, 1) := by decide +kernel
theorem dX12_init_214 : decode cX12_init 214 = .ok (.getfield 61, 3) := by decide +kernel
theorem dX12_init_217 : decode cX12_init 217 = .ok (.iload_n 1, 1) := by decide +kernel
theorem dX12_init_218 : decode cX12_init 218 = .ok (.iconst 2, 1) := by decide +kernel
theorem dX12_init_219 : decode cX12_init 219 = .ok (.idiv, 1) := by decide +kernel
theorem dX12_init_220 : decode cX12_init 220 = .ok (.iaload, 1) := by decide +kernel
theorem dX12_init_221 : decode cX12_init 221 = .ok (.iload_n 1, 1) := by decide +kernel
theorem dX12_init_222 : decode cX12_init 222 = .ok (.iconst 2, 1) := by decide +kernel
theorem dX12_init_223 : decode cX12_init 223 = .ok (.irem, 1) := by decide +kernel
theorem dX12_init_224 : decode cX12_init 224 = .ok (.iadd, 1) := by decide +kernel
theorem dX12_init_225 : decode cX12_init 225 = .ok (.iastore, 1) := by decide +kernel
theorem dX12_init_226 : decode cX12_init 226 = .ok (.iinc 1 1, 3) := by decide +kernel
theorem dX12_init_229 : decode cX12_init 229 = .ok (.goto (-27), 3) := by decide +kernel
theorem dX12_init_232 : decode cX12_init 232 = .ok (.return_, 1) := by decide +kernel
def P_X12_loop (post : (Int → Int) → Prop) (M_bits : Int → Int) : Prop :=
  ∃ Inv_1 : Nat → (Int) → (Int → Int) → Prop, (∃ n_2 : Nat, Inv_1 n_2 1 M_bits) ∧ ∀ (n_3 : Nat) (x1_6 : Int) (M_bits_7 : Int → Int), inR x1_6 → Inv_1 n_3 x1_6 M_bits_7 → ((65536 ≤ x1_6 → (post M_bits_7)) ∧ (¬ 65536 ≤ x1_6 → ((0 ≤ (x1_6.tdiv 2) ∧ (x1_6.tdiv 2) < 65536) ∧ (∀ v_10 : Int, v_10 = M_bits_7 (x1_6.tdiv 2) → inR v_10 → ((0 ≤ x1_6 ∧ x1_6 < 65536) ∧ (inR (v_10 + (x1_6.tmod 2)) ∧ (∀ M_bits_13 : Int → Int, M_bits_13 = upZ M_bits_7 x1_6 (v_10 + (x1_6.tmod 2)) → (inR (x1_6 + 1) ∧ (∀ x1_15 : Int, x1_15 = (x1_6 + 1) → (∃ n_16 : Nat, n_16 < n_3 ∧ Inv_1 n_16 x1_15 M_bits_13))))))))))
set_option maxRecDepth 100000 in
set_option maxHeartbeats 4000000 in
theorem loop_X12 {p : Program} {l : Launch} {e : Env} {s : State} {m : MethodId} {args : Array Value} {below : List Frame} {meth : Method} {c : Code} {Q : State → Prop} {K : wK} {ad : Nat → Nat} {A : Nat → Prop} {M_thrown : Int} {M_w : Int} {M_h : Int} {M_cells : Int} {M_shape : Int} {M_isBoard : Int} {M_isBlank : Int} {M_lives : Int} {M_moves : Int} {M_parts : Int} {M_numbers : Int} {M_grade : Int} {M_reasons : Int} {M_total : Int} {M_near : Int → Int} {M_degree : Int → Int} {M_mine : Int → Int} {M_state : Int → Int} {M_history : Int → Int64} {M_oldLives : Int → Int} {M_safe : Int → Int} {M_mined : Int → Int} {M_used : Int → Int} {M_partOf : Int → Int} {M_placeOf : Int → Int} {M_partSize : Int → Int} {M_ways : Int → Int} {M_with : Int → Int} {M_masks : Int → Int} {M_rests : Int → Int} {M_bits : Int → Int} {M_reach : Int → Int} {M_more : Int → Int} {M_reason : Int → Int} {M_big : Int → Int64} {M_region : Int → Int} (post : (Int → Int) → Prop) (C : Cx p ({ frames := 2, cells := 22, slots := 98526, locals := 120 } : Room) m c 22 98526 cX12_init 2 s args RX12 K A) (ret : ∀ {pc : Nat} {lv : List (Nat × Value)} {u : List AC}, decode cX12_init pc = .ok (.return_, 1) → (∃ M_bits9, u = (mW M_thrown M_w M_h M_cells M_shape M_isBoard M_isBlank M_lives M_moves M_parts M_numbers M_grade M_reasons M_total M_near M_degree M_mine M_state M_history M_oldLives M_safe M_mined M_used M_partOf M_placeOf M_partSize M_ways M_with M_masks M_rests M_bits9 M_reach M_more M_reason M_big M_region) ∧ post M_bits9) → WA p l e ({ frames := 2, cells := 22, slots := 98526, locals := 120 } : Room) s m args below meth c 22 98526 Q K ad 2 A pc lv [] u) (h : P_X12_loop post M_bits) : WA p l e ({ frames := 2, cells := 22, slots := 98526, locals := 120 } : Room) s m args below meth c 22 98526 Q K ad 2 A 202 [(1, .int (iI 1)), (0, .ref (ad 0))] [] (mW M_thrown M_w M_h M_cells M_shape M_isBoard M_isBlank M_lives M_moves M_parts M_numbers M_grade M_reasons M_total M_near M_degree M_mine M_state M_history M_oldLives M_safe M_mined M_used M_partOf M_placeOf M_partSize M_ways M_with M_masks M_rests M_bits M_reach M_more M_reason M_big M_region) := by
  unfold P_X12_loop at h
  obtain ⟨Inv_1, ⟨n_2, h0Inv_1⟩, hInv_1⟩ := h
  have k_5 : ∀ (n_3 : Nat) (x1_6 : Int) (M_bits_7 : Int → Int), inR x1_6 → Inv_1 n_3 x1_6 M_bits_7 → WA p l e ({ frames := 2, cells := 22, slots := 98526, locals := 120 } : Room) s m args below meth c 22 98526 Q K ad 2 A 202 [(0, .ref (ad 0)), (1, .int (iI x1_6))] [] (mW M_thrown M_w M_h M_cells M_shape M_isBoard M_isBlank M_lives M_moves M_parts M_numbers M_grade M_reasons M_total M_near M_degree M_mine M_state M_history M_oldLives M_safe M_mined M_used M_partOf M_placeOf M_partSize M_ways M_with M_masks M_rests M_bits_7 M_reach M_more M_reason M_big M_region) := by
    intro n_3
    induction n_3 using Nat.strongRecOn with
    | ind n_3 ih_4 =>
      intro x1_6 M_bits_7 rx1_6 h
      replace h := hInv_1 n_3 x1_6 M_bits_7 rx1_6 h
      refine wa_iload_n C 1 rfl dX12_init_202 rfl ?_
      refine wa_ldc C (z := 65536) gw_1231 rfl dX12_init_203 ?_
      refine wa_icmp_ge C (tgt := 232) rx1_6 (inR_k 65536 rfl) dX12_init_205 (by decide) (fun c_8 => ?_) (fun c_8 => ?_)
      · replace h := h.1 c_8
        exact ret dX12_init_232 ⟨_, rfl, h⟩
      · replace h := h.2 c_8
        refine wa_aload_n C 0 rfl dX12_init_208 rfl ?_
        refine wa_getR C 0 27 mW_0 rfl rfl (by decide) okX12 gw_1259 dX12_init_209 ?_
        refine wa_iload_n C 1 rfl dX12_init_212 rfl ?_
        refine wa_aload_n C 0 rfl dX12_init_213 rfl ?_
        refine wa_getR C 0 27 mW_0 rfl rfl (by decide) okX12 gw_1259 dX12_init_214 ?_
        refine wa_iload_n C 1 rfl dX12_init_217 rfl ?_
        refine wa_iconst C (z := 2) dX12_init_218 rfl ?_
        refine wa_idiv C dX12_init_219 rx1_6 (inR_k 2 rfl) (by decide) ?_
        obtain ⟨t_9, h⟩ := h
        refine wa_iald C 17 mW_17 dX12_init_220 t_9.1 t_9.2 (fun v_10 ev_10 rv_10 => ?_)
        replace h := h v_10 ev_10 rv_10
        refine wa_iload_n C 1 rfl dX12_init_221 rfl ?_
        refine wa_iconst C (z := 2) dX12_init_222 rfl ?_
        refine wa_irem C dX12_init_223 rx1_6 (inR_k 2 rfl) (by decide) ?_
        refine wa_iadd C dX12_init_224 ?_
        obtain ⟨t_11, h⟩ := h
        obtain ⟨r_12, h⟩ := h
        refine wa_iast C (ws' := fun w9 => (mW M_thrown M_w M_h M_cells M_shape M_isBoard M_isBlank M_lives M_moves M_parts M_numbers M_grade M_reasons M_total M_near M_degree M_mine M_state M_history M_oldLives M_safe M_mined M_used M_partOf M_placeOf M_partSize M_ways M_with M_masks M_rests w9 M_reach M_more M_reason M_big M_region)) 17 mW_17 dX12_init_225 t_11.1 t_11.2 r_12 mWs_17 (fun M_bits_13 eM_bits_13 => ?_)
        replace h := h M_bits_13 eM_bits_13
        obtain ⟨r_14, h⟩ := h
        refine wa_iinc C (lv' := fun w9 => [(1, .int (iI w9)), (0, .ref (ad 0))]) 1 rfl dX12_init_226 (by decide) (fun _ => rfl) (fun x1_15 ex1_15 => ?_)
        replace h := h x1_15 ex1_15
        have rx1_15 : inR x1_15 := by rw [ex1_15]; exact r_14
        refine wa_goto C (tgt := 202) dX12_init_229 (by decide) ?_
        obtain ⟨n_16, ln_16, h⟩ := h
        refine wa_sub C [1, 0] rfl ?_
        exact ih_4 n_16 ln_16 x1_15 M_bits_13 rx1_15 h
  refine wa_sub C [1, 0] rfl ?_
  exact k_5 n_2 1 M_bits (inR_k 1 rfl) h0Inv_1
theorem loop_BT : P_X12_loop BT (fun _ => 0) := by
  refine ⟨fun n x b => 1 ≤ x ∧ x ≤ 65536 ∧ (n : Int) = 65536 - x ∧ b 0 = 0 ∧ (∀ k, 1 ≤ k → k < x → b k = b (k / 2) + k % 2) ∧ (∀ k, 0 ≤ k → k < x → 0 ≤ b k ∧ b k ≤ k), ⟨65535, by omega, by omega, by omega, rfl, fun k h1 h2 => by omega, fun k h1 h2 => ⟨Int.le_refl 0, h1⟩⟩, ?_⟩
  intro n x b rx h
  obtain ⟨h1, h2, hn, h0, hb, hk⟩ := h
  refine ⟨fun c => ⟨h0, fun k a1 a2 => hb k a1 (by omega)⟩, fun c => ?_⟩
  have ed : x.tdiv 2 = x / 2 := Int.tdiv_eq_ediv_of_nonneg (by omega)
  have em : x.tmod 2 = x % 2 := Int.tmod_eq_emod_of_nonneg (by omega)
  rw [ed, em]
  refine ⟨⟨by omega, by omega⟩, fun v ev _ => ?_⟩
  obtain ⟨v0, v1⟩ := hk (x / 2) (by omega) (by omega)
  rw [← ev] at v0 v1
  refine ⟨⟨by omega, by omega⟩, by unfold inR; omega, fun b' eb => ⟨by unfold inR; omega, fun x' ex => ⟨n - 1, by omega, by omega, by omega, by omega, ?_, ?_, ?_⟩⟩⟩
  · rw [eb, upZ_n _ _ (by omega)]; exact h0
  · intro k a1 a2
    have e2 : b' (k / 2) = b (k / 2) := by rw [eb]; exact upZ_n _ _ (by omega)
    rw [e2]
    by_cases e : k = x
    · rw [e, eb, upZ_s, ev]
    · rw [eb, upZ_n _ _ e]; exact hb k a1 (by omega)
  · intro k a1 a2
    by_cases e : k = x
    · rw [e, eb, upZ_s]; omega
    · rw [eb, upZ_n _ _ e]; exact hk k a1 (by omega)
