/-! rows of the law: its script, its calls on both sides -/
def bz (v : Int) : Int := if v = 0 then 0 else 1
theorem bz_b (v : Int) : bz v = 0 ∨ bz v = 1 := by
  unfold bz
  split
  · exact Or.inl rfl
  · exact Or.inr rfl
/-- the script at a place -/
def sv (xs : Nat → Int32) (i : Int) : Int := (xs i.toNat).toInt
theorem sv_r (xs : Nat → Int32) (i : Int) : inR (sv xs i) := inR_toInt _
def SX (b L : Nat) (xs : Nat → Int32) (A : Nat → Prop) (s : State) : Prop := va_X b L xs s s.heap ∧ b < s.heap.size ∧ ¬ A b ∧ L ≤ 3584
section LRows
variable {p : Program} {l : Launch} {e : Env} {R : Room} {s : State} {m : MethodId} {args : Array Value} {below : List Frame} {meth : Method} {c : Code} {cells slots : Nat} {Q : State → Prop} {K : wK} {nL : Nat} {A : Nat → Prop} {cc : ByteArray} {own : String} {pc : Nat} {lv : List (Nat × Value)} {st : List Value} {w : va_W}
theorem wn_lconst (C : Cx p R m c cells slots cc nL s args own K A) {n : Fin 2} {v : Int64} (hd : decode cc pc = .ok (.lconst n, 1)) (hz : Int64.ofNat (n : Nat) = v) (kk : WN p l e R s m args below meth c cells slots Q K nL A (pc + 1) lv (.long v :: st) w) : WN p l e R s m args below meth c cells slots Q K nL A pc lv st w :=
  fun H locs ls hP hD hS hl => lv_lconst C.1 C.2.1 hd hz (kk H locs ls hP hD hS hl)
theorem wn_iload (C : Cx p R m c cells slots cc nL s args own K A) {i : Nat} {z : Int} (pl : Nat) (hk : lv[pl]? = some (i, .int (iI z))) (hd : decode cc pc = .ok (.iload i, 2)) (kk : WN p l e R s m args below meth c cells slots Q K nL A (pc + 2) lv (.int (iI z) :: st) w) : WN p l e R s m args below meth c cells slots Q K nL A pc lv st w :=
  fun H locs ls hP hD hS hl => lv_iload C.1 C.2.1 hd (lv_at hl pl hk) (kk H locs ls hP hD hS hl)
theorem wn_istore (C : Cx p R m c cells slots cc nL s args own K A) {i : Nat} {z : Int} {lv' : List (Nat × Value)} (hd : decode cc pc = .ok (.istore i, 2)) (hn : i < nL) (hl' : (i, Value.int (iI z)) :: lv.filter (fun q => !(q.1 == i) && !(q.1 + 1 == i && q.2.category == 2)) = lv') (kk : WN p l e R s m args below meth c cells slots Q K nL A (pc + 2) lv' st w) : WN p l e R s m args below meth c cells slots Q K nL A pc lv (.int (iI z) :: st) w :=
  fun H locs ls hP hD hS hl => lv_istore C.1 C.2.1 hd hl hn hl' (fun ls' hl2 => kk H locs ls' hP hD hS hl2)
theorem wn_iinc (C : Cx p R m c cells slots cc nL s args own K A) {i : Nat} {n : Int} {z : Int} {lv' : Int → List (Nat × Value)} (pl : Nat) (hk : lv[pl]? = some (i, .int (iI z))) (hd : decode cc pc = .ok (.iinc i n, 3)) (hn : i < nL) (hl' : ∀ x, (i, Value.int (iI x)) :: lv.filter (fun q => !(q.1 == i) && !(q.1 + 1 == i && q.2.category == 2)) = lv' x) (kk : ∀ x, x = z + n → WN p l e R s m args below meth c cells slots Q K nL A (pc + 3) (lv' x) st w) : WN p l e R s m args below meth c cells slots Q K nL A pc lv st w :=
  fun H locs ls hP hD hS hl => lv_iinc C.1 C.2.1 hd hl hk (iI_add z n) hn (hl' _) (fun ls' hl2 => kk _ rfl H locs ls' hP hD hS hl2)
theorem wn_iadd (C : Cx p R m c cells slots cc nL s args own K A) {x y : Int} (hd : decode cc pc = .ok (.iadd, 1))  (kk : WN p l e R s m args below meth c cells slots Q K nL A (pc + 1) lv (.int (iI (x + y)) :: st) w) : WN p l e R s m args below meth c cells slots Q K nL A pc lv (.int (iI y) :: .int (iI x) :: st) w := by
  intro H locs ls hP hD hS hl
  refine lv_iadd C.1 C.2.1 hd  ?_
  rw [iI_add]
  exact kk H locs ls hP hD hS hl
theorem wn_isub (C : Cx p R m c cells slots cc nL s args own K A) {x y : Int} (hd : decode cc pc = .ok (.isub, 1))  (kk : WN p l e R s m args below meth c cells slots Q K nL A (pc + 1) lv (.int (iI (x - y)) :: st) w) : WN p l e R s m args below meth c cells slots Q K nL A pc lv (.int (iI y) :: .int (iI x) :: st) w := by
  intro H locs ls hP hD hS hl
  refine lv_isub C.1 C.2.1 hd  ?_
  rw [iI_sub]
  exact kk H locs ls hP hD hS hl
theorem wn_iand (C : Cx p R m c cells slots cc nL s args own K A) {x y : Int} (hd : decode cc pc = .ok (.iand, 1))  (kk : WN p l e R s m args below meth c cells slots Q K nL A (pc + 1) lv (.int (iI (andI x y)) :: st) w) : WN p l e R s m args below meth c cells slots Q K nL A pc lv (.int (iI y) :: .int (iI x) :: st) w := by
  intro H locs ls hP hD hS hl
  refine lv_iand C.1 C.2.1 hd  ?_
  rw [show iI x &&& iI y = iI (andI x y) from (iI_back _).symm]
  exact kk H locs ls hP hD hS hl
theorem wn_i2l (C : Cx p R m c cells slots cc nL s args own K A) {x : Int} (hx : inR x) (hd : decode cc pc = .ok (.i2l, 1)) (kk : WN p l e R s m args below meth c cells slots Q K nL A (pc + 1) lv (.long (Int64.ofInt x) :: st) w) : WN p l e R s m args below meth c cells slots Q K nL A pc lv (.int (iI x) :: st) w :=
  fun H locs ls hP hD hS hl => lv_i2l C.1 C.2.1 hd (iI_i2l hx) (kk H locs ls hP hD hS hl)
theorem wn_lcmp (C : Cx p R m c cells slots cc nL s args own K A) {x y : Int64} (hd : decode cc pc = .ok (.lcmp, 1)) (kk : WN p l e R s m args below meth c cells slots Q K nL A (pc + 1) lv (.int (iI (lcI x y)) :: st) w) : WN p l e R s m args below meth c cells slots Q K nL A pc lv (.long y :: .long x :: st) w := by
  intro H locs ls hP hD hS hl
  refine W.lcmp C.1 C.2.1 hd ?_
  rw [lcI_eq]
  exact kk H locs ls hP hD hS hl
theorem wn_goto (C : Cx p R m c cells slots cc nL s args own K A) {off : Int} {tgt : Nat} (hd : decode cc pc = .ok (.goto off, 3)) (ht : (pc : Int) + off = (tgt : Int)) (kk : WN p l e R s m args below meth c cells slots Q K nL A tgt lv st w) : WN p l e R s m args below meth c cells slots Q K nL A pc lv st w :=
  fun H locs ls hP hD hS hl => lv_goto C.1 C.2.1 hd ht (kk H locs ls hP hD hS hl)
theorem wn_icmp_eq (C : Cx p R m c cells slots cc nL s args own K A) {x y : Int} {off : Int} {tgt : Nat} (hx : inR x) (hy : inR y) (hd : decode cc pc = .ok (.if_icmp .eq off, 3)) (ht : (pc : Int) + off = (tgt : Int)) (kt : x = y → WN p l e R s m args below meth c cells slots Q K nL A tgt lv st w) (kf : ¬ x = y → WN p l e R s m args below meth c cells slots Q K nL A (pc + 3) lv st w) : WN p l e R s m args below meth c cells slots Q K nL A pc lv (.int (iI y) :: .int (iI x) :: st) w :=
  fun H locs ls hP hD hS hl => lv_icmp_eq C.1 C.2.1 hd ht (fun h => kt ((iI_eq hx hy).mp h) H locs ls hP hD hS hl) (fun h => kf (fun q => h ((iI_eq hx hy).mpr q)) H locs ls hP hD hS hl)
theorem wn_icmp_gt (C : Cx p R m c cells slots cc nL s args own K A) {x y : Int} {off : Int} {tgt : Nat} (hx : inR x) (hy : inR y) (hd : decode cc pc = .ok (.if_icmp .gt off, 3)) (ht : (pc : Int) + off = (tgt : Int)) (kt : y < x → WN p l e R s m args below meth c cells slots Q K nL A tgt lv st w) (kf : ¬ y < x → WN p l e R s m args below meth c cells slots Q K nL A (pc + 3) lv st w) : WN p l e R s m args below meth c cells slots Q K nL A pc lv (.int (iI y) :: .int (iI x) :: st) w :=
  fun H locs ls hP hD hS hl => lv_icmp_gt C.1 C.2.1 hd ht (fun h => kt ((iI_lt hy hx).mp h) H locs ls hP hD hS hl) (fun h => kf (fun q => h ((iI_lt hy hx).mpr q)) H locs ls hP hD hS hl)
theorem wn_if_eq (C : Cx p R m c cells slots cc nL s args own K A) {x : Int} {off : Int} {tgt : Nat} (hx : inR x) (hd : decode cc pc = .ok (.ifCond .eq off, 3)) (ht : (pc : Int) + off = (tgt : Int)) (kt : x = 0 → WN p l e R s m args below meth c cells slots Q K nL A tgt lv st w) (kf : ¬ x = 0 → WN p l e R s m args below meth c cells slots Q K nL A (pc + 3) lv st w) : WN p l e R s m args below meth c cells slots Q K nL A pc lv (.int (iI x) :: st) w :=
  fun H locs ls hP hD hS hl => lv_if_eq C.1 C.2.1 hd ht (fun h => kt ((iI_eq hx inR_zero).mp h) H locs ls hP hD hS hl) (fun h => kf (fun q => h ((iI_eq hx inR_zero).mpr q)) H locs ls hP hD hS hl)
theorem wn_if_ne (C : Cx p R m c cells slots cc nL s args own K A) {x : Int} {off : Int} {tgt : Nat} (hx : inR x) (hd : decode cc pc = .ok (.ifCond .ne off, 3)) (ht : (pc : Int) + off = (tgt : Int)) (kt : ¬ x = 0 → WN p l e R s m args below meth c cells slots Q K nL A tgt lv st w) (kf : x = 0 → WN p l e R s m args below meth c cells slots Q K nL A (pc + 3) lv st w) : WN p l e R s m args below meth c cells slots Q K nL A pc lv (.int (iI x) :: st) w :=
  fun H locs ls hP hD hS hl => lv_if_ne C.1 C.2.1 hd ht (fun h => kt (fun q => h ((iI_eq hx inR_zero).mpr q)) H locs ls hP hD hS hl) (fun h => kf ((iI_eq hx inR_zero).mp h) H locs ls hP hD hS hl)
theorem wn_tabIn (C : Cx p R m c cells slots cc nL s args own K A) {dflt lo hi : Int} {offs : Array Int} {len : Nat} {x : Int} {off : Int} {tgt : Nat} (hx : inR x) (hd : decode cc pc = .ok (.tableswitch dflt lo hi offs, len)) (h1 : ¬ x < lo) (h2 : ¬ hi < x) (ho : offs[(x - lo).toNat]? = some off) (ht : (pc : Int) + off = (tgt : Int)) (kk : WN p l e R s m args below meth c cells slots Q K nL A tgt lv st w) : WN p l e R s m args below meth c cells slots Q K nL A pc lv (.int (iI x) :: st) w :=
  fun H locs ls hP hD hS hl => lv_tableIn C.1 C.2.1 hd (by rw [iI_toInt hx]; exact h1) (by rw [iI_toInt hx]; exact h2) (by rw [iI_toInt hx]; exact ho) ht (kk H locs ls hP hD hS hl)
theorem wn_scr (C : Cx p R m c cells slots cc nL s args own K A) {b L : Nat} {xs : Nat → Int32} (S : SX b L xs A s) {i : Int} (h0 : 0 ≤ i) (h1 : i < L) (hd : decode cc pc = .ok (.iaload, 1)) (kk : WN p l e R s m args below meth c cells slots Q K nL A (pc + 1) lv (.int (iI (sv xs i)) :: st) w) : WN p l e R s m args below meth c cells slots Q K nL A pc lv (.int (iI i) :: .ref b :: st) w := by
  intro H locs ls hP hD hS hl
  obtain ⟨hX, hbl, hbA, hL⟩ := S
  refine va_sld C.1 C.2.1 hX hbl hbA hS (iI_in (by omega) h0 h1) hd ?_
  rw [iI_clamp ⟨by omega, by omega⟩, show xs i.toNat = iI (sv xs i) from (iI_back _).symm]
  exact kk H locs ls hP hD hS hl
theorem wn_slen (C : Cx p R m c cells slots cc nL s args own K A) {b L : Nat} {xs : Nat → Int32} (S : SX b L xs A s) (hd : decode cc pc = .ok (.arraylength, 1)) (kk : WN p l e R s m args below meth c cells slots Q K nL A (pc + 1) lv (.int (iI (L : Int)) :: st) w) : WN p l e R s m args below meth c cells slots Q K nL A pc lv (.ref b :: st) w := by
  intro H locs ls hP hD hS hl
  obtain ⟨hX, hbl, hbA, hL⟩ := S
  refine va_slen C.1 C.2.1 hX hbl hbA hS hd ?_
  rw [show Int32.ofNat L = iI (L : Int) from rfl]
  exact kk H locs ls hP hD hS hl
theorem wn_lald (C : Cx p R m c cells slots cc nL s args own K A) {n q : Nat} {a : Int → Int64} {i : Int} (k : Nat) (hg : w[k]? = some (q, .inl (K.2.2.2, n, .inr (.inl (fun j : Nat => a (j : Int)))))) (hn : n < 2147483648) (hd : decode cc pc = .ok (.laload, 1)) (h0 : 0 ≤ i) (h1 : i < n) (kk : WN p l e R s m args below meth c cells slots Q K nL A (pc + 1) lv (.long (a i) :: st) w) : WN p l e R s m args below meth c cells slots Q K nL A pc lv (.int (iI i) :: .ref q :: st) w := by
  intro H locs ls hP hD hS hl
  refine va_lald C.1 C.2.1 C.2.2.2.2.2.1 hP k 2 hg rfl (iI_in hn h0 h1) hd ?_
  rw [iI_clamp ⟨by omega, by omega⟩, Int.toNat_of_nonneg h0]
  exact kk H locs ls hP hD hS hl
theorem wn_bool (C : Cx p R m c cells slots cc nL s args own K A) {v : Int} {o1 o2 : Int} {t0 t1 p3 p4 : Nat} (rv : inR v) (d0 : decode cc pc = .ok (.ifCond .eq o1, 3)) (ht : (pc : Int) + o1 = (t0 : Int)) (e3 : pc + 3 = p3) (d1 : decode cc p3 = .ok (.iconst 1, 1)) (e4 : p3 + 1 = p4) (d2 : decode cc p4 = .ok (.goto o2, 3)) (ht2 : (p4 : Int) + o2 = (t1 : Int)) (d3 : decode cc t0 = .ok (.iconst 0, 1)) (e5 : t0 + 1 = t1) (kk : WN p l e R s m args below meth c cells slots Q K nL A t1 lv (.int (iI (bz v)) :: st) w) : WN p l e R s m args below meth c cells slots Q K nL A pc lv (.int (iI v) :: st) w := by
  subst e3
  subst e4
  refine wn_if_eq C rv d0 ht (fun h => ?_) (fun h => ?_)
  · refine wn_iconst C (z := bz v) d3 (by rw [show bz v = 0 from if_pos h]; rfl) ?_
    rw [e5]
    exact kk
  · refine wn_iconst C (z := bz v) d1 (by rw [show bz v = 1 from if_neg h]; rfl) ?_
    exact wn_goto C d2 ht2 kk
theorem wn_boolL (C : Cx p R m c cells slots cc nL s args own K A) {v : Int} {o1 o2 : Int} {t0 t1 p3 p4 : Nat} (bv : v = 0 ∨ v = 1) (d0 : decode cc pc = .ok (.ifCond .eq o1, 3)) (ht : (pc : Int) + o1 = (t0 : Int)) (e3 : pc + 3 = p3) (d1 : decode cc p3 = .ok (.lconst 1, 1)) (e4 : p3 + 1 = p4) (d2 : decode cc p4 = .ok (.goto o2, 3)) (ht2 : (p4 : Int) + o2 = (t1 : Int)) (d3 : decode cc t0 = .ok (.lconst 0, 1)) (e5 : t0 + 1 = t1) (kk : WN p l e R s m args below meth c cells slots Q K nL A t1 lv (.long (Int64.ofInt v) :: st) w) : WN p l e R s m args below meth c cells slots Q K nL A pc lv (.int (iI v) :: st) w := by
  subst e3
  subst e4
  refine wn_if_eq C (inR_b bv) d0 ht (fun h => ?_) (fun h => ?_)
  · refine wn_lconst C (v := Int64.ofInt v) d3 (by rw [h]; rfl) ?_
    rw [e5]
    exact kk
  · refine wn_lconst C (v := Int64.ofInt v) d1 (by rw [bv.resolve_left h]; rfl) ?_
    exact wn_goto C d2 ht2 kk
theorem wn_widen {c2 s2 : Nat} (h1 : cells ≤ c2) (h2 : slots ≤ s2) (kk : WN p l e R s m args below meth c c2 s2 Q K nL A pc lv st w) : WN p l e R s m args below meth c cells slots Q K nL A pc lv st w := fun H locs ls hP hD hS hl => W.widen h1 h2 (kk H locs ls hP hD hS hl)
theorem wn_perm {w' : va_W} (is : List Nat) (hn : va_nd is = true) (hs : is.map (fun i => w[i]?) = w'.map some) (kk : WN p l e R s m args below meth c cells slots Q K nL A pc lv st w') : WN p l e R s m args below meth c cells slots Q K nL A pc lv st w := by
  intro H locs ls hP hD hS hl
  refine kk H locs ls (fun k q hk => ?_) (hD.sub is hn hs) hS hl
  have h1 : (is.map (fun i => w[i]?))[k]? = some (some q) := by rw [hs, List.getElem?_map, hk]; rfl
  rw [List.getElem?_map] at h1
  cases h2 : is[k]? with
  | none => rw [h2] at h1; cases h1
  | some i => rw [h2] at h1; exact hP i q (Option.some.inj h1)
theorem wn_callE (C : Cx p R m c cells slots cc nL s args own K A) (T : tOK A s) {y : MethodName} {bytes : ByteArray} {maxL n index mc ms : Nat} {hh : List (Nat × Nat × Nat × Nat)} {rm : Room} {As rest : List Value} {ad1 : Nat → Nat} {w1 : List AC} {w2 : va_W} {post : Int → List AC → Prop} (hM : eI l y (Cond.codeWith y bytes maxL (some .int) hh :: GT) rm mc ms As K ad1 w1 post) (hO : okW w1) (hcode : Cond.codeWith y bytes maxL (some .int) hh ∈ GT) (hln : Cond.methodLink own index y ∈ GT) (hi : Cond.static y ∈ GT) (hini : Cond.initialized y.cls ∈ GT) (hdesc : y.cls ≠ "java/lang/invoke/MethodHandle" ∧ y.cls ≠ "java/lang/invoke/VarHandle" ∧ (parseMethodDescriptor y.desc).map (fun d => d.parameters.length) = some n) (hn : As.length = n) (hrc : rm.cells = mc) (hrs : rm.slots = ms) (hR : rm.frames + 1 ≤ R.frames ∧ 8 + (maxL + 11) + rm.locals ≤ R.locals) (hst : st = As.reverse ++ rest) (hroom : (rest.map fun v => v.category).sum ≤ 8) (hd : decode cc pc = .ok (.invokestatic index, 3)) (hcR : cells + mc ≤ R.cells ∧ slots + ms ≤ R.slots) (kk : ∀ z u, inR z → okW u → post z u → WN p l e R s m args below meth c (cells + mc) (slots + ms) Q K nL A (pc + 3) lv (.int (iI z) :: rest) (wG K ad1 u ++ w2)) : WN p l e R s m args below meth c cells slots Q K nL A pc lv st (wG K ad1 w1 ++ w2) := by
  intro H locs ls hP hD hS hl
  have hP1 := hP.left
  have hD1 := hD.left
  have hFc : ∀ q, cA K ad1 w1 H.size q → A q := fun q h => h.elim (fun ⟨i, e9, he⟩ => hD1.2 i (q, e9) he) (fun h => C.2.2.2.2.2.2.1 q (Nat.le_trans hS.1 h))
  have hpre : ∀ U : State, U.heap = H → s.WarmedH U.vm → xPre K ad1 As w1 H.size As.toArray U := fun U hU hW => ⟨rfl, by rw [hU], ⟨by rw [hU]; exact hP1, va_K.moved hW.alike C.2.2.2.2.2.1, hD1.weaken (fun _ _ _ _ => trivial), hO⟩, C.2.2.2.2.2.2.2.2.2.call hS hFc hU hW.alike, T.call hS hFc hU hW⟩
  have hg : GoodIn GT (va_wsS own index y (Cond.codeWith y bytes maxL (some .int) hh :: GT)) := by
    refine gt_in (fun w hw9 => ?_)
    rcases List.mem_append.mp hw9 with h | h
    · rcases List.mem_cons.mp h with rfl | h
      · exact hln
      · rcases List.mem_cons.mp h with rfl | h
        · exact hi
        · rcases List.mem_cons.mp h with rfl | h
          · exact hini
          · cases h
    · rcases List.mem_cons.mp h with rfl | h
      · exact hcode
      · exact h
  refine va_calli (vx_runSW (hh := hh) (As := As) (rest := rest) ⟨C.1, C.2.1, C.2.2.1, C.2.2.2.1, C.2.2.2.2.1⟩ (hM H.size) (vx_cwSW n C.2.2.2.2.1 hg rfl hrc hrs hdesc hR) ⟨xPre_blind, hpre⟩ rfl hn hl.1 hst (lv_room hroom) hd hcR) hS (fun q _ h => hFc q h) hFc (fun r u t H1 locs1 ht hvm hw1 hB hz1 hk1 hS1 => ?_)
  obtain ⟨z, hz, rfl, hp⟩ := hw1
  obtain ⟨hP2, hK2, hD2, hO2⟩ := hB
  rw [ht] at hP2
  have j := sp_join hP hD hk1 hFc hP2 hD2
  exact kk z u hz hO2 hp H1 locs1 ls j.1 j.2 hS1 hl
theorem wn_callMi (C : Cx p R m c cells slots cc nL s args own K A) {y : MethodName} {bytes : ByteArray} {maxL n index : Nat} {ret : Option FieldType} {rm : Room} {As rest : List Value} {ci N : Nat} {fs : List FV} {Cn : String} {Ty : u_T} {ad2 : Nat → Nat} {w1 : va_W} {w2 : List AC} {post : Int → List AC → Prop} (hM : mI l y (Cond.code y bytes maxL ret :: GT) rm (.ref (ad2 0) :: As) K ad2 w2 post) (hO : okW w2) (hcode : Cond.code y bytes maxL ret ∈ GT) (hln : Cond.methodLink own index y ∈ GT) (hw : w2[0]? = some (.inl (ci, fs))) (hcl : vwCl[ci]? = some (Cn, Ty, N)) (hi : Cond.instanceMethod y ∈ GT) (hse : Cond.selects Cn y y ∈ GT) (hini : Cond.initialized Cn ∈ GT) (hdesc : y.cls = Cn ∧ y.cls ≠ "java/lang/invoke/MethodHandle" ∧ y.cls ≠ "java/lang/invoke/VarHandle" ∧ (parseMethodDescriptor y.desc).map (fun d => d.parameters.length) = some n) (hn : As.length = n) (hrc : rm.cells = 0) (hrs : rm.slots = 0) (hR : rm.frames + 1 ≤ R.frames ∧ 8 + (maxL + 11) + rm.locals ≤ R.locals) (hst : st = As.reverse ++ .ref (ad2 0) :: rest) (hroom : (rest.map fun v => v.category).sum ≤ 8) (hd : decode cc pc = .ok (.invokevirtual index, 3)) (kk : ∀ z u, inR z → okW u → post z u → WN p l e R s m args below meth c cells slots Q K nL A (pc + 3) lv (.int (iI z) :: rest) (w1 ++ wG K ad2 u)) : WN p l e R s m args below meth c cells slots Q K nL A pc lv st (w1 ++ wG K ad2 w2) := by
  intro H locs ls hP hD hS hl
  have hP1 := hP.right
  have hD1 := hD.right
  have hFc : ∀ q, cA K ad2 w2 H.size q → A q := fun q h => h.elim (fun ⟨i, e9, he⟩ => hD1.2 i (q, e9) he) (fun h => C.2.2.2.2.2.2.1 q (Nat.le_trans hS.1 h))
  have hpre : ∀ U : State, U.heap = H → s.WarmedH U.vm → cPre K ad2 (.ref (ad2 0) :: As) w2 H.size (.ref (ad2 0) :: As).toArray U := fun U hU hW => ⟨rfl, by rw [hU], ⟨by rw [hU]; exact hP1, va_K.moved hW.alike C.2.2.2.2.2.1, hD1.weaken (fun _ _ _ _ => trivial), hO⟩, C.2.2.2.2.2.2.2.2.2.call hS hFc hU hW.alike⟩
  refine va_calli (va_runV (As := As) (rest := rest) ⟨C.1, C.2.1, C.2.2.1, C.2.2.2.1, C.2.2.2.2.1⟩ (hM H.size) (cwV n C.2.2.2.2.1 (x_good hcode hln hi hse hini) rfl hrc hrs hdesc hR) ⟨cPre_blind, va_recv C.2.2.2.2.2.1 hP1 hcl (wG_get hw), hpre⟩ rfl hn hl.1 hst (lv_room hroom) hd ⟨C.2.2.2.2.2.2.2.1, C.2.2.2.2.2.2.2.2.1⟩) hS (fun q _ h => hFc q h) hFc (fun r u t H1 locs1 ht hvm hw1 hB hz1 hk1 hS1 => ?_)
  obtain ⟨z, hz, rfl, hp⟩ := hw1
  obtain ⟨hP2, hK2, hD2, hO2⟩ := hB
  rw [ht] at hP2
  have j := sp_join2 hP hD hk1 hFc hP2 hD2
  exact kk z u hz hO2 hp H1 locs1 ls j.1 j.2 hS1 hl
theorem wn_callMv (C : Cx p R m c cells slots cc nL s args own K A) {y : MethodName} {bytes : ByteArray} {maxL n index : Nat} {ret : Option FieldType} {rm : Room} {As rest : List Value} {ci N : Nat} {fs : List FV} {Cn : String} {Ty : u_T} {ad2 : Nat → Nat} {w1 : va_W} {w2 : List AC} {post : List AC → Prop} (hM : mV l y (Cond.code y bytes maxL ret :: GT) rm (.ref (ad2 0) :: As) K ad2 w2 post) (hO : okW w2) (hcode : Cond.code y bytes maxL ret ∈ GT) (hln : Cond.methodLink own index y ∈ GT) (hw : w2[0]? = some (.inl (ci, fs))) (hcl : vwCl[ci]? = some (Cn, Ty, N)) (hi : Cond.instanceMethod y ∈ GT) (hse : Cond.selects Cn y y ∈ GT) (hini : Cond.initialized Cn ∈ GT) (hdesc : y.cls = Cn ∧ y.cls ≠ "java/lang/invoke/MethodHandle" ∧ y.cls ≠ "java/lang/invoke/VarHandle" ∧ (parseMethodDescriptor y.desc).map (fun d => d.parameters.length) = some n) (hn : As.length = n) (hrc : rm.cells = 0) (hrs : rm.slots = 0) (hR : rm.frames + 1 ≤ R.frames ∧ 8 + (maxL + 11) + rm.locals ≤ R.locals) (hst : st = As.reverse ++ .ref (ad2 0) :: rest) (hroom : (rest.map fun v => v.category).sum ≤ 8) (hd : decode cc pc = .ok (.invokevirtual index, 3)) (kk : ∀ u, okW u → post u → WN p l e R s m args below meth c cells slots Q K nL A (pc + 3) lv rest (w1 ++ wG K ad2 u)) : WN p l e R s m args below meth c cells slots Q K nL A pc lv st (w1 ++ wG K ad2 w2) := by
  intro H locs ls hP hD hS hl
  have hP1 := hP.right
  have hD1 := hD.right
  have hFc : ∀ q, cA K ad2 w2 H.size q → A q := fun q h => h.elim (fun ⟨i, e9, he⟩ => hD1.2 i (q, e9) he) (fun h => C.2.2.2.2.2.2.1 q (Nat.le_trans hS.1 h))
  have hpre : ∀ U : State, U.heap = H → s.WarmedH U.vm → cPre K ad2 (.ref (ad2 0) :: As) w2 H.size (.ref (ad2 0) :: As).toArray U := fun U hU hW => ⟨rfl, by rw [hU], ⟨by rw [hU]; exact hP1, va_K.moved hW.alike C.2.2.2.2.2.1, hD1.weaken (fun _ _ _ _ => trivial), hO⟩, C.2.2.2.2.2.2.2.2.2.call hS hFc hU hW.alike⟩
  refine va_callv (va_runV (As := As) (rest := rest) ⟨C.1, C.2.1, C.2.2.1, C.2.2.2.1, C.2.2.2.2.1⟩ (hM H.size) (cwV n C.2.2.2.2.1 (x_good hcode hln hi hse hini) rfl hrc hrs hdesc hR) ⟨cPre_blind, va_recv C.2.2.2.2.2.1 hP1 hcl (wG_get hw), hpre⟩ rfl hn hl.1 hst (lv_room hroom) hd ⟨C.2.2.2.2.2.2.2.1, C.2.2.2.2.2.2.2.2.1⟩) hS (fun q _ h => hFc q h) hFc (fun u t H1 locs1 ht hvm hw1 hB hz1 hk1 hS1 => ?_)
  obtain ⟨hP2, hK2, hD2, hO2⟩ := hB
  rw [ht] at hP2
  have j := sp_join2 hP hD hk1 hFc hP2 hD2
  exact kk u hO2 hw1 H1 locs1 ls j.1 j.2 hS1 hl
end LRows
