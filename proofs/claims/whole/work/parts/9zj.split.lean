/-! calls over a part of the world; things thrown, and caught -/
def wGt (K : wK) (ad : Nat → Nat) (n : Nat) (b : List AC) : va_W := b.mapIdx (fun i x => (ad (i + n), cE K ad x))
theorem wG_app {K : wK} {ad : Nat → Nat} {a b : List AC} : wG K ad (a ++ b) = wG K ad a ++ wGt K ad a.length b := by
  unfold wG wGt
  rw [List.mapIdx_append]
theorem va_P.left {D : va_G} {cl : List vw_C} {x y : va_W} {H : Heap} (h : va_P D cl (x ++ y) H) : va_P D cl x H := fun k q hk => h k q (by rw [List.getElem?_append_left (List.getElem?_eq_some_iff.mp hk).1]; exact hk)
theorem va_P.right {D : va_G} {cl : List vw_C} {x y : va_W} {H : Heap} (h : va_P D cl (x ++ y) H) : va_P D cl y H := fun k q hk => h (x.length + k) q (by rw [List.getElem?_append_right (Nat.le_add_right _ _), Nat.add_sub_cancel_left]; exact hk)
theorem va_D.left {A : Nat → Prop} {x y : va_W} (h : va_D A (x ++ y)) : va_D A x :=
  ⟨fun i j p q hi hj e => h.1 i j p q (by rw [List.getElem?_append_left (List.getElem?_eq_some_iff.mp hi).1]; exact hi) (by rw [List.getElem?_append_left (List.getElem?_eq_some_iff.mp hj).1]; exact hj) e, fun k q hk => h.2 k q (by rw [List.getElem?_append_left (List.getElem?_eq_some_iff.mp hk).1]; exact hk)⟩
theorem va_D.right {A : Nat → Prop} {x y : va_W} (h : va_D A (x ++ y)) : va_D A y :=
  ⟨fun i j p q hi hj e => by
    have := h.1 (x.length + i) (x.length + j) p q (by rw [List.getElem?_append_right (Nat.le_add_right _ _), Nat.add_sub_cancel_left]; exact hi) (by rw [List.getElem?_append_right (Nat.le_add_right _ _), Nat.add_sub_cancel_left]; exact hj) e
    omega, fun k q hk => h.2 (x.length + k) q (by rw [List.getElem?_append_right (Nat.le_add_right _ _), Nat.add_sub_cancel_left]; exact hk)⟩
theorem va_D.apart {A : Nat → Prop} {x y : va_W} (h : va_D A (x ++ y)) : ∀ (i j : Nat) (p q : Nat × va_E), x[i]? = some p → y[j]? = some q → p.1 ≠ q.1 := by
  intro i j p q hi hj e
  have li := (List.getElem?_eq_some_iff.mp hi).1
  have := h.1 i (x.length + j) p q (by rw [List.getElem?_append_left li]; exact hi) (by rw [List.getElem?_append_right (Nat.le_add_right _ _), Nat.add_sub_cancel_left]; exact hj) e
  omega
/-- behind a call over the first part -/
theorem sp_join {A0 : Nat → Prop} {D : va_G} {cl : List vw_C} {x y x' : va_W} {H H1 : Heap} (hP : va_P D cl (x ++ y) H) (hD : va_D A0 (x ++ y)) (hk : ∀ q : Nat, q < H.size → ¬ va_A x H.size q → H1[q]? = H[q]?) (hF : ∀ q, va_A x H.size q → A0 q) (hP1 : va_P D cl x' H1) (hD1 : va_D (va_A x H.size) x') : va_P D cl (x' ++ y) H1 ∧ va_D A0 (x' ++ y) := by
  have hy := hP.right
  have ap := hD.apart
  have out : ∀ (j : Nat) (q : Nat × va_E), y[j]? = some q → ¬ va_A x H.size q.1 := by
    intro j q hj h
    rcases h with ⟨k, e, hk2⟩ | h
    · exact ap k j (q.1, e) q hk2 hj rfl
    · exact absurd (hy j q hj).lt (by omega)
  refine ⟨hP1.app (hy.kept (fun k q hq => hk q.1 (hy k q hq).lt (out k q hq))), (hD1.weaken (fun _ _ _ h => hF _ h)).app hD.right (fun i j p q hi hj e => ?_)⟩
  have h1 := hD1.2 i p hi
  rw [e] at h1
  exact out j q hj h1
/-- behind a call over the second part -/
theorem sp_join2 {A0 : Nat → Prop} {D : va_G} {cl : List vw_C} {x y y' : va_W} {H H1 : Heap} (hP : va_P D cl (x ++ y) H) (hD : va_D A0 (x ++ y)) (hk : ∀ q : Nat, q < H.size → ¬ va_A y H.size q → H1[q]? = H[q]?) (hF : ∀ q, va_A y H.size q → A0 q) (hP1 : va_P D cl y' H1) (hD1 : va_D (va_A y H.size) y') : va_P D cl (x ++ y') H1 ∧ va_D A0 (x ++ y') := by
  have hx := hP.left
  have ap := hD.apart
  have out : ∀ (j : Nat) (q : Nat × va_E), x[j]? = some q → ¬ va_A y H.size q.1 := by
    intro j q hj h
    rcases h with ⟨k, e, hk2⟩ | h
    · exact ap j k q (q.1, e) hj hk2 rfl
    · exact absurd (hx j q hj).lt (by omega)
  refine ⟨(hx.kept (fun k q hq => hk q.1 (hx k q hq).lt (out k q hq))).app hP1, hD.left.app (hD1.weaken (fun _ _ _ h => hF _ h)) (fun i j p q hi hj e => ?_)⟩
  have h1 := hD1.2 j q hj
  rw [← e] at h1
  exact out i p hi h1
theorem okW_app {a b : List AC} (ha : okW a) (hb : okW b) : okW (a ++ b) := by
  intro i x hx
  by_cases h : i < a.length
  · rw [List.getElem?_append_left h] at hx; exact ha i x hx
  · rw [List.getElem?_append_right (by omega)] at hx; exact hb _ x hx
theorem okW_left {a b : List AC} (h : okW (a ++ b)) : okW a := fun i x hx => h i x (by rw [List.getElem?_append_left (List.getElem?_eq_some_iff.mp hx).1]; exact hx)
theorem okW_right {a b : List AC} (h : okW (a ++ b)) : okW b := fun i x hx => h (a.length + i) x (by rw [List.getElem?_append_right (Nat.le_add_right _ _), Nat.add_sub_cancel_left]; exact hx)
/-- E is thrown over this frame -/
def WX (p : Program) (l : Launch) (e : Env) (R : Room) (s : State) (m : MethodId) (args : Array Value) (below : List Frame) (meth : Method) (c : Code) (cells slots : Nat) (Q : State → Prop) (K : wK) (ad : Nat → Nat) (nL : Nat) (A : Nat → Prop) (pc : Nat) (lv : List (Nat × Value)) (k : Int) (ws : List AC) : Prop :=
  ∀ (H : Heap) (locs : List Loc) (ls : Array Slot) (rest : List Value) (ce : Cell) (q9 : Addr), va_P K.1 vwCl (wG K ad ws) H → va_D A (wG K ad ws) → okW ws → va_S A s.heap H locs → lv_has ls nL lv → H[q9]? = some ce → ce.vm = .none → s.vm.findClass (exN k) = some ce.cls → vx_W p l e R s m args below meth c H locs cells slots Q (F0 m pc ls rest) q9
theorem Met_ofWH {l : Launch} {y : MethodName} {ws ws' : List Cond} {rm : Room} {Pc : Array Value → State → Prop} {Qc : Array Value → State → Outcome → State → Prop} {mc ms : Nat} {free : Addr → Prop} {cc : ByteArray} {maxL : Nat} {ret : Option FieldType} {hh : List (Nat × Nat × Nat × Nat)}
    (hy : plainName y.cls = true) (hw : ws = Cond.codeWith y cc maxL ret hh :: ws')
    (body : ∀ p e s m args below meth c s₁, BodyLoose p l y (headSpec ws rm) cc maxL ret e s m args below meth c s₁ → c.maxLocals = maxL → Pc args s →
      W p l e (headSpec ws rm).room s m args below meth c s.heap [] 0 0 (MQ below Qc args s mc ms free) (entryFrame m args maxL)) : Met l y ws rm Pc Qc mc ms free := by
  refine MetFree.of_bodyS (code := cc) (maxLocals := maxL) (ret := ret) hy ?_ ?_
  · intro args s m h hn
    obtain ⟨m9, meth, c, hn9, h1, h2, h3, h4, -, h5, h6, -⟩ := Cond.codeWith_spec (atoms_spec (ws := ws) h _ (by rw [hw]; exact List.mem_cons_self))
    cases hn.symm.trans hn9
    exact ⟨meth, c, h1, h2, h3, h4, h5, h6⟩
  · intro p e s m args below meth c s₁ B hml hP _
    have hh0 : s₁.heap = s.heap := by rw [B.state]; rfl
    obtain ⟨t, a1, o, b1, b2, b3⟩ := body p e s m args below meth c s₁ B hml hP s₁ hh0 (Stand.of_body B)
    exact ⟨t, o, a1, b1, b2, b3⟩
/-- a method with handlers, that lets nothing out -/
def eI (l : Launch) (y : MethodName) (wl : List Cond) (rm : Room) (mc ms : Nat) (av : List Value) (K : wK) (ad : Nat → Nat) (ws : List AC) (post : Int → List AC → Prop) : Prop :=
  ∀ sz, Met l y wl rm (xPre K ad av ws sz) (va_Qi (fun r (u : List AC) => ∃ z, inR z ∧ r = iI z ∧ post z u) (cAt K ad (cA K ad ws sz)) (cA K ad ws sz)) mc ms (cA K ad ws sz)
theorem eI_of {l : Launch} {y : MethodName} {cc : ByteArray} {maxL mc ms : Nat} {rm : Room} {av : List Value} {lv0 : List (Nat × Value)} {K : wK} {ad : Nat → Nat} {ws : List AC} {post : Int → List AC → Prop} {hh : List (Nat × Nat × Nat × Nat)} (hy : plainName y.cls = true) (hlen : (lg_sl av).length ≤ maxL) (hlv : lv_args 0 av = lv0)
    (body : ∀ (p : Program) (e : Env) (s : State) (m : MethodId) (args : Array Value) (below : List Frame) (meth : Method) (c : Code) (Q : State → Prop) (A : Nat → Prop), Cx p rm m c 0 0 cc maxL s args y.cls K A → tOK A s → c.exceptionTable.toList = tableOf hh →
      (∀ {cells slots pc : Nat} {lv : List (Nat × Value)} {z : Int} {u : List AC}, cells ≤ mc → slots ≤ ms → decode cc pc = .ok (.ireturn, 1) → inR z → post z u → WA p l e rm s m args below meth c cells slots Q K ad maxL A pc lv [.int (iI z)] u) →
      WA p l e rm s m args below meth c 0 0 Q K ad maxL A 0 lv0 [] ws) : eI l y (Cond.codeWith y cc maxL (some .int) hh :: GT) rm mc ms av K ad ws post := by
  intro sz
  refine Met_ofWH (cc := cc) (maxL := maxL) (ret := (some .int)) (hh := hh) hy rfl ?_
  intro p e s m args below meth c s₁ B hml hv
  obtain ⟨rfl, hsz, ⟨hP, hK, hD0, hO⟩, hZ, hT⟩ := hv
  have hx := B.exec
  have hb := B.bytes
  have hr := B.returns
  have hts := atoms_spec (ws := Cond.codeWith y cc maxL (some .int) hh :: GT) B.pre
  have htab := vx_table (x := y) B (hts _ List.mem_cons_self)
  have hown : s.vm.findClass y.cls = some m.cls := findClass_of_methodNamed B.named
  have hlocks := B.notSynchronized
  subst hsz
  have hD := hD0.self (sz := s.heap.size)
  have C : Cx p rm m c 0 0 cc maxL s av.toArray y.cls K (cA K ad ws s.heap.size) := ⟨hx, hb, hml, hown, fun w h => hts w (List.mem_cons_of_mem _ h), hK, fun q h => Or.inr h, Nat.zero_le _, Nat.zero_le _, hZ⟩
  have hl := lv_entry av (n := maxL) hlen
  rw [hlv] at hl
  rw [lg_entry_eq]
  exact body p e s m av.toArray below meth c _ (cA K ad ws s.heap.size) C hT htab (fun {cells slots pc lv} z u hc hs hd hz hp => fun H locs ls hP1 hD1 hO1 hS1 hl1 => W.widen hc hs (W.iret (v := iI z) hx hb hr (fun t ht hW => ⟨⟨iI z, u, rfl, ⟨z, hz, rfl, hp⟩, by rw [ht]; exact hP1, va_K.moved hW.alike hK, hD1, hO1⟩, hS1.F ht⟩) hS1.2.2 hd hlocks)) s.heap [] _ hP hD hO va_S.rf hl
section SRows
variable {p : Program} {l : Launch} {e : Env} {R : Room} {s : State} {m : MethodId} {args : Array Value} {below : List Frame} {meth : Method} {c : Code} {cells slots : Nat} {Q : State → Prop} {K : wK} {ad : Nat → Nat} {nL : Nat} {A : Nat → Prop} {cc : ByteArray} {own : String} {pc : Nat} {lv : List (Nat × Value)} {st : List Value} {w1 w2 : List AC}
theorem xB_cast (k : Int) : Cond.castable (exN k) (exN k) ∈ xB := by
  unfold exN
  split
  · simp [xB]
  · split
    · simp [xB]
    · split
      · simp [xB]
      · simp [xB]
theorem wx_catch (C : Cx p R m c cells slots cc nL s args own K A) (T : tOK A s) {k : Int} {ws : List AC} (pre : List ExceptionTableEntry) (x : ExceptionTableEntry) (suf : List ExceptionTableEntry) {hh : List (Nat × Nat × Nat × Nat)} (htab : c.exceptionTable.toList = tableOf hh) (hsplit : tableOf hh = pre ++ x :: suf) (hpass : ∀ z ∈ pre, z.catchType ≠ 0 ∧ ∃ nm : String, Cond.classLink own z.catchType nm ∈ GT ∧ (exN k, nm) ∈ xN) (hcov : covers x pc = true) (h0 : x.catchType ≠ 0) (hlink : Cond.classLink own x.catchType (exN k) ∈ GT) (kk : ∀ q9, WA p l e R s m args below meth c cells slots Q K ad nL A x.handlerPc lv [.ref q9] ws) : WX p l e R s m args below meth c cells slots Q K ad nL A pc lv k ws := by
  intro H locs ls rest ce q9 hP hD hO hS hl hq hv hcl
  exact vx_catch C.2.2.2.1 pre x suf (htab.trans hsplit) (fun z hz => by
    obtain ⟨z0, nm, h1, h2⟩ := hpass z hz
    exact Or.inr ⟨z0, nm, C.2.2.2.2.1 _ h1, T.2.2.2 _ h2⟩) hcov h0 (C.2.2.2.2.1 _ hlink) (xB_at T.2.2.1 _ (xB_cast k)) hq hv hcl (kk q9 H locs ls hP hD hO hS hl)
theorem wa_sVi (C : Cx p R m c cells slots cc nL s args own K A) (T : tOK A s) {y : MethodName} {bytes : ByteArray} {maxL n index mc ms : Nat} {ret : Option FieldType} {rm : Room} {As rest : List Value} {k ci N : Nat} {fs : List FV} {Cn : String} {Ty : u_T} {post px : Int → List AC → Prop} (hM : xI l y (Cond.code y bytes maxL ret :: GT) rm mc ms (.ref (ad k) :: As) K ad w1 post px) (hcode : Cond.code y bytes maxL ret ∈ GT) (hln : Cond.methodLink own index y ∈ GT) (hw : w1[k]? = some (.inl (ci, fs))) (hcl : vwCl[ci]? = some (Cn, Ty, N)) (hi : Cond.instanceMethod y ∈ GT) (hse : Cond.selects Cn y y ∈ GT) (hini : Cond.initialized Cn ∈ GT) (hdesc : y.cls = Cn ∧ y.cls ≠ "java/lang/invoke/MethodHandle" ∧ y.cls ≠ "java/lang/invoke/VarHandle" ∧ (parseMethodDescriptor y.desc).map (fun d => d.parameters.length) = some n) (hn : As.length = n) (hrc : rm.cells = mc) (hrs : rm.slots = ms) (hR : rm.frames + 1 ≤ R.frames ∧ 8 + (maxL + 11) + rm.locals ≤ R.locals) (hst : st = As.reverse ++ .ref (ad k) :: rest) (hroom : (rest.map fun v => v.category).sum ≤ 8) (hd : decode cc pc = .ok (.invokevirtual index, 3)) (hcR : cells + mc ≤ R.cells ∧ slots + ms ≤ R.slots) (kx : ∀ z u, px z u → u.length = w1.length ∧ WX p l e R s m args below meth c (cells + mc) (slots + ms) Q K ad nL A pc lv z (u ++ w2)) (kk : ∀ z u, inR z → post z u → u.length = w1.length ∧ WA p l e R s m args below meth c (cells + mc) (slots + ms) Q K ad nL A (pc + 3) lv (.int (iI z) :: rest) (u ++ w2)) : WA p l e R s m args below meth c cells slots Q K ad nL A pc lv st (w1 ++ w2) := by
  intro H locs ls hP hD hO hS hl
  rw [wG_app] at hP hD
  have hP1 := hP.left
  have hD1 := hD.left
  have hFc : ∀ q, cA K ad w1 H.size q → A q := fun q h => h.elim (fun ⟨i, e9, he⟩ => hD1.2 i (q, e9) he) (fun h => C.2.2.2.2.2.2.1 q (Nat.le_trans hS.1 h))
  have hpre : ∀ U : State, U.heap = H → s.WarmedH U.vm → xPre K ad (.ref (ad k) :: As) w1 H.size (.ref (ad k) :: As).toArray U := fun U hU hW => ⟨rfl, by rw [hU], ⟨by rw [hU]; exact hP1, va_K.moved hW.alike C.2.2.2.2.2.1, hD1.weaken (fun _ _ _ _ => trivial), okW_left hO⟩, C.2.2.2.2.2.2.2.2.2.call hS hFc hU hW.alike, T.call hS hFc hU hW⟩
  refine vx_calli (vx_runV (As := As) (rest := rest) ⟨C.1, C.2.1, C.2.2.1, C.2.2.2.1, C.2.2.2.2.1⟩ (hM H.size) (cwV n C.2.2.2.2.1 (x_good hcode hln hi hse hini) rfl hrc hrs hdesc hR) ⟨xPre_blind, va_recv C.2.2.2.2.2.1 hP1 hcl (wG_get hw), hpre⟩ rfl hn hl.1 hst (lv_room hroom) hd hcR) hS (fun q _ h => hFc q h) hFc (fun q _ h => hFc q h) (fun E ce q9 u t H1 locs1 ht hvm hp hB hz1 hk1 hS1 hq hv hcl9 => ?_) (fun r u t H1 locs1 ht hvm hw1 hB hz1 hk1 hS1 => ?_)
  · obtain ⟨rfl, hP2, hK2, hD2, hO2⟩ := hB
    rw [ht] at hP2
    obtain ⟨hlen, kq⟩ := kx u.1 u.2 hp
    have j := sp_join hP hD hk1 hFc hP2 hD2
    rw [← hlen, ← wG_app] at j
    exact kq H1 locs1 ls rest ce q9 j.1 j.2 (okW_app hO2 (okW_right hO)) hS1 hl hq hv hcl9
  · obtain ⟨z, hz, rfl, hp⟩ := hw1
    obtain ⟨hP2, hK2, hD2, hO2⟩ := hB
    rw [ht] at hP2
    obtain ⟨hlen, kq⟩ := kk z u hz hp
    have j := sp_join hP hD hk1 hFc hP2 hD2
    rw [← hlen, ← wG_app] at j
    exact kq H1 locs1 ls j.1 j.2 (okW_app hO2 (okW_right hO)) hS1 hl
theorem wa_sVv (C : Cx p R m c cells slots cc nL s args own K A) (T : tOK A s) {y : MethodName} {bytes : ByteArray} {maxL n index mc ms : Nat} {ret : Option FieldType} {rm : Room} {As rest : List Value} {k ci N : Nat} {fs : List FV} {Cn : String} {Ty : u_T} {post : List AC → Prop} {px : Int → List AC → Prop} (hM : xV l y (Cond.code y bytes maxL ret :: GT) rm mc ms (.ref (ad k) :: As) K ad w1 post px) (hcode : Cond.code y bytes maxL ret ∈ GT) (hln : Cond.methodLink own index y ∈ GT) (hw : w1[k]? = some (.inl (ci, fs))) (hcl : vwCl[ci]? = some (Cn, Ty, N)) (hi : Cond.instanceMethod y ∈ GT) (hse : Cond.selects Cn y y ∈ GT) (hini : Cond.initialized Cn ∈ GT) (hdesc : y.cls = Cn ∧ y.cls ≠ "java/lang/invoke/MethodHandle" ∧ y.cls ≠ "java/lang/invoke/VarHandle" ∧ (parseMethodDescriptor y.desc).map (fun d => d.parameters.length) = some n) (hn : As.length = n) (hrc : rm.cells = mc) (hrs : rm.slots = ms) (hR : rm.frames + 1 ≤ R.frames ∧ 8 + (maxL + 11) + rm.locals ≤ R.locals) (hst : st = As.reverse ++ .ref (ad k) :: rest) (hroom : (rest.map fun v => v.category).sum ≤ 8) (hd : decode cc pc = .ok (.invokevirtual index, 3)) (hcR : cells + mc ≤ R.cells ∧ slots + ms ≤ R.slots) (kx : ∀ z u, px z u → u.length = w1.length ∧ WX p l e R s m args below meth c (cells + mc) (slots + ms) Q K ad nL A pc lv z (u ++ w2)) (kk : ∀ u, post u → u.length = w1.length ∧ WA p l e R s m args below meth c (cells + mc) (slots + ms) Q K ad nL A (pc + 3) lv rest (u ++ w2)) : WA p l e R s m args below meth c cells slots Q K ad nL A pc lv st (w1 ++ w2) := by
  intro H locs ls hP hD hO hS hl
  rw [wG_app] at hP hD
  have hP1 := hP.left
  have hD1 := hD.left
  have hFc : ∀ q, cA K ad w1 H.size q → A q := fun q h => h.elim (fun ⟨i, e9, he⟩ => hD1.2 i (q, e9) he) (fun h => C.2.2.2.2.2.2.1 q (Nat.le_trans hS.1 h))
  have hpre : ∀ U : State, U.heap = H → s.WarmedH U.vm → xPre K ad (.ref (ad k) :: As) w1 H.size (.ref (ad k) :: As).toArray U := fun U hU hW => ⟨rfl, by rw [hU], ⟨by rw [hU]; exact hP1, va_K.moved hW.alike C.2.2.2.2.2.1, hD1.weaken (fun _ _ _ _ => trivial), okW_left hO⟩, C.2.2.2.2.2.2.2.2.2.call hS hFc hU hW.alike, T.call hS hFc hU hW⟩
  refine vx_callv (vx_runV (As := As) (rest := rest) ⟨C.1, C.2.1, C.2.2.1, C.2.2.2.1, C.2.2.2.2.1⟩ (hM H.size) (cwV n C.2.2.2.2.1 (x_good hcode hln hi hse hini) rfl hrc hrs hdesc hR) ⟨xPre_blind, va_recv C.2.2.2.2.2.1 hP1 hcl (wG_get hw), hpre⟩ rfl hn hl.1 hst (lv_room hroom) hd hcR) hS (fun q _ h => hFc q h) hFc (fun q _ h => hFc q h) (fun E ce q9 u t H1 locs1 ht hvm hp hB hz1 hk1 hS1 hq hv hcl9 => ?_) (fun u t H1 locs1 ht hvm hw1 hB hz1 hk1 hS1 => ?_)
  · obtain ⟨rfl, hP2, hK2, hD2, hO2⟩ := hB
    rw [ht] at hP2
    obtain ⟨hlen, kq⟩ := kx u.1 u.2 hp
    have j := sp_join hP hD hk1 hFc hP2 hD2
    rw [← hlen, ← wG_app] at j
    exact kq H1 locs1 ls rest ce q9 j.1 j.2 (okW_app hO2 (okW_right hO)) hS1 hl hq hv hcl9
  · obtain ⟨hP2, hK2, hD2, hO2⟩ := hB
    rw [ht] at hP2
    obtain ⟨hlen, kq⟩ := kk u hw1
    have j := sp_join hP hD hk1 hFc hP2 hD2
    rw [← hlen, ← wG_app] at j
    exact kq H1 locs1 ls j.1 j.2 (okW_app hO2 (okW_right hO)) hS1 hl
end SRows
