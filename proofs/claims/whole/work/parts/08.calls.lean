/-! contracts over the listed world; calls -/
def cAt (K : wK) (ad : Nat → Nat) (A : Nat → Prop) (u : List AC) (t : State) : Prop := va_P K.1 vwCl (wG K ad u) t.heap ∧ va_K K.1 vwCl (wTY K) t ∧ va_D A (wG K ad u) ∧ okW u
def cPre (K : wK) (ad : Nat → Nat) (av : List Value) (ws : List AC) (sz : Nat) : Array Value → State → Prop := va_Pc av (fun U => U.heap.size = sz ∧ cAt K ad (fun _ => True) ws U ∧ zOK (va_A (wG K ad ws) sz) U)
abbrev cA (K : wK) (ad : Nat → Nat) (ws : List AC) (sz : Nat) : Nat → Prop := va_A (wG K ad ws) sz
def mI (l : Launch) (y : MethodName) (wl : List Cond) (rm : Room) (av : List Value) (K : wK) (ad : Nat → Nat) (ws : List AC) (post : Int → List AC → Prop) : Prop :=
  ∀ sz, Met l y wl rm (cPre K ad av ws sz) (va_Qi (fun r (u : List AC) => ∃ z, inR z ∧ r = iI z ∧ post z u) (cAt K ad (cA K ad ws sz)) (cA K ad ws sz)) 0 0 (cA K ad ws sz)
def mV (l : Launch) (y : MethodName) (wl : List Cond) (rm : Room) (av : List Value) (K : wK) (ad : Nat → Nat) (ws : List AC) (post : List AC → Prop) : Prop :=
  ∀ sz, Met l y wl rm (cPre K ad av ws sz) (va_Qv post (cAt K ad (cA K ad ws sz)) (cA K ad ws sz)) 0 0 (cA K ad ws sz)
def mL (l : Launch) (y : MethodName) (wl : List Cond) (rm : Room) (av : List Value) (K : wK) (ad : Nat → Nat) (ws : List AC) (post : Int64 → List AC → Prop) : Prop :=
  ∀ sz, Met l y wl rm (cPre K ad av ws sz) (va_Ql post (cAt K ad (cA K ad ws sz)) (cA K ad ws sz)) 0 0 (cA K ad ws sz)
theorem cPre_blind {K : wK} {ad : Nat → Nat} {av : List Value} {ws : List AC} {sz : Nat} : FrameBlind (cPre K ad av ws sz) := by
  intro a U g mk q
  obtain ⟨q0, q1, ⟨qP, qK, qD, qO⟩, ⟨tb, z1, z2⟩⟩ := q
  exact ⟨q0, q1, ⟨qP, va_K.moved (u := U) (U := U.calling g mk a) (Vm.Alike.refl U.vm) qK, qD, qO⟩, ⟨tb, va_Z.moved (u := U) (U := U.calling g mk a) (Vm.Alike.refl U.vm) z1, va_T.moved (u := U) (U := U.calling g mk a) (Vm.Alike.refl U.vm) z2⟩⟩

theorem mI_of {l : Launch} {y : MethodName} {cc : ByteArray} {maxL : Nat} {rm : Room} {av : List Value} {lv0 : List (Nat × Value)} {K : wK} {ad : Nat → Nat} {ws : List AC} {post : Int → List AC → Prop} (hy : plainName y.cls = true) (hlen : (lg_sl av).length ≤ maxL) (hlv : lv_args 0 av = lv0)
    (body : ∀ (p : Program) (e : Env) (s : State) (m : MethodId) (args : Array Value) (below : List Frame) (meth : Method) (c : Code) (Q : State → Prop) (A : Nat → Prop), Cx p rm m c 0 0 cc maxL s args y.cls K A →
      (∀ {pc : Nat} {lv : List (Nat × Value)} {z : Int} {u : List AC}, decode cc pc = .ok (.ireturn, 1) → inR z → post z u → WA p l e rm s m args below meth c 0 0 Q K ad maxL A pc lv [.int (iI z)] u) →
      WA p l e rm s m args below meth c 0 0 Q K ad maxL A 0 lv0 [] ws) : mI l y (Cond.code y cc maxL (some .int) :: GT) rm av K ad ws post := by
  intro sz
  refine Met.ofW (cc := cc) (maxL := maxL) (ret := (some .int)) hy rfl ?_
  intro p e s m args below meth c s₁ B hml hv
  obtain ⟨rfl, hsz, ⟨hP, hK, hD0, hO⟩, hZ⟩ := hv
  have hx := B.exec
  have hb := B.bytes
  have hr := B.returns
  have hts := atoms_spec (ws := Cond.code y cc maxL (some .int) :: GT) B.pre
  have hown : s.vm.findClass y.cls = some m.cls := findClass_of_methodNamed B.named
  have hlocks := B.notSynchronized
  subst hsz
  have hD := hD0.self (sz := s.heap.size)
  have C : Cx p rm m c 0 0 cc maxL s av.toArray y.cls K (cA K ad ws s.heap.size) := ⟨hx, hb, hml, hown, fun w h => hts w (List.mem_cons_of_mem _ h), hK, fun q h => Or.inr h, Nat.zero_le _, Nat.zero_le _, hZ⟩
  have hl := lv_entry av (n := maxL) hlen
  rw [hlv] at hl
  rw [lg_entry_eq]
  exact body p e s m av.toArray below meth c _ (cA K ad ws s.heap.size) C (fun {pc lv} z u hd hz hp => fun H locs ls hP1 hD1 hO1 hS1 hl1 => W.iret (v := iI z) hx hb hr (fun t ht hW => ⟨⟨iI z, u, rfl, ⟨z, hz, rfl, hp⟩, by rw [ht]; exact hP1, va_K.moved hW.alike hK, hD1, hO1⟩, hS1.F ht⟩) hS1.2.2 hd hlocks) s.heap [] _ hP hD hO va_S.rf hl
theorem mZ_of {l : Launch} {y : MethodName} {cc : ByteArray} {maxL : Nat} {rm : Room} {av : List Value} {lv0 : List (Nat × Value)} {K : wK} {ad : Nat → Nat} {ws : List AC} {post : Int → List AC → Prop} (hy : plainName y.cls = true) (hlen : (lg_sl av).length ≤ maxL) (hlv : lv_args 0 av = lv0)
    (body : ∀ (p : Program) (e : Env) (s : State) (m : MethodId) (args : Array Value) (below : List Frame) (meth : Method) (c : Code) (Q : State → Prop) (A : Nat → Prop), Cx p rm m c 0 0 cc maxL s args y.cls K A →
      (∀ {pc : Nat} {lv : List (Nat × Value)} {z : Int} {u : List AC}, decode cc pc = .ok (.ireturn, 1) → (z = 0 ∨ z = 1) → post z u → WA p l e rm s m args below meth c 0 0 Q K ad maxL A pc lv [.int (iI z)] u) →
      WA p l e rm s m args below meth c 0 0 Q K ad maxL A 0 lv0 [] ws) : mI l y (Cond.code y cc maxL (some .boolean) :: GT) rm av K ad ws post := by
  intro sz
  refine Met.ofW (cc := cc) (maxL := maxL) (ret := (some .boolean)) hy rfl ?_
  intro p e s m args below meth c s₁ B hml hv
  obtain ⟨rfl, hsz, ⟨hP, hK, hD0, hO⟩, hZ⟩ := hv
  have hx := B.exec
  have hb := B.bytes
  have hr := B.returns
  have hts := atoms_spec (ws := Cond.code y cc maxL (some .boolean) :: GT) B.pre
  have hown : s.vm.findClass y.cls = some m.cls := findClass_of_methodNamed B.named
  have hlocks := B.notSynchronized
  subst hsz
  have hD := hD0.self (sz := s.heap.size)
  have C : Cx p rm m c 0 0 cc maxL s av.toArray y.cls K (cA K ad ws s.heap.size) := ⟨hx, hb, hml, hown, fun w h => hts w (List.mem_cons_of_mem _ h), hK, fun q h => Or.inr h, Nat.zero_le _, Nat.zero_le _, hZ⟩
  have hl := lv_entry av (n := maxL) hlen
  rw [hlv] at hl
  rw [lg_entry_eq]
  exact body p e s m av.toArray below meth c _ (cA K ad ws s.heap.size) C (fun {pc lv} z u hd hz hp => fun H locs ls hP1 hD1 hO1 hS1 hl1 => W.zret (v := iI z) (ty := .boolean) hx hb hr (by rcases hz with rfl | rfl <;> rfl) (fun t ht hW => ⟨⟨iI z, u, rfl, ⟨z, inR_b hz, rfl, hp⟩, by rw [ht]; exact hP1, va_K.moved hW.alike hK, hD1, hO1⟩, hS1.F ht⟩) hS1.2.2 hd hlocks) s.heap [] _ hP hD hO va_S.rf hl
theorem mV_of {l : Launch} {y : MethodName} {cc : ByteArray} {maxL : Nat} {rm : Room} {av : List Value} {lv0 : List (Nat × Value)} {K : wK} {ad : Nat → Nat} {ws : List AC} {post : List AC → Prop} (hy : plainName y.cls = true) (hlen : (lg_sl av).length ≤ maxL) (hlv : lv_args 0 av = lv0)
    (body : ∀ (p : Program) (e : Env) (s : State) (m : MethodId) (args : Array Value) (below : List Frame) (meth : Method) (c : Code) (Q : State → Prop) (A : Nat → Prop), Cx p rm m c 0 0 cc maxL s args y.cls K A →
      (∀ {pc : Nat} {lv : List (Nat × Value)}  {u : List AC}, decode cc pc = .ok (.return_, 1) → post u → WA p l e rm s m args below meth c 0 0 Q K ad maxL A pc lv [] u) →
      WA p l e rm s m args below meth c 0 0 Q K ad maxL A 0 lv0 [] ws) : mV l y (Cond.code y cc maxL none :: GT) rm av K ad ws post := by
  intro sz
  refine Met.ofW (cc := cc) (maxL := maxL) (ret := none) hy rfl ?_
  intro p e s m args below meth c s₁ B hml hv
  obtain ⟨rfl, hsz, ⟨hP, hK, hD0, hO⟩, hZ⟩ := hv
  have hx := B.exec
  have hb := B.bytes
  have hr := B.returns
  have hts := atoms_spec (ws := Cond.code y cc maxL none :: GT) B.pre
  have hown : s.vm.findClass y.cls = some m.cls := findClass_of_methodNamed B.named
  have hlocks := B.notSynchronized
  subst hsz
  have hD := hD0.self (sz := s.heap.size)
  have C : Cx p rm m c 0 0 cc maxL s av.toArray y.cls K (cA K ad ws s.heap.size) := ⟨hx, hb, hml, hown, fun w h => hts w (List.mem_cons_of_mem _ h), hK, fun q h => Or.inr h, Nat.zero_le _, Nat.zero_le _, hZ⟩
  have hl := lv_entry av (n := maxL) hlen
  rw [hlv] at hl
  rw [lg_entry_eq]
  exact body p e s m av.toArray below meth c _ (cA K ad ws s.heap.size) C (fun {pc lv}  u hd hp => fun H locs ls hP1 hD1 hO1 hS1 hl1 => W.vret hx hb hr (fun t ht hW => ⟨⟨u, rfl, hp, by rw [ht]; exact hP1, va_K.moved hW.alike hK, hD1, hO1⟩, hS1.F ht⟩) hS1.2.2 hd hlocks) s.heap [] _ hP hD hO va_S.rf hl
theorem mL_of {l : Launch} {y : MethodName} {cc : ByteArray} {maxL : Nat} {rm : Room} {av : List Value} {lv0 : List (Nat × Value)} {K : wK} {ad : Nat → Nat} {ws : List AC} {post : Int64 → List AC → Prop} (hy : plainName y.cls = true) (hlen : (lg_sl av).length ≤ maxL) (hlv : lv_args 0 av = lv0)
    (body : ∀ (p : Program) (e : Env) (s : State) (m : MethodId) (args : Array Value) (below : List Frame) (meth : Method) (c : Code) (Q : State → Prop) (A : Nat → Prop), Cx p rm m c 0 0 cc maxL s args y.cls K A →
      (∀ {pc : Nat} {lv : List (Nat × Value)} {z : Int64} {u : List AC}, decode cc pc = .ok (.lreturn, 1) → post z u → WA p l e rm s m args below meth c 0 0 Q K ad maxL A pc lv [.long z] u) →
      WA p l e rm s m args below meth c 0 0 Q K ad maxL A 0 lv0 [] ws) : mL l y (Cond.code y cc maxL (some .long) :: GT) rm av K ad ws post := by
  intro sz
  refine Met.ofW (cc := cc) (maxL := maxL) (ret := (some .long)) hy rfl ?_
  intro p e s m args below meth c s₁ B hml hv
  obtain ⟨rfl, hsz, ⟨hP, hK, hD0, hO⟩, hZ⟩ := hv
  have hx := B.exec
  have hb := B.bytes
  have hr := B.returns
  have hts := atoms_spec (ws := Cond.code y cc maxL (some .long) :: GT) B.pre
  have hown : s.vm.findClass y.cls = some m.cls := findClass_of_methodNamed B.named
  have hlocks := B.notSynchronized
  subst hsz
  have hD := hD0.self (sz := s.heap.size)
  have C : Cx p rm m c 0 0 cc maxL s av.toArray y.cls K (cA K ad ws s.heap.size) := ⟨hx, hb, hml, hown, fun w h => hts w (List.mem_cons_of_mem _ h), hK, fun q h => Or.inr h, Nat.zero_le _, Nat.zero_le _, hZ⟩
  have hl := lv_entry av (n := maxL) hlen
  rw [hlv] at hl
  rw [lg_entry_eq]
  exact body p e s m av.toArray below meth c _ (cA K ad ws s.heap.size) C (fun {pc lv} z u hd hp => fun H locs ls hP1 hD1 hO1 hS1 hl1 => W.lret (v := z) hx hb hr (fun t ht hW => ⟨⟨z, u, rfl, hp, by rw [ht]; exact hP1, va_K.moved hW.alike hK, hD1, hO1⟩, hS1.F ht⟩) hS1.2.2 hd hlocks) s.heap [] _ hP hD hO va_S.rf hl
section Calls
variable {p : Program} {l : Launch} {e : Env} {R : Room} {s : State} {m : MethodId} {args : Array Value} {below : List Frame} {meth : Method} {c : Code} {cells slots : Nat} {Q : State → Prop} {K : wK} {ad : Nat → Nat} {nL : Nat} {A : Nat → Prop} {cc : ByteArray} {own : String} {pc : Nat} {lv : List (Nat × Value)} {st : List Value} {ws : List AC}
theorem wa_callVi (C : Cx p R m c cells slots cc nL s args own K A) {y : MethodName} {bytes : ByteArray} {maxL n index : Nat} {ret : Option FieldType} {rm : Room} {As rest : List Value} {k ci N : Nat} {fs : List FV} {Cn : String} {Ty : u_T} {post : Int → List AC → Prop} (hM : mI l y (Cond.code y bytes maxL ret :: GT) rm (.ref (ad k) :: As) K ad ws post) (hcode : Cond.code y bytes maxL ret ∈ GT) (hln : Cond.methodLink own index y ∈ GT) (hw : ws[k]? = some (.inl (ci, fs))) (hcl : vwCl[ci]? = some (Cn, Ty, N)) (hi : Cond.instanceMethod y ∈ GT) (hse : Cond.selects Cn y y ∈ GT) (hini : Cond.initialized Cn ∈ GT) (hdesc : y.cls = Cn ∧ y.cls ≠ "java/lang/invoke/MethodHandle" ∧ y.cls ≠ "java/lang/invoke/VarHandle" ∧ (parseMethodDescriptor y.desc).map (fun d => d.parameters.length) = some n) (hn : As.length = n) (hrc : rm.cells = 0) (hrs : rm.slots = 0) (hR : rm.frames + 1 ≤ R.frames ∧ 8 + (maxL + 11) + rm.locals ≤ R.locals) (hst : st = As.reverse ++ .ref (ad k) :: rest) (hroom : (rest.map fun v => v.category).sum ≤ 8) (hd : decode cc pc = .ok (.invokevirtual index, 3)) (kk : ∀ z u, inR z → post z u → WA p l e R s m args below meth c cells slots Q K ad nL A (pc + 3) lv (.int (iI z) :: rest) u) : WA p l e R s m args below meth c cells slots Q K ad nL A pc lv st ws := by
  intro H locs ls hP hD hO hS hl
  have hFc : ∀ q, cA K ad ws H.size q → A q := fun q h => h.elim (fun ⟨i, e9, he⟩ => hD.2 i (q, e9) he) (fun h => C.2.2.2.2.2.2.1 q (Nat.le_trans hS.1 h))
  have hpre : ∀ U : State, U.heap = H → s.WarmedH U.vm → cPre K ad (.ref (ad k) :: As) ws H.size (.ref (ad k) :: As).toArray U := fun U hU hW => ⟨rfl, by rw [hU], ⟨by rw [hU]; exact hP, va_K.moved hW.alike C.2.2.2.2.2.1, hD.weaken (fun _ _ _ _ => trivial), hO⟩, C.2.2.2.2.2.2.2.2.2.call hS hFc hU hW.alike⟩
  have hg : GoodIn GT (wsV own index Cn y (Cond.code y bytes maxL ret :: GT)) := by
    refine gt_in (fun w hw9 => ?_)
    rcases List.mem_append.mp hw9 with h | h
    · rcases List.mem_cons.mp h with rfl | h
      · exact hln
      · rcases List.mem_cons.mp h with rfl | h
        · exact hi
        · rcases List.mem_cons.mp h with rfl | h
          · exact hse
          · rcases List.mem_cons.mp h with rfl | h
            · exact hini
            · cases h
    · rcases List.mem_cons.mp h with rfl | h
      · exact hcode
      · exact h
  refine va_calli (va_runV (As := As) (rest := rest) ⟨C.1, C.2.1, C.2.2.1, C.2.2.2.1, C.2.2.2.2.1⟩ (hM H.size) (cwV n C.2.2.2.2.1 hg rfl hrc hrs hdesc hR) ⟨cPre_blind, va_recv C.2.2.2.2.2.1 hP hcl (wG_get hw), hpre⟩ rfl hn hl.1 hst (lv_room hroom) hd ⟨C.2.2.2.2.2.2.2.1, C.2.2.2.2.2.2.2.2.1⟩) hS (fun q _ h => hFc q h) hFc (fun r u t H1 locs1 ht hvm hw1 hB hz1 hk1 hS1 => ?_)
  obtain ⟨z, hz, rfl, hp⟩ := hw1
  obtain ⟨hP1, hK1, hD1, hO1⟩ := hB
  rw [ht] at hP1
  exact kk z u hz hp H1 locs1 ls hP1 (hD1.weaken (fun _ _ _ h => hFc _ h)) hO1 hS1 hl
theorem wa_callVv (C : Cx p R m c cells slots cc nL s args own K A) {y : MethodName} {bytes : ByteArray} {maxL n index : Nat} {ret : Option FieldType} {rm : Room} {As rest : List Value} {k ci N : Nat} {fs : List FV} {Cn : String} {Ty : u_T} {post : List AC → Prop} (hM : mV l y (Cond.code y bytes maxL ret :: GT) rm (.ref (ad k) :: As) K ad ws post) (hcode : Cond.code y bytes maxL ret ∈ GT) (hln : Cond.methodLink own index y ∈ GT) (hw : ws[k]? = some (.inl (ci, fs))) (hcl : vwCl[ci]? = some (Cn, Ty, N)) (hi : Cond.instanceMethod y ∈ GT) (hse : Cond.selects Cn y y ∈ GT) (hini : Cond.initialized Cn ∈ GT) (hdesc : y.cls = Cn ∧ y.cls ≠ "java/lang/invoke/MethodHandle" ∧ y.cls ≠ "java/lang/invoke/VarHandle" ∧ (parseMethodDescriptor y.desc).map (fun d => d.parameters.length) = some n) (hn : As.length = n) (hrc : rm.cells = 0) (hrs : rm.slots = 0) (hR : rm.frames + 1 ≤ R.frames ∧ 8 + (maxL + 11) + rm.locals ≤ R.locals) (hst : st = As.reverse ++ .ref (ad k) :: rest) (hroom : (rest.map fun v => v.category).sum ≤ 8) (hd : decode cc pc = .ok (.invokevirtual index, 3)) (kk : ∀ u, post u → WA p l e R s m args below meth c cells slots Q K ad nL A (pc + 3) lv rest u) : WA p l e R s m args below meth c cells slots Q K ad nL A pc lv st ws := by
  intro H locs ls hP hD hO hS hl
  have hFc : ∀ q, cA K ad ws H.size q → A q := fun q h => h.elim (fun ⟨i, e9, he⟩ => hD.2 i (q, e9) he) (fun h => C.2.2.2.2.2.2.1 q (Nat.le_trans hS.1 h))
  have hpre : ∀ U : State, U.heap = H → s.WarmedH U.vm → cPre K ad (.ref (ad k) :: As) ws H.size (.ref (ad k) :: As).toArray U := fun U hU hW => ⟨rfl, by rw [hU], ⟨by rw [hU]; exact hP, va_K.moved hW.alike C.2.2.2.2.2.1, hD.weaken (fun _ _ _ _ => trivial), hO⟩, C.2.2.2.2.2.2.2.2.2.call hS hFc hU hW.alike⟩
  have hg : GoodIn GT (wsV own index Cn y (Cond.code y bytes maxL ret :: GT)) := by
    refine gt_in (fun w hw9 => ?_)
    rcases List.mem_append.mp hw9 with h | h
    · rcases List.mem_cons.mp h with rfl | h
      · exact hln
      · rcases List.mem_cons.mp h with rfl | h
        · exact hi
        · rcases List.mem_cons.mp h with rfl | h
          · exact hse
          · rcases List.mem_cons.mp h with rfl | h
            · exact hini
            · cases h
    · rcases List.mem_cons.mp h with rfl | h
      · exact hcode
      · exact h
  refine va_callv (va_runV (As := As) (rest := rest) ⟨C.1, C.2.1, C.2.2.1, C.2.2.2.1, C.2.2.2.2.1⟩ (hM H.size) (cwV n C.2.2.2.2.1 hg rfl hrc hrs hdesc hR) ⟨cPre_blind, va_recv C.2.2.2.2.2.1 hP hcl (wG_get hw), hpre⟩ rfl hn hl.1 hst (lv_room hroom) hd ⟨C.2.2.2.2.2.2.2.1, C.2.2.2.2.2.2.2.2.1⟩) hS (fun q _ h => hFc q h) hFc (fun u t H1 locs1 ht hvm hw1 hB hz1 hk1 hS1 => ?_)
  obtain ⟨hP1, hK1, hD1, hO1⟩ := hB
  rw [ht] at hP1
  exact kk u hw1 H1 locs1 ls hP1 (hD1.weaken (fun _ _ _ h => hFc _ h)) hO1 hS1 hl
theorem wa_callSi (C : Cx p R m c cells slots cc nL s args own K A) {y : MethodName} {bytes : ByteArray} {maxL n index : Nat} {ret : Option FieldType} {rm : Room} {As rest : List Value} {post : Int → List AC → Prop} (hM : mI l y (Cond.code y bytes maxL ret :: GT) rm As K ad ws post) (hcode : Cond.code y bytes maxL ret ∈ GT) (hln : Cond.methodLink own index y ∈ GT) (hi : Cond.static y ∈ GT) (hini : Cond.initialized y.cls ∈ GT) (hdesc : y.cls ≠ "java/lang/invoke/MethodHandle" ∧ y.cls ≠ "java/lang/invoke/VarHandle" ∧ (parseMethodDescriptor y.desc).map (fun d => d.parameters.length) = some n) (hn : As.length = n) (hrc : rm.cells = 0) (hrs : rm.slots = 0) (hR : rm.frames + 1 ≤ R.frames ∧ 8 + (maxL + 11) + rm.locals ≤ R.locals) (hst : st = As.reverse ++ rest) (hroom : (rest.map fun v => v.category).sum ≤ 8) (hd : decode cc pc = .ok (.invokestatic index, 3)) (kk : ∀ z u, inR z → post z u → WA p l e R s m args below meth c cells slots Q K ad nL A (pc + 3) lv (.int (iI z) :: rest) u) : WA p l e R s m args below meth c cells slots Q K ad nL A pc lv st ws := by
  intro H locs ls hP hD hO hS hl
  have hFc : ∀ q, cA K ad ws H.size q → A q := fun q h => h.elim (fun ⟨i, e9, he⟩ => hD.2 i (q, e9) he) (fun h => C.2.2.2.2.2.2.1 q (Nat.le_trans hS.1 h))
  have hpre : ∀ U : State, U.heap = H → s.WarmedH U.vm → cPre K ad As ws H.size As.toArray U := fun U hU hW => ⟨rfl, by rw [hU], ⟨by rw [hU]; exact hP, va_K.moved hW.alike C.2.2.2.2.2.1, hD.weaken (fun _ _ _ _ => trivial), hO⟩, C.2.2.2.2.2.2.2.2.2.call hS hFc hU hW.alike⟩
  have hg : GoodIn GT (va_wsS own index y (Cond.code y bytes maxL ret :: GT)) := by
    refine gt_in (fun w hw9 => ?_)
    rcases List.mem_append.mp hw9 with h | h
    · rcases List.mem_cons.mp h with rfl | h
      · exact hln
      · rcases List.mem_cons.mp h with rfl | h
        · exact hi
        · rcases List.mem_cons.mp h with rfl | h
          · exact hini
          · cases h
    · rcases List.mem_cons.mp h with rfl | h
      · exact hcode
      · exact h
  refine va_calli (va_runS (As := As) (rest := rest) ⟨C.1, C.2.1, C.2.2.1, C.2.2.2.1, C.2.2.2.2.1⟩ (hM H.size) (va_cwS n C.2.2.2.2.1 hg rfl hrc hrs hdesc hR) ⟨cPre_blind, hpre⟩ rfl hn hl.1 hst (lv_room hroom) hd ⟨C.2.2.2.2.2.2.2.1, C.2.2.2.2.2.2.2.2.1⟩) hS (fun q _ h => hFc q h) hFc (fun r u t H1 locs1 ht hvm hw1 hB hz1 hk1 hS1 => ?_)
  obtain ⟨z, hz, rfl, hp⟩ := hw1
  obtain ⟨hP1, hK1, hD1, hO1⟩ := hB
  rw [ht] at hP1
  exact kk z u hz hp H1 locs1 ls hP1 (hD1.weaken (fun _ _ _ h => hFc _ h)) hO1 hS1 hl
theorem wa_callSv (C : Cx p R m c cells slots cc nL s args own K A) {y : MethodName} {bytes : ByteArray} {maxL n index : Nat} {ret : Option FieldType} {rm : Room} {As rest : List Value} {post : List AC → Prop} (hM : mV l y (Cond.code y bytes maxL ret :: GT) rm As K ad ws post) (hcode : Cond.code y bytes maxL ret ∈ GT) (hln : Cond.methodLink own index y ∈ GT) (hi : Cond.static y ∈ GT) (hini : Cond.initialized y.cls ∈ GT) (hdesc : y.cls ≠ "java/lang/invoke/MethodHandle" ∧ y.cls ≠ "java/lang/invoke/VarHandle" ∧ (parseMethodDescriptor y.desc).map (fun d => d.parameters.length) = some n) (hn : As.length = n) (hrc : rm.cells = 0) (hrs : rm.slots = 0) (hR : rm.frames + 1 ≤ R.frames ∧ 8 + (maxL + 11) + rm.locals ≤ R.locals) (hst : st = As.reverse ++ rest) (hroom : (rest.map fun v => v.category).sum ≤ 8) (hd : decode cc pc = .ok (.invokestatic index, 3)) (kk : ∀ u, post u → WA p l e R s m args below meth c cells slots Q K ad nL A (pc + 3) lv rest u) : WA p l e R s m args below meth c cells slots Q K ad nL A pc lv st ws := by
  intro H locs ls hP hD hO hS hl
  have hFc : ∀ q, cA K ad ws H.size q → A q := fun q h => h.elim (fun ⟨i, e9, he⟩ => hD.2 i (q, e9) he) (fun h => C.2.2.2.2.2.2.1 q (Nat.le_trans hS.1 h))
  have hpre : ∀ U : State, U.heap = H → s.WarmedH U.vm → cPre K ad As ws H.size As.toArray U := fun U hU hW => ⟨rfl, by rw [hU], ⟨by rw [hU]; exact hP, va_K.moved hW.alike C.2.2.2.2.2.1, hD.weaken (fun _ _ _ _ => trivial), hO⟩, C.2.2.2.2.2.2.2.2.2.call hS hFc hU hW.alike⟩
  have hg : GoodIn GT (va_wsS own index y (Cond.code y bytes maxL ret :: GT)) := by
    refine gt_in (fun w hw9 => ?_)
    rcases List.mem_append.mp hw9 with h | h
    · rcases List.mem_cons.mp h with rfl | h
      · exact hln
      · rcases List.mem_cons.mp h with rfl | h
        · exact hi
        · rcases List.mem_cons.mp h with rfl | h
          · exact hini
          · cases h
    · rcases List.mem_cons.mp h with rfl | h
      · exact hcode
      · exact h
  refine va_callv (va_runS (As := As) (rest := rest) ⟨C.1, C.2.1, C.2.2.1, C.2.2.2.1, C.2.2.2.2.1⟩ (hM H.size) (va_cwS n C.2.2.2.2.1 hg rfl hrc hrs hdesc hR) ⟨cPre_blind, hpre⟩ rfl hn hl.1 hst (lv_room hroom) hd ⟨C.2.2.2.2.2.2.2.1, C.2.2.2.2.2.2.2.2.1⟩) hS (fun q _ h => hFc q h) hFc (fun u t H1 locs1 ht hvm hw1 hB hz1 hk1 hS1 => ?_)
  obtain ⟨hP1, hK1, hD1, hO1⟩ := hB
  rw [ht] at hP1
  exact kk u hw1 H1 locs1 ls hP1 (hD1.weaken (fun _ _ _ h => hFc _ h)) hO1 hS1 hl
theorem wa_callSl (C : Cx p R m c cells slots cc nL s args own K A) {y : MethodName} {bytes : ByteArray} {maxL n index : Nat} {ret : Option FieldType} {rm : Room} {As rest : List Value} {post : Int64 → List AC → Prop} (hM : mL l y (Cond.code y bytes maxL ret :: GT) rm As K ad ws post) (hcode : Cond.code y bytes maxL ret ∈ GT) (hln : Cond.methodLink own index y ∈ GT) (hi : Cond.static y ∈ GT) (hini : Cond.initialized y.cls ∈ GT) (hdesc : y.cls ≠ "java/lang/invoke/MethodHandle" ∧ y.cls ≠ "java/lang/invoke/VarHandle" ∧ (parseMethodDescriptor y.desc).map (fun d => d.parameters.length) = some n) (hn : As.length = n) (hrc : rm.cells = 0) (hrs : rm.slots = 0) (hR : rm.frames + 1 ≤ R.frames ∧ 8 + (maxL + 11) + rm.locals ≤ R.locals) (hst : st = As.reverse ++ rest) (hroom : (rest.map fun v => v.category).sum ≤ 8) (hd : decode cc pc = .ok (.invokestatic index, 3)) (kk : ∀ z u, post z u → WA p l e R s m args below meth c cells slots Q K ad nL A (pc + 3) lv (.long z :: rest) u) : WA p l e R s m args below meth c cells slots Q K ad nL A pc lv st ws := by
  intro H locs ls hP hD hO hS hl
  have hFc : ∀ q, cA K ad ws H.size q → A q := fun q h => h.elim (fun ⟨i, e9, he⟩ => hD.2 i (q, e9) he) (fun h => C.2.2.2.2.2.2.1 q (Nat.le_trans hS.1 h))
  have hpre : ∀ U : State, U.heap = H → s.WarmedH U.vm → cPre K ad As ws H.size As.toArray U := fun U hU hW => ⟨rfl, by rw [hU], ⟨by rw [hU]; exact hP, va_K.moved hW.alike C.2.2.2.2.2.1, hD.weaken (fun _ _ _ _ => trivial), hO⟩, C.2.2.2.2.2.2.2.2.2.call hS hFc hU hW.alike⟩
  have hg : GoodIn GT (va_wsS own index y (Cond.code y bytes maxL ret :: GT)) := by
    refine gt_in (fun w hw9 => ?_)
    rcases List.mem_append.mp hw9 with h | h
    · rcases List.mem_cons.mp h with rfl | h
      · exact hln
      · rcases List.mem_cons.mp h with rfl | h
        · exact hi
        · rcases List.mem_cons.mp h with rfl | h
          · exact hini
          · cases h
    · rcases List.mem_cons.mp h with rfl | h
      · exact hcode
      · exact h
  refine va_calll (va_runS (As := As) (rest := rest) ⟨C.1, C.2.1, C.2.2.1, C.2.2.2.1, C.2.2.2.2.1⟩ (hM H.size) (va_cwS n C.2.2.2.2.1 hg rfl hrc hrs hdesc hR) ⟨cPre_blind, hpre⟩ rfl hn hl.1 hst (lv_room hroom) hd ⟨C.2.2.2.2.2.2.2.1, C.2.2.2.2.2.2.2.2.1⟩) hS (fun q _ h => hFc q h) hFc (fun z u t H1 locs1 ht hvm hw1 hB hz1 hk1 hS1 => ?_)
  obtain ⟨hP1, hK1, hD1, hO1⟩ := hB
  rw [ht] at hP1
  exact kk z u hw1 H1 locs1 ls hP1 (hD1.weaken (fun _ _ _ h => hFc _ h)) hO1 hS1 hl
theorem wa_min (C : Cx p R m c cells slots cc nL s args own K A) {index : Nat} {x y : Int} (hx : inR x) (hy : inR y) (hln : Cond.methodLink own index yJ9_min_7cf53 ∈ GT) (hi : Cond.static yJ9_min_7cf53 ∈ GT) (hini : Cond.initialized RJ9 ∈ GT) (hcode : Cond.code yJ9_min_7cf53 cJ9_min_7cf53 2 (some .int) ∈ GT) (hf : 1 ≤ R.frames) (hlo : (st.map fun v => v.category).sum + 13 ≤ R.locals) (hd : decode cc pc = .ok (.invokestatic index, 3)) (kk : WA p l e R s m args below meth c cells slots Q K ad nL A (pc + 3) lv (.int (iI (if y < x then y else x)) :: st) ws) : WA p l e R s m args below meth c cells slots Q K ad nL A pc lv (.int (iI y) :: .int (iI x) :: st) ws := by
  intro H locs ls hP hD hO hS hl
  have e : (if iI y < iI x then iI y else iI x) = iI (if y < x then y else x) := by
    by_cases h : y < x
    · rw [if_pos h, if_pos ((iI_lt hy hx).mpr h)]
    · rw [if_neg h, if_neg (fun q => h ((iI_lt hy hx).mp q))]
  refine va_mmin C.1 C.2.1 (by rw [C.2.2.1]; exact hl.1.symm) C.2.2.2.1 (C.2.2.2.2.1 _ hln) (C.2.2.2.2.1 _ hi) (C.2.2.2.2.1 _ hini) (C.2.2.2.2.1 _ hcode) hf hlo C.2.2.2.2.2.2.2.1 C.2.2.2.2.2.2.2.2.1 hd ?_
  rw [e]
  exact kk H locs ls hP hD hO hS hl
theorem wa_max (C : Cx p R m c cells slots cc nL s args own K A) {index : Nat} {x y : Int} (hx : inR x) (hy : inR y) (hln : Cond.methodLink own index yJ9_max_7cf53 ∈ GT) (hi : Cond.static yJ9_max_7cf53 ∈ GT) (hini : Cond.initialized RJ9 ∈ GT) (hcode : Cond.code yJ9_max_7cf53 cJ9_max_7cf53 2 (some .int) ∈ GT) (hf : 1 ≤ R.frames) (hlo : (st.map fun v => v.category).sum + 13 ≤ R.locals) (hd : decode cc pc = .ok (.invokestatic index, 3)) (kk : WA p l e R s m args below meth c cells slots Q K ad nL A (pc + 3) lv (.int (iI (if x < y then y else x)) :: st) ws) : WA p l e R s m args below meth c cells slots Q K ad nL A pc lv (.int (iI y) :: .int (iI x) :: st) ws := by
  intro H locs ls hP hD hO hS hl
  have e : (if iI x < iI y then iI y else iI x) = iI (if x < y then y else x) := by
    by_cases h : x < y
    · rw [if_pos h, if_pos ((iI_lt hx hy).mpr h)]
    · rw [if_neg h, if_neg (fun q => h ((iI_lt hx hy).mp q))]
  refine va_mmax C.1 C.2.1 (by rw [C.2.2.1]; exact hl.1.symm) C.2.2.2.1 (C.2.2.2.2.1 _ hln) (C.2.2.2.2.1 _ hi) (C.2.2.2.2.1 _ hini) (C.2.2.2.2.1 _ hcode) hf hlo C.2.2.2.2.2.2.2.1 C.2.2.2.2.2.2.2.2.1 hd ?_
  rw [e]
  exact kk H locs ls hP hD hO hS hl
end Calls
