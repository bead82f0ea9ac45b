/-! methods that may throw: contracts, bodies, calls -/
def exN (k : Int) : String := if k = 1 then "java/lang/IllegalStateException" else if k = 2 then "java/lang/IndexOutOfBoundsException" else if k = 3 then "java/lang/UnsupportedOperationException" else "java/lang/IllegalArgumentException"
abbrev exNs : List String := ["java/lang/RuntimeException", "java/lang/Exception"]
def xB : List Cond := [.castable "java/lang/IllegalStateException" "java/lang/IllegalStateException", .castable "java/lang/IndexOutOfBoundsException" "java/lang/IndexOutOfBoundsException", .castable "java/lang/UnsupportedOperationException" "java/lang/UnsupportedOperationException", .castable "java/lang/IllegalArgumentException" "java/lang/IllegalArgumentException", .declares ⟨"java/lang/RuntimeException", "<init>", "()V"⟩, .declares ⟨"java/lang/Exception", "<init>", "()V"⟩, .declares ⟨"java/lang/Throwable", "<init>", "()V"⟩]
def xN : List (String × String) := [("java/lang/IndexOutOfBoundsException", "java/lang/IllegalStateException"), ("java/lang/UnsupportedOperationException", "java/lang/IllegalStateException"), ("java/lang/UnsupportedOperationException", "java/lang/IndexOutOfBoundsException")]
theorem xB_on : ∀ w ∈ xB, w.onTables = true := by decide
theorem xB_face : ∀ w ∈ xB, w.faceAtom = true := by decide
theorem xB_moved {s U : State} (hW : s.WarmedH U.vm) (h : ∀ w ∈ xB, w.before #[] s = true) : ∀ w ∈ xB, w.before #[] U = true := fun w hw => va_tabs (xB_on w hw) (rfl : (s.setVm U.vm).vm = U.vm) (Cond.faceAtom_setVm hW.alike w (xB_face w hw) (h w hw))
/-- what a throw rests on, of the heap and of the tables -/
def tOK (A : Nat → Prop) (U : State) : Prop := vx_Zq Bundle.tN "UNASSIGNED_STACK" Bundle.steD A U U.heap ∧ vx_Zq Bundle.tN "SUPPRESSED_SENTINEL" Bundle.listD A U U.heap ∧ (∀ w ∈ xB, w.before #[] U = true) ∧ ∀ q ∈ xN, va_Nc q.1 q.2 U
theorem tOK.call {A B : Nat → Prop} {s U : State} {H : Heap} {locs : List Loc} (h : tOK A s) (hS : va_S A s.heap H locs) (hB : ∀ q, B q → A q) (hU : U.heap = H) (hW : s.WarmedH U.vm) : tOK B U := by
  obtain ⟨h1, h2, h3, h4⟩ := h
  subst hU
  exact ⟨((h1.kept (fun a ha hn => hS.2.1 a ha hn)).moved hW.alike).narrow hB, ((h2.kept (fun a ha hn => hS.2.1 a ha hn)).moved hW.alike).narrow hB, xB_moved hW h3, fun q hq => va_Nc.moved hW.alike (h4 q hq)⟩
def xPre (K : wK) (ad : Nat → Nat) (av : List Value) (ws : List AC) (sz : Nat) : Array Value → State → Prop := va_Pc av (fun U => U.heap.size = sz ∧ cAt K ad (fun _ => True) ws U ∧ zOK (va_A (wG K ad ws) sz) U ∧ tOK (va_A (wG K ad ws) sz) U)
theorem tOK_blind {A : Nat → Prop} {U : State} {g : JFrame} {mk : MethodId} {a : Array Value} (h : tOK A U) : tOK A (U.calling g mk a) := by
  obtain ⟨h1, h2, h3, h4⟩ := h
  exact ⟨vx_Zq.moved (u := U) (U := U.calling g mk a) (Vm.Alike.refl U.vm) h1, vx_Zq.moved (u := U) (U := U.calling g mk a) (Vm.Alike.refl U.vm) h2, xB_moved (s := U) (U := U.calling g mk a) (State.WarmedH.refl U) h3, fun q hq => va_Nc.moved (u := U) (U := U.calling g mk a) (Vm.Alike.refl U.vm) (h4 q hq)⟩
theorem xPre_blind {K : wK} {ad : Nat → Nat} {av : List Value} {ws : List AC} {sz : Nat} : FrameBlind (xPre K ad av ws sz) := by
  intro a U g mk q
  obtain ⟨q0, q1, ⟨qP, qK, qD, qO⟩, ⟨tb, z1, z2⟩, qT⟩ := q
  exact ⟨q0, q1, ⟨qP, va_K.moved (u := U) (U := U.calling g mk a) (Vm.Alike.refl U.vm) qK, qD, qO⟩, ⟨tb, va_Z.moved (u := U) (U := U.calling g mk a) (Vm.Alike.refl U.vm) z1, va_T.moved (u := U) (U := U.calling g mk a) (Vm.Alike.refl U.vm) z2⟩, tOK_blind qT⟩
def xQ (K : wK) (ad : Nat → Nat) (ws : List AC) (sz : Nat) (px : Int → List AC → Prop) : String → State → State → Prop := vx_X (fun (u : Int × List AC) => px u.1 u.2) (fun E u t => E = exN u.1 ∧ cAt K ad (cA K ad ws sz) u.2 t) (cA K ad ws sz)
def xI (l : Launch) (y : MethodName) (wl : List Cond) (rm : Room) (mc ms : Nat) (av : List Value) (K : wK) (ad : Nat → Nat) (ws : List AC) (post px : Int → List AC → Prop) : Prop :=
  ∀ sz, vx_Met l y wl rm (xPre K ad av ws sz) (va_Qi (fun r (u : List AC) => ∃ z, inR z ∧ r = iI z ∧ post z u) (cAt K ad (cA K ad ws sz)) (cA K ad ws sz)) (xQ K ad ws sz px) mc ms (cA K ad ws sz)
def xV (l : Launch) (y : MethodName) (wl : List Cond) (rm : Room) (mc ms : Nat) (av : List Value) (K : wK) (ad : Nat → Nat) (ws : List AC) (post : List AC → Prop) (px : Int → List AC → Prop) : Prop :=
  ∀ sz, vx_Met l y wl rm (xPre K ad av ws sz) (va_Qv post (cAt K ad (cA K ad ws sz)) (cA K ad ws sz)) (xQ K ad ws sz px) mc ms (cA K ad ws sz)
/-- the words of 'throw new E()' at a place -/
def xAt (own : String) (ic : Nat) (k : Int) : Prop := Bundle.fit (exN k) = true ∧ (∀ w ∈ (vx_at0 own ic (exN k) exNs).filter goodWord, w ∈ GT) ∧ (∀ w ∈ (vx_at0 own ic (exN k) exNs).filter (fun w => !goodWord w), w ∈ xB) ∧ ∀ w ∈ vx_at0 own ic (exN k) exNs, vx_ot w = true
/-- a frame with something thrown over it goes on to the caller -/
def XOut (p : Program) (l : Launch) (e : Env) (R : Room) (s : State) (m : MethodId) (args : Array Value) (below : List Frame) (meth : Method) (c : Code) (mc ms : Nat) (Q : State → Prop) (K : wK) (ad : Nat → Nat) (A : Nat → Prop) (px : Int → List AC → Prop) : Prop :=
  ∀ (cells slots pc : Nat) (ls : Array Slot) (rest : List Value) (k : Int) (u : List AC) (H1 : Heap) (locs1 : List Loc) (ce : Cell) (q9 : Addr), cells ≤ mc → slots ≤ ms → px k u → va_P K.1 vwCl (wG K ad u) H1 → va_D A (wG K ad u) → okW u → va_S A s.heap H1 locs1 → H1[q9]? = some ce → ce.vm = .none → s.vm.findClass (exN k) = some ce.cls → vx_W p l e R s m args below meth c H1 locs1 cells slots Q (F0 m pc ls rest) q9
def XThr (p : Program) (l : Launch) (e : Env) (R : Room) (s : State) (m : MethodId) (args : Array Value) (below : List Frame) (meth : Method) (c : Code) (mc ms : Nat) (Q : State → Prop) (K : wK) (ad : Nat → Nat) (A : Nat → Prop) (px : Int → List AC → Prop) (cc : ByteArray) (nL : Nat) (own : String) : Prop :=
  ∀ (k : Int) {cells slots pc ik ic : Nat} {lv : List (Nat × Value)} {st : List Value} {u : List AC}, cells + 1 ≤ mc → slots + 6 ≤ ms → Cond.classLink own ik (exN k) ∈ GT → Cond.initialized (exN k) ∈ GT → xAt own ic k → (st.map fun v => v.category).sum + 81 ≤ R.locals → decode cc pc = .ok (.new ik, 3) → decode cc (pc + 3) = .ok (.dup, 1) → decode cc (pc + 4) = .ok (.invokespecial ic, 3) → decode cc (pc + 7) = .ok (.athrow, 1) → px k u → WA p l e R s m args below meth c cells slots Q K ad nL A pc lv st u
theorem xB_at {s : State} {args : Array Value} (h : ∀ w ∈ xB, w.before #[] s = true) : ∀ w ∈ xB, w.before args s = true := fun w hw => va_tabs (xB_on w hw) (rfl : s.vm = s.vm) (h w hw)
theorem cAt_more {K : wK} {ad : Nat → Nat} {A : Nat → Prop} {u : List AC} {s t : State} {H : Heap} {locs : List Loc} (hK : va_K K.1 vwCl (wTY K) s) (hP : va_P K.1 vwCl (wG K ad u) H) (hD : va_D A (wG K ad u)) (hO : okW u) (hS : va_S A s.heap H locs) (hvm : s.vm.Alike t.vm) (hsz : H.size ≤ t.heap.size) (hk : ∀ q : Nat, q < H.size → t.heap[q]? = H[q]?) : cAt K ad A u t ∧ va_F A s t :=
  ⟨⟨hP.kept (fun k q hq => hk q.1 (hP k q hq).lt), va_K.moved hvm hK, hD, hO⟩, ⟨Nat.le_trans hS.1 hsz, fun q h1 h2 => by rw [hk q (Nat.lt_of_lt_of_le h1 hS.1)]; exact hS.2.1 q h1 h2⟩⟩
section XBodies
variable {l : Launch} {y : MethodName} {cc : ByteArray} {maxL mc ms : Nat} {rm : Room} {av : List Value} {lv0 : List (Nat × Value)} {K : wK} {ad : Nat → Nat} {ws : List AC} {px : Int → List AC → Prop}
theorem x_out {p : Program} {e : Env} {s : State} {m : MethodId} {args : Array Value} {below : List Frame} {meth : Method} {c : Code} {Qc : Array Value → State → Outcome → State → Prop} (hK : va_K K.1 vwCl (wTY K) s) (ht : ∀ x ∈ c.exceptionTable.toList, False) (hlocks : meth.locks = false) : XOut p l e rm s m args below meth c mc ms (vx_MQ below Qc (xQ K ad ws s.heap.size px) args s mc ms (cA K ad ws s.heap.size)) K ad (cA K ad ws s.heap.size) px := by
  intro cells slots pc ls rest k u H1 locs1 ce q9 hc hs hp hP hD hO hS hq hv hcl
  refine vx_out (fun x hx => (ht x hx).elim) hlocks hq hv hcl (fun t ht2 hvm => ?_) hS.2.2 hc hs
  have a := cAt_more hK hP hD hO hS hvm (by rw [ht2]; exact Nat.le_refl _) (fun q _ => by rw [ht2])
  exact ⟨(k, u), hp, ⟨rfl, a.1⟩, a.2⟩
theorem x_thr {p : Program} {e : Env} {s : State} {m : MethodId} {args : Array Value} {below : List Frame} {meth : Method} {c : Code} {Qc : Array Value → State → Outcome → State → Prop} {own : String} (hst : l.stackTraces = false) (hx : p.tables.exec = Jvm.exec) (hb : c.code = cc) (hml : c.maxLocals = maxL) (hown : s.vm.findClass own = some m.cls) (hts : ∀ w ∈ GT, w.before args s = true) (hK : va_K K.1 vwCl (wTY K) s) (hT : tOK (cA K ad ws s.heap.size) s) (ht : ∀ x ∈ c.exceptionTable.toList, False) (hlocks : meth.locks = false) (hrf : 5 < rm.frames) (hrc : rm.cells = mc) (hrs : rm.slots = ms) : XThr p l e rm s m args below meth c mc ms (vx_MQ below Qc (xQ K ad ws s.heap.size px) args s mc ms (cA K ad ws s.heap.size)) K ad (cA K ad ws s.heap.size) px cc maxL own := by
  intro k cells slots pc ik ic lv st u hc hs hk hi hat hlo d0 d3 d4 d7 hp H locs ls hP hD hO hS hl
  refine vx_throw0 (names := exNs) (cls := exN k) (own := own) hx hb hst hown hat.1 (by decide) (hts _ hk) (hts _ hi) (vx_hat (fun w hw => hts w (hat.2.1 w hw)) hat.2.2.1 (xB_at hT.2.2.1)) (fun w hw => ?_) hT.1 hT.2.1 hS (hl.1.trans hml.symm) d0 d3 d4 d7 (fun x hx => (ht x hx).elim) hrf hlo (by rw [hrc]; exact hc) (by rw [hrs]; exact hs) hlocks (fun t hvm hsz hk2 => ?_) hS.2.2 hc hs
  · rcases List.mem_cons.mp hw with rfl | h
    · rfl
    · rcases List.mem_cons.mp h with rfl | h
      · rfl
      · exact hat.2.2.2 w h
  · have a := cAt_more hK hP hD hO hS hvm hsz hk2
    exact ⟨(k, u), hp, ⟨rfl, a.1⟩, a.2⟩
theorem xI_of {post : Int → List AC → Prop} (hst : l.stackTraces = false) (hy : plainName y.cls = true) (hlen : (lg_sl av).length ≤ maxL) (hlv : lv_args 0 av = lv0) (hrf : 5 < rm.frames) (hrc : rm.cells = mc) (hrs : rm.slots = ms)
    (body : ∀ (p : Program) (e : Env) (s : State) (m : MethodId) (args : Array Value) (below : List Frame) (meth : Method) (c : Code) (Q : State → Prop) (A : Nat → Prop), Cx p rm m c 0 0 cc maxL s args y.cls K A → tOK A s →
      (∀ {cells slots pc : Nat} {lv : List (Nat × Value)} {z : Int} {u : List AC}, cells ≤ mc → slots ≤ ms → decode cc pc = .ok (.ireturn, 1) → inR z → post z u → WA p l e rm s m args below meth c cells slots Q K ad maxL A pc lv [.int (iI z)] u) →
      XOut p l e rm s m args below meth c mc ms Q K ad A px → XThr p l e rm s m args below meth c mc ms Q K ad A px cc maxL y.cls →
      WA p l e rm s m args below meth c 0 0 Q K ad maxL A 0 lv0 [] ws) : xI l y (Cond.code y cc maxL (some .int) :: GT) rm mc ms av K ad ws post px := by
  intro sz
  refine vx_ofW (cc := cc) (maxL := maxL) (ret := (some .int)) hy rfl ?_
  intro p e s m args below meth c s₁ B hml ht hv
  obtain ⟨rfl, hsz, ⟨hP, hK, hD0, hO⟩, hZ, hT⟩ := hv
  have hx := B.exec
  have hb := B.bytes
  have hr := B.returns
  have hts := atoms_spec (ws := Cond.code y cc maxL (some .int) :: GT) B.pre
  have hown : s.vm.findClass y.cls = some m.cls := findClass_of_methodNamed B.named
  have hlocks := B.notSynchronized
  subst hsz
  have hD := hD0.self (sz := s.heap.size)
  have htg : ∀ w ∈ GT, w.before av.toArray s = true := fun w h => hts w (List.mem_cons_of_mem _ h)
  have C : Cx p rm m c 0 0 cc maxL s av.toArray y.cls K (cA K ad ws s.heap.size) := ⟨hx, hb, hml, hown, htg, hK, fun q h => Or.inr h, Nat.zero_le _, Nat.zero_le _, hZ⟩
  have hl := lv_entry av (n := maxL) hlen
  rw [hlv] at hl
  rw [lg_entry_eq]
  exact body p e s m av.toArray below meth c _ (cA K ad ws s.heap.size) C hT (fun {cells slots pc lv} z u hc hs hd hz hp => fun H locs ls hP1 hD1 hO1 hS1 hl1 => W.widen hc hs (vx_ret (W.iret (v := iI z) hx hb hr (fun t ht hW => ⟨⟨iI z, u, rfl, ⟨z, hz, rfl, hp⟩, by rw [ht]; exact hP1, va_K.moved hW.alike hK, hD1, hO1⟩, hS1.F ht⟩) hS1.2.2 hd hlocks))) (x_out hK ht hlocks) (x_thr hst hx hb hml hown htg hK hT ht hlocks hrf hrc hrs) s.heap [] _ hP hD hO va_S.rf hl
theorem xZ_of {post : Int → List AC → Prop} (hst : l.stackTraces = false) (hy : plainName y.cls = true) (hlen : (lg_sl av).length ≤ maxL) (hlv : lv_args 0 av = lv0) (hrf : 5 < rm.frames) (hrc : rm.cells = mc) (hrs : rm.slots = ms)
    (body : ∀ (p : Program) (e : Env) (s : State) (m : MethodId) (args : Array Value) (below : List Frame) (meth : Method) (c : Code) (Q : State → Prop) (A : Nat → Prop), Cx p rm m c 0 0 cc maxL s args y.cls K A → tOK A s →
      (∀ {cells slots pc : Nat} {lv : List (Nat × Value)} {z : Int} {u : List AC}, cells ≤ mc → slots ≤ ms → decode cc pc = .ok (.ireturn, 1) → (z = 0 ∨ z = 1) → post z u → WA p l e rm s m args below meth c cells slots Q K ad maxL A pc lv [.int (iI z)] u) →
      XOut p l e rm s m args below meth c mc ms Q K ad A px → XThr p l e rm s m args below meth c mc ms Q K ad A px cc maxL y.cls →
      WA p l e rm s m args below meth c 0 0 Q K ad maxL A 0 lv0 [] ws) : xI l y (Cond.code y cc maxL (some .boolean) :: GT) rm mc ms av K ad ws post px := by
  intro sz
  refine vx_ofW (cc := cc) (maxL := maxL) (ret := (some .boolean)) hy rfl ?_
  intro p e s m args below meth c s₁ B hml ht hv
  obtain ⟨rfl, hsz, ⟨hP, hK, hD0, hO⟩, hZ, hT⟩ := hv
  have hx := B.exec
  have hb := B.bytes
  have hr := B.returns
  have hts := atoms_spec (ws := Cond.code y cc maxL (some .boolean) :: GT) B.pre
  have hown : s.vm.findClass y.cls = some m.cls := findClass_of_methodNamed B.named
  have hlocks := B.notSynchronized
  subst hsz
  have hD := hD0.self (sz := s.heap.size)
  have htg : ∀ w ∈ GT, w.before av.toArray s = true := fun w h => hts w (List.mem_cons_of_mem _ h)
  have C : Cx p rm m c 0 0 cc maxL s av.toArray y.cls K (cA K ad ws s.heap.size) := ⟨hx, hb, hml, hown, htg, hK, fun q h => Or.inr h, Nat.zero_le _, Nat.zero_le _, hZ⟩
  have hl := lv_entry av (n := maxL) hlen
  rw [hlv] at hl
  rw [lg_entry_eq]
  exact body p e s m av.toArray below meth c _ (cA K ad ws s.heap.size) C hT (fun {cells slots pc lv} z u hc hs hd hz hp => fun H locs ls hP1 hD1 hO1 hS1 hl1 => W.widen hc hs (vx_ret (W.zret (v := iI z) (ty := .boolean) hx hb hr (by rcases hz with rfl | rfl <;> rfl) (fun t ht hW => ⟨⟨iI z, u, rfl, ⟨z, inR_b hz, rfl, hp⟩, by rw [ht]; exact hP1, va_K.moved hW.alike hK, hD1, hO1⟩, hS1.F ht⟩) hS1.2.2 hd hlocks))) (x_out hK ht hlocks) (x_thr hst hx hb hml hown htg hK hT ht hlocks hrf hrc hrs) s.heap [] _ hP hD hO va_S.rf hl
theorem xV_of {post : List AC → Prop} (hst : l.stackTraces = false) (hy : plainName y.cls = true) (hlen : (lg_sl av).length ≤ maxL) (hlv : lv_args 0 av = lv0) (hrf : 5 < rm.frames) (hrc : rm.cells = mc) (hrs : rm.slots = ms)
    (body : ∀ (p : Program) (e : Env) (s : State) (m : MethodId) (args : Array Value) (below : List Frame) (meth : Method) (c : Code) (Q : State → Prop) (A : Nat → Prop), Cx p rm m c 0 0 cc maxL s args y.cls K A → tOK A s →
      (∀ {cells slots pc : Nat} {lv : List (Nat × Value)} {u : List AC}, cells ≤ mc → slots ≤ ms → decode cc pc = .ok (.return_, 1) → post u → WA p l e rm s m args below meth c cells slots Q K ad maxL A pc lv [] u) →
      XOut p l e rm s m args below meth c mc ms Q K ad A px → XThr p l e rm s m args below meth c mc ms Q K ad A px cc maxL y.cls →
      WA p l e rm s m args below meth c 0 0 Q K ad maxL A 0 lv0 [] ws) : xV l y (Cond.code y cc maxL none :: GT) rm mc ms av K ad ws post px := by
  intro sz
  refine vx_ofW (cc := cc) (maxL := maxL) (ret := none) hy rfl ?_
  intro p e s m args below meth c s₁ B hml ht hv
  obtain ⟨rfl, hsz, ⟨hP, hK, hD0, hO⟩, hZ, hT⟩ := hv
  have hx := B.exec
  have hb := B.bytes
  have hr := B.returns
  have hts := atoms_spec (ws := Cond.code y cc maxL none :: GT) B.pre
  have hown : s.vm.findClass y.cls = some m.cls := findClass_of_methodNamed B.named
  have hlocks := B.notSynchronized
  subst hsz
  have hD := hD0.self (sz := s.heap.size)
  have htg : ∀ w ∈ GT, w.before av.toArray s = true := fun w h => hts w (List.mem_cons_of_mem _ h)
  have C : Cx p rm m c 0 0 cc maxL s av.toArray y.cls K (cA K ad ws s.heap.size) := ⟨hx, hb, hml, hown, htg, hK, fun q h => Or.inr h, Nat.zero_le _, Nat.zero_le _, hZ⟩
  have hl := lv_entry av (n := maxL) hlen
  rw [hlv] at hl
  rw [lg_entry_eq]
  exact body p e s m av.toArray below meth c _ (cA K ad ws s.heap.size) C hT (fun {cells slots pc lv} u hc hs hd hp => fun H locs ls hP1 hD1 hO1 hS1 hl1 => W.widen hc hs (vx_ret (W.vret hx hb hr (fun t ht hW => ⟨⟨u, rfl, hp, by rw [ht]; exact hP1, va_K.moved hW.alike hK, hD1, hO1⟩, hS1.F ht⟩) hS1.2.2 hd hlocks))) (x_out hK ht hlocks) (x_thr hst hx hb hml hown htg hK hT ht hlocks hrf hrc hrs) s.heap [] _ hP hD hO va_S.rf hl
end XBodies
theorem Cx.more {p : Program} {R : Room} {m : MethodId} {c : Code} {cells slots cells' slots' : Nat} {cc : ByteArray} {nL : Nat} {s : State} {args : Array Value} {own : String} {K : wK} {A : Nat → Prop} (C : Cx p R m c cells slots cc nL s args own K A) (h1 : cells' ≤ R.cells) (h2 : slots' ≤ R.slots) : Cx p R m c cells' slots' cc nL s args own K A := ⟨C.1, C.2.1, C.2.2.1, C.2.2.2.1, C.2.2.2.2.1, C.2.2.2.2.2.1, C.2.2.2.2.2.2.1, h1, h2, C.2.2.2.2.2.2.2.2.2⟩
section XCalls
variable {p : Program} {l : Launch} {e : Env} {R : Room} {s : State} {m : MethodId} {args : Array Value} {below : List Frame} {meth : Method} {c : Code} {cells slots : Nat} {Q : State → Prop} {K : wK} {ad : Nat → Nat} {nL : Nat} {A : Nat → Prop} {cc : ByteArray} {own : String} {pc : Nat} {lv : List (Nat × Value)} {st : List Value} {ws : List AC} {mc0 ms0 : Nat} {px0 : Int → List AC → Prop}
theorem x_good {y : MethodName} {index : Nat} {Cn : String} {wd : Cond} (hcode : wd ∈ GT) (hln : Cond.methodLink own index y ∈ GT) (hi : Cond.instanceMethod y ∈ GT) (hse : Cond.selects Cn y y ∈ GT) (hini : Cond.initialized Cn ∈ GT) : GoodIn GT (wsV own index Cn y (wd :: GT)) := by
  refine gt_in (fun w hw9 => ?_)
  rcases List.mem_append.mp hw9 with h | h
  · rcases List.mem_cons.mp h with rfl | h
    · exact hln
    · rcases List.mem_cons.mp h with rfl | h
      · exact hi
      · rcases List.mem_cons.mp h with rfl | h
        · exact hse
        · rcases List.mem_cons.mp h with rfl | h
          · exact hini
          · cases h
  · rcases List.mem_cons.mp h with rfl | h
    · exact hcode
    · exact h
theorem wa_xVi (C : Cx p R m c cells slots cc nL s args own K A) (T : tOK A s) (XO : XOut p l e R s m args below meth c mc0 ms0 Q K ad A px0) {y : MethodName} {bytes : ByteArray} {maxL n index mc ms : Nat} {ret : Option FieldType} {rm : Room} {As rest : List Value} {k ci N : Nat} {fs : List FV} {Cn : String} {Ty : u_T} {post px : Int → List AC → Prop} (hM : xI l y (Cond.code y bytes maxL ret :: GT) rm mc ms (.ref (ad k) :: As) K ad ws post px) (hcode : Cond.code y bytes maxL ret ∈ GT) (hln : Cond.methodLink own index y ∈ GT) (hw : ws[k]? = some (.inl (ci, fs))) (hcl : vwCl[ci]? = some (Cn, Ty, N)) (hi : Cond.instanceMethod y ∈ GT) (hse : Cond.selects Cn y y ∈ GT) (hini : Cond.initialized Cn ∈ GT) (hdesc : y.cls = Cn ∧ y.cls ≠ "java/lang/invoke/MethodHandle" ∧ y.cls ≠ "java/lang/invoke/VarHandle" ∧ (parseMethodDescriptor y.desc).map (fun d => d.parameters.length) = some n) (hn : As.length = n) (hrc : rm.cells = mc) (hrs : rm.slots = ms) (hR : rm.frames + 1 ≤ R.frames ∧ 8 + (maxL + 11) + rm.locals ≤ R.locals) (hst : st = As.reverse ++ .ref (ad k) :: rest) (hroom : (rest.map fun v => v.category).sum ≤ 8) (hd : decode cc pc = .ok (.invokevirtual index, 3)) (hcR : cells + mc ≤ R.cells ∧ slots + ms ≤ R.slots) (hc0 : cells + mc ≤ mc0 ∧ slots + ms ≤ ms0) (kx : ∀ z u, px z u → px0 z u) (kk : ∀ z u, inR z → post z u → WA p l e R s m args below meth c (cells + mc) (slots + ms) Q K ad nL A (pc + 3) lv (.int (iI z) :: rest) u) : WA p l e R s m args below meth c cells slots Q K ad nL A pc lv st ws := by
  intro H locs ls hP hD hO hS hl
  have hFc : ∀ q, cA K ad ws H.size q → A q := fun q h => h.elim (fun ⟨i, e9, he⟩ => hD.2 i (q, e9) he) (fun h => C.2.2.2.2.2.2.1 q (Nat.le_trans hS.1 h))
  have hpre : ∀ U : State, U.heap = H → s.WarmedH U.vm → xPre K ad (.ref (ad k) :: As) ws H.size (.ref (ad k) :: As).toArray U := fun U hU hW => ⟨rfl, by rw [hU], ⟨by rw [hU]; exact hP, va_K.moved hW.alike C.2.2.2.2.2.1, hD.weaken (fun _ _ _ _ => trivial), hO⟩, C.2.2.2.2.2.2.2.2.2.call hS hFc hU hW.alike, T.call hS hFc hU hW⟩
  refine vx_calli (vx_runV (As := As) (rest := rest) ⟨C.1, C.2.1, C.2.2.1, C.2.2.2.1, C.2.2.2.2.1⟩ (hM H.size) (cwV n C.2.2.2.2.1 (x_good hcode hln hi hse hini) rfl hrc hrs hdesc hR) ⟨xPre_blind, va_recv C.2.2.2.2.2.1 hP hcl (wG_get hw), hpre⟩ rfl hn hl.1 hst (lv_room hroom) hd hcR) hS (fun q _ h => hFc q h) hFc (fun q _ h => hFc q h) (fun E ce q9 u t H1 locs1 ht hvm hp hB hz1 hk1 hS1 hq hv hcl9 => ?_) (fun r u t H1 locs1 ht hvm hw1 hB hz1 hk1 hS1 => ?_)
  · obtain ⟨rfl, hP1, hK1, hD1, hO1⟩ := hB
    rw [ht] at hP1
    exact XO _ _ _ _ _ u.1 u.2 H1 locs1 ce q9 hc0.1 hc0.2 (kx _ _ hp) hP1 (hD1.weaken (fun _ _ _ h => hFc _ h)) hO1 hS1 hq hv hcl9
  · obtain ⟨z, hz, rfl, hp⟩ := hw1
    obtain ⟨hP1, hK1, hD1, hO1⟩ := hB
    rw [ht] at hP1
    exact kk z u hz hp H1 locs1 ls hP1 (hD1.weaken (fun _ _ _ h => hFc _ h)) hO1 hS1 hl
theorem wa_xVv (C : Cx p R m c cells slots cc nL s args own K A) (T : tOK A s) (XO : XOut p l e R s m args below meth c mc0 ms0 Q K ad A px0) {y : MethodName} {bytes : ByteArray} {maxL n index mc ms : Nat} {ret : Option FieldType} {rm : Room} {As rest : List Value} {k ci N : Nat} {fs : List FV} {Cn : String} {Ty : u_T} {post : List AC → Prop} {px : Int → List AC → Prop} (hM : xV l y (Cond.code y bytes maxL ret :: GT) rm mc ms (.ref (ad k) :: As) K ad ws post px) (hcode : Cond.code y bytes maxL ret ∈ GT) (hln : Cond.methodLink own index y ∈ GT) (hw : ws[k]? = some (.inl (ci, fs))) (hcl : vwCl[ci]? = some (Cn, Ty, N)) (hi : Cond.instanceMethod y ∈ GT) (hse : Cond.selects Cn y y ∈ GT) (hini : Cond.initialized Cn ∈ GT) (hdesc : y.cls = Cn ∧ y.cls ≠ "java/lang/invoke/MethodHandle" ∧ y.cls ≠ "java/lang/invoke/VarHandle" ∧ (parseMethodDescriptor y.desc).map (fun d => d.parameters.length) = some n) (hn : As.length = n) (hrc : rm.cells = mc) (hrs : rm.slots = ms) (hR : rm.frames + 1 ≤ R.frames ∧ 8 + (maxL + 11) + rm.locals ≤ R.locals) (hst : st = As.reverse ++ .ref (ad k) :: rest) (hroom : (rest.map fun v => v.category).sum ≤ 8) (hd : decode cc pc = .ok (.invokevirtual index, 3)) (hcR : cells + mc ≤ R.cells ∧ slots + ms ≤ R.slots) (hc0 : cells + mc ≤ mc0 ∧ slots + ms ≤ ms0) (kx : ∀ z u, px z u → px0 z u) (kk : ∀ u, post u → WA p l e R s m args below meth c (cells + mc) (slots + ms) Q K ad nL A (pc + 3) lv rest u) : WA p l e R s m args below meth c cells slots Q K ad nL A pc lv st ws := by
  intro H locs ls hP hD hO hS hl
  have hFc : ∀ q, cA K ad ws H.size q → A q := fun q h => h.elim (fun ⟨i, e9, he⟩ => hD.2 i (q, e9) he) (fun h => C.2.2.2.2.2.2.1 q (Nat.le_trans hS.1 h))
  have hpre : ∀ U : State, U.heap = H → s.WarmedH U.vm → xPre K ad (.ref (ad k) :: As) ws H.size (.ref (ad k) :: As).toArray U := fun U hU hW => ⟨rfl, by rw [hU], ⟨by rw [hU]; exact hP, va_K.moved hW.alike C.2.2.2.2.2.1, hD.weaken (fun _ _ _ _ => trivial), hO⟩, C.2.2.2.2.2.2.2.2.2.call hS hFc hU hW.alike, T.call hS hFc hU hW⟩
  refine vx_callv (vx_runV (As := As) (rest := rest) ⟨C.1, C.2.1, C.2.2.1, C.2.2.2.1, C.2.2.2.2.1⟩ (hM H.size) (cwV n C.2.2.2.2.1 (x_good hcode hln hi hse hini) rfl hrc hrs hdesc hR) ⟨xPre_blind, va_recv C.2.2.2.2.2.1 hP hcl (wG_get hw), hpre⟩ rfl hn hl.1 hst (lv_room hroom) hd hcR) hS (fun q _ h => hFc q h) hFc (fun q _ h => hFc q h) (fun E ce q9 u t H1 locs1 ht hvm hp hB hz1 hk1 hS1 hq hv hcl9 => ?_) (fun u t H1 locs1 ht hvm hw1 hB hz1 hk1 hS1 => ?_)
  · obtain ⟨rfl, hP1, hK1, hD1, hO1⟩ := hB
    rw [ht] at hP1
    exact XO _ _ _ _ _ u.1 u.2 H1 locs1 ce q9 hc0.1 hc0.2 (kx _ _ hp) hP1 (hD1.weaken (fun _ _ _ h => hFc _ h)) hO1 hS1 hq hv hcl9
  · obtain ⟨hP1, hK1, hD1, hO1⟩ := hB
    rw [ht] at hP1
    exact kk u hw1 H1 locs1 ls hP1 (hD1.weaken (fun _ _ _ h => hFc _ h)) hO1 hS1 hl
end XCalls
