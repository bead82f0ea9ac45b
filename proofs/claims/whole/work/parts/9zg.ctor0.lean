/-! constructors: worlds as they grow -/
def WN (p : Program) (l : Launch) (e : Env) (R : Room) (s : State) (m : MethodId) (args : Array Value) (below : List Frame) (meth : Method) (c : Code) (cells slots : Nat) (Q : State → Prop) (K : wK) (nL : Nat) (A : Nat → Prop) (pc : Nat) (lv : List (Nat × Value)) (st : List Value) (w : va_W) : Prop :=
  ∀ (H : Heap) (locs : List Loc) (ls : Array Slot), va_P K.1 vwCl w H → va_D A w → va_S A s.heap H locs → lv_has ls nL lv → W p l e R s m args below meth c H locs cells slots Q (F0 m pc ls st)
abbrev zI (K : wK) (n : Nat) : va_E := .inl (K.2.1, n, .inl (fun j : Nat => iI ((fun _ : Int => (0 : Int)) (j : Int))))
abbrev zZ (K : wK) (n : Nat) : va_E := .inl (K.2.2.1, n, .inl (fun j : Nat => iI ((fun _ : Int => (0 : Int)) (j : Int))))
abbrev zJ (K : wK) (n : Nat) : va_E := .inl (K.2.2.2, n, .inr (.inl (fun j : Nat => (fun _ : Int => (0 : Int64)) (j : Int))))
/-- links to constructors of nest mates -/
def nLs : List (String × Nat × MethodName) := [(RX11, 11, yX2_init), (RX2, 11, yX3_init), (RX5, 22, yX8_init)]
def nOK (U : State) : Prop := ∀ q ∈ nLs, va_Nw (.methodLinkNest q.1 q.2.1 q.2.2 "MineDesk") U
theorem nOK.warm {s U : State} (hW : s.WarmedH U.vm) (h : nOK s) : nOK U := fun q hq => va_Nw.warmM hW (h q hq)
def adl (l : List Nat) : Nat → Nat := fun i => l.getD i 0
theorem okW_mem {ws : List AC} (h : ∀ x ∈ ws, okC x) : okW ws := fun i x hx => h x (List.mem_of_getElem? hx)
def kPre (K : wK) (av : List Value) (w0 : va_W) (sz : Nat) : Array Value → State → Prop := va_Pc av (fun U => U.heap.size = sz ∧ va_P K.1 vwCl w0 U.heap ∧ va_K K.1 vwCl (wTY K) U ∧ va_D (fun _ => True) w0 ∧ zOK (va_A w0 sz) U ∧ nOK U)
theorem kPre_blind {K : wK} {av : List Value} {w0 : va_W} {sz : Nat} : FrameBlind (kPre K av w0 sz) := by
  intro a U g mk q
  obtain ⟨q0, q1, qP, qK, qD, ⟨tb, z1, z2⟩, qN⟩ := q
  exact ⟨q0, q1, qP, va_K.moved (u := U) (U := U.calling g mk a) (Vm.Alike.refl U.vm) qK, qD, ⟨tb, va_Z.moved (u := U) (U := U.calling g mk a) (Vm.Alike.refl U.vm) z1, va_T.moved (u := U) (U := U.calling g mk a) (Vm.Alike.refl U.vm) z2⟩, nOK.warm (s := U) (U := U.calling g mk a) (State.WarmedH.refl U) qN⟩
def kV (l : Launch) (y : MethodName) (wl : List Cond) (rm : Room) (mc ms : Nat) (av : List Value) (K : wK) (w0 : va_W) (P : va_W → Prop) : Prop :=
  ∀ sz, Met l y wl rm (kPre K av w0 sz) (va_Qv P (fun u t => va_P K.1 vwCl u t.heap ∧ va_K K.1 vwCl (wTY K) t ∧ va_D (va_A w0 sz) u) (va_A w0 sz)) mc ms (va_A w0 sz)
theorem kV_of {l : Launch} {y : MethodName} {cc : ByteArray} {maxL mc ms : Nat} {rm : Room} {av : List Value} {lv0 : List (Nat × Value)} {K : wK} {w0 : va_W} {P : va_W → Prop} (hy : plainName y.cls = true) (hlen : (lg_sl av).length ≤ maxL) (hlv : lv_args 0 av = lv0) (hname : y.name = "<init>")
    (body : ∀ (p : Program) (e : Env) (s : State) (m : MethodId) (args : Array Value) (below : List Frame) (meth : Method) (c : Code) (Q : State → Prop) (A : Nat → Prop), Cx p rm m c 0 0 cc maxL s args y.cls K A → meth.name = "<init>" → nOK s →
      (∀ {cells slots pc : Nat} {lv : List (Nat × Value)} {u : va_W}, cells ≤ mc → slots ≤ ms → decode cc pc = .ok (.return_, 1) → P u → WN p l e rm s m args below meth c cells slots Q K maxL A pc lv [] u) →
      WN p l e rm s m args below meth c 0 0 Q K maxL A 0 lv0 [] w0) : kV l y (Cond.code y cc maxL none :: GT) rm mc ms av K w0 P := by
  intro sz
  refine Met.ofW (cc := cc) (maxL := maxL) (ret := none) hy rfl ?_
  intro p e s m args below meth c s₁ B hml hv
  obtain ⟨rfl, hsz, hP, hK, hD0, hZ, hN⟩ := hv
  have hx := B.exec
  have hb := B.bytes
  have hr := B.returns
  have hts := atoms_spec (ws := Cond.code y cc maxL none :: GT) B.pre
  have hown : s.vm.findClass y.cls = some m.cls := findClass_of_methodNamed B.named
  have hlocks := B.notSynchronized
  have hin : meth.name = "<init>" := (name_of_methodNamed B.named B.method).1.trans hname
  subst hsz
  have hD := hD0.self (sz := s.heap.size)
  have C : Cx p rm m c 0 0 cc maxL s av.toArray y.cls K (va_A w0 s.heap.size) := ⟨hx, hb, hml, hown, fun w h => hts w (List.mem_cons_of_mem _ h), hK, fun q h => Or.inr h, Nat.zero_le _, Nat.zero_le _, hZ⟩
  have hl := lv_entry av (n := maxL) hlen
  rw [hlv] at hl
  rw [lg_entry_eq]
  exact body p e s m av.toArray below meth c _ (va_A w0 s.heap.size) C hin hN (fun {cells slots pc lv} u hc hs hd hp => fun H locs ls hP1 hD1 hS1 hl1 => W.widen hc hs (W.vret hx hb hr (fun t ht hW => ⟨⟨u, rfl, hp, by rw [ht]; exact hP1, va_K.moved hW.alike hK, hD1⟩, hS1.F ht⟩) hS1.2.2 hd hlocks)) s.heap [] _ hP hD va_S.rf hl
section CRows
variable {p : Program} {l : Launch} {e : Env} {R : Room} {s : State} {m : MethodId} {args : Array Value} {below : List Frame} {meth : Method} {c : Code} {cells slots : Nat} {Q : State → Prop} {K : wK} {nL : Nat} {A : Nat → Prop} {cc : ByteArray} {own : String} {pc : Nat} {lv : List (Nat × Value)} {st : List Value} {w : va_W}
theorem wn_iconst (C : Cx p R m c cells slots cc nL s args own K A) {n : Int} {z : Int} (hd : decode cc pc = .ok (.iconst n, 1)) (hz : Int32.ofInt n = iI z) (kk : WN p l e R s m args below meth c cells slots Q K nL A (pc + 1) lv (.int (iI z) :: st) w) : WN p l e R s m args below meth c cells slots Q K nL A pc lv st w :=
  fun H locs ls hP hD hS hl => lv_iconst C.1 C.2.1 hd hz (kk H locs ls hP hD hS hl)
theorem wn_bipush (C : Cx p R m c cells slots cc nL s args own K A) {n : Int} {z : Int} (hd : decode cc pc = .ok (.bipush n, 2)) (hz : (Int8.ofInt n).toInt32 = iI z) (kk : WN p l e R s m args below meth c cells slots Q K nL A (pc + 2) lv (.int (iI z) :: st) w) : WN p l e R s m args below meth c cells slots Q K nL A pc lv st w :=
  fun H locs ls hP hD hS hl => lv_bipush C.1 C.2.1 hd hz (kk H locs ls hP hD hS hl)
theorem wn_sipush (C : Cx p R m c cells slots cc nL s args own K A) {n : Int} {z : Int} (hd : decode cc pc = .ok (.sipush n, 3)) (hz : (Int16.ofInt n).toInt32 = iI z) (kk : WN p l e R s m args below meth c cells slots Q K nL A (pc + 3) lv (.int (iI z) :: st) w) : WN p l e R s m args below meth c cells slots Q K nL A pc lv st w :=
  fun H locs ls hP hD hS hl => lv_sipush C.1 C.2.1 hd hz (kk H locs ls hP hD hS hl)
theorem wn_ldc (C : Cx p R m c cells slots cc nL s args own K A) {index : Nat} {v : Int32} {z : Int} (hw : Jvm.Cond.constant own index v ∈ GT) (hz : v = iI z) (hd : decode cc pc = .ok (.ldc index, 2)) (kk : WN p l e R s m args below meth c cells slots Q K nL A (pc + 2) lv (.int (iI z) :: st) w) : WN p l e R s m args below meth c cells slots Q K nL A pc lv st w :=
  fun H locs ls hP hD hS hl => lv_ldc C.1 C.2.1 C.2.2.2.1 (by rw [← hz]; exact C.2.2.2.2.1 _ hw) hd (kk H locs ls hP hD hS hl)
theorem wn_aload_n (C : Cx p R m c cells slots cc nL s args own K A) {k : Fin 4} {i : Nat} {z : Nat} (pl : Nat) (hk : lv[pl]? = some (i, .ref z)) (hd : decode cc pc = .ok (.aload_n k, 1)) (hi : (k : Nat) = i) (kk : WN p l e R s m args below meth c cells slots Q K nL A (pc + 1) lv (.ref z :: st) w) : WN p l e R s m args below meth c cells slots Q K nL A pc lv st w :=
  fun H locs ls hP hD hS hl => lv_aload_n C.1 C.2.1 hd hi (lv_at hl pl hk) (kk H locs ls hP hD hS hl)
theorem wn_astore_n (C : Cx p R m c cells slots cc nL s args own K A) {k : Fin 4} {i : Nat} {z : Nat} {lv' : List (Nat × Value)} (hd : decode cc pc = .ok (.astore_n k, 1)) (hi : (k : Nat) = i) (hn : i < nL) (hl' : (i, Value.ref z) :: lv.filter (fun q => !(q.1 == i) && !(q.1 + 1 == i && q.2.category == 2)) = lv') (kk : WN p l e R s m args below meth c cells slots Q K nL A (pc + 1) lv' st w) : WN p l e R s m args below meth c cells slots Q K nL A pc lv (.ref z :: st) w :=
  fun H locs ls hP hD hS hl => lv_astore_n C.1 C.2.1 hd hi hl hn hl' (fun ls' hl2 => kk H locs ls' hP hD hS hl2)
theorem wn_istore_n (C : Cx p R m c cells slots cc nL s args own K A) {k : Fin 4} {i : Nat} {z : Int} {lv' : List (Nat × Value)} (hd : decode cc pc = .ok (.istore_n k, 1)) (hi : (k : Nat) = i) (hn : i < nL) (hl' : (i, Value.int (iI z)) :: lv.filter (fun q => !(q.1 == i) && !(q.1 + 1 == i && q.2.category == 2)) = lv') (kk : WN p l e R s m args below meth c cells slots Q K nL A (pc + 1) lv' st w) : WN p l e R s m args below meth c cells slots Q K nL A pc lv (.int (iI z) :: st) w :=
  fun H locs ls hP hD hS hl => lv_istore_n C.1 C.2.1 hd hi hl hn hl' (fun ls' hl2 => kk H locs ls' hP hD hS hl2)
theorem wn_dup (C : Cx p R m c cells slots cc nL s args own K A) {v : Value} (hd : decode cc pc = .ok (.dup, 1)) (hc : v.category = 1) (kk : WN p l e R s m args below meth c cells slots Q K nL A (pc + 1) lv (v :: v :: st) w) : WN p l e R s m args below meth c cells slots Q K nL A pc lv (v :: st) w :=
  fun H locs ls hP hD hS hl => lv_dup C.1 C.2.1 hd hc (kk H locs ls hP hD hS hl)
theorem wn_obj (C : Cx p R m c cells slots cc nL s args own K A) {a idx : Nat} (hln : Cond.methodLink own idx Lib.objectInit ∈ GT) (hin : Cond.instanceMethod Lib.objectInit ∈ GT) (hco : Cond.code Lib.objectInit ⟨#[0xb1]⟩ 1 none ∈ GT) (hd : decode cc pc = .ok (.invokespecial idx, 3)) (hf : 1 ≤ R.frames) (hlo : (st.map fun v => v.category).sum + 12 ≤ R.locals) (kk : WN p l e R s m args below meth c cells slots Q K nL A (pc + 3) lv st w) : WN p l e R s m args below meth c cells slots Q K nL A pc lv (.ref a :: st) w :=
  fun H locs ls hP hD hS hl => W.objInit C.1 C.2.1 C.2.2.2.1 (C.2.2.2.2.1 _ hln) (C.2.2.2.2.1 _ hin) (C.2.2.2.2.1 _ hco) rfl (by rw [C.2.2.1]; exact hl.1) rfl hd hf (by show 2 * 0 + (st.map fun v => v.category).sum + 12 ≤ R.locals; omega) (kk H locs ls hP hD hS hl)
theorem wn_newI (C : Cx p R m c cells slots cc nL s args own K A) {z : Int} {N : Nat} (harr : Cond.arrayClass .int ∈ GT) (hz : inR z) (hN : z = N) (hbytes : N * 4 ≤ 536870912) (hcells : cells + 1 ≤ R.cells) (hslots : slots + N ≤ R.slots) (hd : decode cc pc = .ok (.newarray .int, 2)) (kk : ∀ q, WN p l e R s m args below meth c (cells + 1) (slots + N) Q K nL A (pc + 2) lv (.ref q :: st) (w ++ [(q, zI K N)])) : WN p l e R s m args below meth c cells slots Q K nL A pc lv (.int (iI z) :: st) w := by
  intro H locs ls hP hD hS hl
  have hK := C.2.2.2.2.2.1
  refine va_newa (atype := .int) (ty := .int) (a0 := (N, .inl (fun j : Nat => iI ((fun _ : Int => (0 : Int)) (j : Int))))) C.1 C.2.1 (C.2.2.2.2.1 _ harr) rfl hK hP hD hS C.2.2.2.2.2.2.1 (fun _ => rfl) (fun q => absurd ((iI_lt hz inR_zero).mp q) (by omega)) (by rw [iI_clamp hz]; omega) hbytes hcells hslots hd (fun q cA H1 hK1 hP1 hD1 hS1 => ?_)
  have e1 : s.vm.findClass _ = some cA := (hK1.2 3 _ rfl).2
  have e2 : s.vm.findClass _ = some K.2.1 := (hK.2 0 _ rfl).2
  have e : cA = K.2.1 := Option.some.inj (e1.symm.trans e2)
  subst e
  exact kk q H1 locs ls hP1 hD1 hS1 hl
theorem wn_newZ (C : Cx p R m c cells slots cc nL s args own K A) {z : Int} {N : Nat} (harr : Cond.arrayClass .boolean ∈ GT) (hz : inR z) (hN : z = N) (hbytes : N * 1 ≤ 536870912) (hcells : cells + 1 ≤ R.cells) (hslots : slots + N ≤ R.slots) (hd : decode cc pc = .ok (.newarray .boolean, 2)) (kk : ∀ q, WN p l e R s m args below meth c (cells + 1) (slots + N) Q K nL A (pc + 2) lv (.ref q :: st) (w ++ [(q, zZ K N)])) : WN p l e R s m args below meth c cells slots Q K nL A pc lv (.int (iI z) :: st) w := by
  intro H locs ls hP hD hS hl
  have hK := C.2.2.2.2.2.1
  refine va_newa (atype := .boolean) (ty := .boolean) (a0 := (N, .inl (fun j : Nat => iI ((fun _ : Int => (0 : Int)) (j : Int))))) C.1 C.2.1 (C.2.2.2.2.1 _ harr) rfl hK hP hD hS C.2.2.2.2.2.2.1 (fun _ => rfl) (fun q => absurd ((iI_lt hz inR_zero).mp q) (by omega)) (by rw [iI_clamp hz]; omega) hbytes hcells hslots hd (fun q cA H1 hK1 hP1 hD1 hS1 => ?_)
  have e1 : s.vm.findClass _ = some cA := (hK1.2 3 _ rfl).2
  have e2 : s.vm.findClass _ = some K.2.2.1 := (hK.2 1 _ rfl).2
  have e : cA = K.2.2.1 := Option.some.inj (e1.symm.trans e2)
  subst e
  exact kk q H1 locs ls hP1 hD1 hS1 hl
theorem wn_newJ (C : Cx p R m c cells slots cc nL s args own K A) {z : Int} {N : Nat} (harr : Cond.arrayClass .long ∈ GT) (hz : inR z) (hN : z = N) (hbytes : N * 8 ≤ 536870912) (hcells : cells + 1 ≤ R.cells) (hslots : slots + N ≤ R.slots) (hd : decode cc pc = .ok (.newarray .long, 2)) (kk : ∀ q, WN p l e R s m args below meth c (cells + 1) (slots + N) Q K nL A (pc + 2) lv (.ref q :: st) (w ++ [(q, zJ K N)])) : WN p l e R s m args below meth c cells slots Q K nL A pc lv (.int (iI z) :: st) w := by
  intro H locs ls hP hD hS hl
  have hK := C.2.2.2.2.2.1
  refine va_newa (atype := .long) (ty := .long) (a0 := (N, .inr (.inl (fun j : Nat => (fun _ : Int => (0 : Int64)) (j : Int))))) C.1 C.2.1 (C.2.2.2.2.1 _ harr) rfl hK hP hD hS C.2.2.2.2.2.2.1 (fun _ => rfl) (fun q => absurd ((iI_lt hz inR_zero).mp q) (by omega)) (by rw [iI_clamp hz]; omega) hbytes hcells hslots hd (fun q cA H1 hK1 hP1 hD1 hS1 => ?_)
  have e1 : s.vm.findClass _ = some cA := (hK1.2 3 _ rfl).2
  have e2 : s.vm.findClass _ = some K.2.2.2 := (hK.2 2 _ rfl).2
  have e : cA = K.2.2.2 := Option.some.inj (e1.symm.trans e2)
  subst e
  exact kk q H1 locs ls hP1 hD1 hS1 hl
theorem wn_putR (C : Cx p R m c cells slots cc nL s args own K A) (hinit : meth.name = "<init>") {Cn : String} {Ty : u_T} {N ci index a v : Nat} {fs : List Value} {w' : va_W} (q0 k : Nat) (he : w[q0]? = some (a, .inr (ci, fs))) (hc : vwCl[ci]? = some (Cn, Ty, N)) (hk : k < N) (ok : kOK Cn Ty N) (hlink : Cond.fieldLink own index (Ty k).1 (Ty k).2.1 (Ty k).2.2.1 ∈ GT) (hfin : (Ty k).2.2.2 = true) (hdecl : (Ty k).1 = own) {ty : FieldType} (hd1 : parseFieldDescriptor (Ty k).2.2.1 = some ty) (hn : narrow ty (.ref v) = .ref v) (hfit : fits ty (.ref v) = true) (hl0 : k < fs.length) (hset : w.set q0 (a, .inr (ci, fs.set k (.ref v))) = w') (hd : decode cc pc = .ok (.putfield index, 3)) (kk : WN p l e R s m args below meth c cells slots Q K nL A (pc + 3) lv st w') : WN p l e R s m args below meth c cells slots Q K nL A pc lv (.ref v :: .ref a :: st) w := by
  intro H locs ls hP hD hS hl
  obtain ⟨hws, ⟨ty0, hty⟩, hnm⟩ := ok
  refine va_putF C.1 C.2.1 C.2.2.2.2.1 hws ty0 hty hnm C.2.2.2.1 C.2.2.2.2.2.1 hP hD hS q0 he hc k hk (C.2.2.2.2.1 _ hlink) (fun _ h9 => h9) hfin hinit hdecl hd1 hn hfit hl0 hd (fun H1 locs1 hP1 hD1 hS1 => ?_)
  rw [hset] at hP1 hD1
  exact kk H1 locs1 ls hP1 hD1 hS1 hl
theorem wn_getR (C : Cx p R m c cells slots cc nL s args own K A) {Cn : String} {Ty : u_T} {N ci index a v : Nat} {fs : List Value} (q0 k : Nat) (he : w[q0]? = some (a, .inr (ci, fs))) (hc : vwCl[ci]? = some (Cn, Ty, N)) (hk : k < N) (ok : kOK Cn Ty N) (hlink : Cond.fieldLink own index (Ty k).1 (Ty k).2.1 (Ty k).2.2.1 ∈ GT) (hv : fs[k]? = some (.ref v)) (hd : decode cc pc = .ok (.getfield index, 3)) (kk : WN p l e R s m args below meth c cells slots Q K nL A (pc + 3) lv (.ref v :: st) w) : WN p l e R s m args below meth c cells slots Q K nL A pc lv (.ref a :: st) w :=
  fun H locs ls hP hD hS hl => va_get C.1 C.2.1 C.2.2.2.2.1 ok.1 C.2.2.2.1 C.2.2.2.2.2.1 hP q0 he hc k hk (C.2.2.2.2.1 _ hlink) (fun _ h9 => h9) hv hd (kk H locs ls hP hD hS hl)
theorem wn_new (C : Cx p R m c cells slots cc nL s args own K A) {Cn : String} {Ty : u_T} {N ci index : Nat} {fs : List Value} {ty : Nat → FieldType} (hty : ∀ k, k < N → parseFieldDescriptor (Ty k).2.2.1 = some (ty k)) (ok : kOK Cn Ty N) (hcl : Cond.classLink own index Cn ∈ GT) (hinst : Cond.instantiable Cn N ∈ GT) (hini : Cond.initialized Cn ∈ GT) (hc : vwCl[ci]? = some (Cn, Ty, N)) (hfs : ∀ j, j < N → defaultValue (ty j) = vp_V fs j) (hcells : cells + 1 ≤ R.cells) (hslots : slots + N ≤ R.slots) (hd : decode cc pc = .ok (.new index, 3)) (kk : ∀ q, WN p l e R s m args below meth c (cells + 1) (slots + N) Q K nL A (pc + 3) lv (.ref q :: st) (w ++ [(q, .inr (ci, fs))])) : WN p l e R s m args below meth c cells slots Q K nL A pc lv st w :=
  fun H locs ls hP hD hS hl => va_new C.1 C.2.1 C.2.2.2.2.1 ok.1 ty hty C.2.2.2.1 (C.2.2.2.2.1 _ hcl) (C.2.2.2.2.1 _ hinst) (C.2.2.2.2.1 _ hini) C.2.2.2.2.2.1 hP hD hS C.2.2.2.2.2.2.1 hc hfs hcells hslots hd (fun q H1 hP1 hD1 hS1 => kk q H1 locs ls hP1 hD1 hS1 hl)
theorem wn_call (C : Cx p R m c cells slots cc nL s args own K A) (N : nOK s) {y : MethodName} {bytes : ByteArray} {maxL n index mc ms a : Nat} {rm : Room} {As rest : List Value} {wc wr : va_W} {P : va_W → Prop} (hM : kV l y (Cond.code y bytes maxL none :: GT) rm mc ms (.ref a :: As) K wc P) (isC isR : List Nat) (hC : isC.map (fun i => w[i]?) = wc.map some) (hR9 : isR.map (fun i => w[i]?) = wr.map some) (hnC : va_nd isC = true) (hnR : va_nd isR = true) (hdis : ∀ i ∈ isR, i ∉ isC) (hcode : Cond.code y bytes maxL none ∈ GT) (hln : Cond.methodLink own index y ∈ GT) (hi : Cond.instanceMethod y ∈ GT) (hini : Cond.initialized y.cls ∈ GT) (hdesc : y.cls ≠ "java/lang/invoke/MethodHandle" ∧ y.cls ≠ "java/lang/invoke/VarHandle" ∧ (parseMethodDescriptor y.desc).map (fun d => d.parameters.length) = some n) (hy1 : y.name = "<init>") (hn : As.length = n) (hrc : rm.cells = mc) (hrs : rm.slots = ms) (hR : rm.frames + 1 ≤ R.frames ∧ 8 + (maxL + 11) + rm.locals ≤ R.locals) (hst : st = As.reverse ++ .ref a :: rest) (hroom : (rest.map fun v => v.category).sum ≤ 8) (hd : decode cc pc = .ok (.invokespecial index, 3)) (hcR : cells + mc ≤ R.cells ∧ slots + ms ≤ R.slots) (kk : ∀ w1, P w1 → WN p l e R s m args below meth c (cells + mc) (slots + ms) Q K nL A (pc + 3) lv rest (wr ++ w1)) : WN p l e R s m args below meth c cells slots Q K nL A pc lv st w := by
  intro H locs ls hP hD hS hl
  have hPc : va_P K.1 vwCl wc H := by
    intro k q hk
    have h1 : (isC.map (fun i => w[i]?))[k]? = some (some q) := by rw [hC, List.getElem?_map, hk]; rfl
    rw [List.getElem?_map] at h1
    cases h2 : isC[k]? with
    | none => rw [h2] at h1; cases h1
    | some i => rw [h2] at h1; exact hP i q (Option.some.inj h1)
  have hDc := hD.sub (ws' := wc) isC hnC hC
  have hFc := va_free (wc := wc) hD hS C.2.2.2.2.2.2.1 isC hC
  have hpre : ∀ U : State, U.heap = H → s.WarmedH U.vm → kPre K (.ref a :: As) wc H.size (.ref a :: As).toArray U := fun U hU hW => ⟨rfl, by rw [hU], by rw [hU]; exact hPc, va_K.moved hW.alike C.2.2.2.2.2.1, hDc.weaken (fun _ _ _ _ => trivial), C.2.2.2.2.2.2.2.2.2.call hS hFc hU hW.alike, N.warm hW⟩
  have hg : GoodIn GT (Cond.code y bytes maxL none :: GT) := gt_in (fun w9 hw9 => by
    rcases List.mem_cons.mp hw9 with rfl | h
    · exact hcode
    · exact h)
  refine va_callv (va_runI (As := As) (rest := rest) ⟨C.1, C.2.1, C.2.2.1, C.2.2.2.1, C.2.2.2.2.1⟩ (hM H.size) (cwI n C.2.2.2.2.1 hg rfl hrc hrs (C.2.2.2.2.1 _ hini) (C.2.2.2.2.1 _ hln) (C.2.2.2.2.1 _ hi) hy1 hdesc hR) ⟨kPre_blind, hpre⟩ rfl hn hl.1 hst (lv_room hroom) hd hcR) hS (fun q _ h => hFc q h) hFc (fun u t H1 locs1 ht hvm hw1 hB hz1 hk1 hS1 => ?_)
  obtain ⟨hP1, hK1, hD1⟩ := hB
  rw [ht] at hP1
  obtain ⟨hP2, hD2⟩ := va_join (wr := wr) (w1 := u) hP hD isC isR hC hR9 hnR hdis hk1 hFc hP1 hD1
  exact kk u hw1 H1 locs1 ls hP2 hD2 hS1 hl
theorem wn_callN (C : Cx p R m c cells slots cc nL s args own K A) (N : nOK s) {y : MethodName} {bytes : ByteArray} {maxL n index mc ms a : Nat} {rm : Room} {As rest : List Value} {wc wr : va_W} {P : va_W → Prop} (hM : kV l y (Cond.code y bytes maxL none :: GT) rm mc ms (.ref a :: As) K wc P) (isC isR : List Nat) (hC : isC.map (fun i => w[i]?) = wc.map some) (hR9 : isR.map (fun i => w[i]?) = wr.map some) (hnC : va_nd isC = true) (hnR : va_nd isR = true) (hdis : ∀ i ∈ isR, i ∉ isC) (hcode : Cond.code y bytes maxL none ∈ GT) (hln : (own, index, y) ∈ nLs) (hi : Cond.instanceMethod y ∈ GT) (hini : Cond.initialized y.cls ∈ GT) (hdesc : y.cls ≠ "java/lang/invoke/MethodHandle" ∧ y.cls ≠ "java/lang/invoke/VarHandle" ∧ (parseMethodDescriptor y.desc).map (fun d => d.parameters.length) = some n) (hy1 : y.name = "<init>") (hn : As.length = n) (hrc : rm.cells = mc) (hrs : rm.slots = ms) (hR : rm.frames + 1 ≤ R.frames ∧ 8 + (maxL + 11) + rm.locals ≤ R.locals) (hst : st = As.reverse ++ .ref a :: rest) (hroom : (rest.map fun v => v.category).sum ≤ 8) (hd : decode cc pc = .ok (.invokespecial index, 3)) (hcR : cells + mc ≤ R.cells ∧ slots + ms ≤ R.slots) (kk : ∀ w1, P w1 → WN p l e R s m args below meth c (cells + mc) (slots + ms) Q K nL A (pc + 3) lv rest (wr ++ w1)) : WN p l e R s m args below meth c cells slots Q K nL A pc lv st w := by
  intro H locs ls hP hD hS hl
  have hPc : va_P K.1 vwCl wc H := by
    intro k q hk
    have h1 : (isC.map (fun i => w[i]?))[k]? = some (some q) := by rw [hC, List.getElem?_map, hk]; rfl
    rw [List.getElem?_map] at h1
    cases h2 : isC[k]? with
    | none => rw [h2] at h1; cases h1
    | some i => rw [h2] at h1; exact hP i q (Option.some.inj h1)
  have hDc := hD.sub (ws' := wc) isC hnC hC
  have hFc := va_free (wc := wc) hD hS C.2.2.2.2.2.2.1 isC hC
  have hpre : ∀ U : State, U.heap = H → s.WarmedH U.vm → kPre K (.ref a :: As) wc H.size (.ref a :: As).toArray U := fun U hU hW => ⟨rfl, by rw [hU], by rw [hU]; exact hPc, va_K.moved hW.alike C.2.2.2.2.2.1, hDc.weaken (fun _ _ _ _ => trivial), C.2.2.2.2.2.2.2.2.2.call hS hFc hU hW.alike, N.warm hW⟩
  have hg : GoodIn GT (Cond.code y bytes maxL none :: GT) := gt_in (fun w9 hw9 => by
    rcases List.mem_cons.mp hw9 with rfl | h
    · exact hcode
    · exact h)
  refine va_callv (va_runIN (As := As) (rest := rest) ⟨C.1, C.2.1, C.2.2.1, C.2.2.2.1, C.2.2.2.2.1⟩ (hM H.size) ⟨va_cnB n C.2.2.2.2.1 hg rfl hrc hrs (N _ hln) (C.2.2.2.2.1 _ hini) hdesc hR, hy1, C.2.2.2.2.1 _ hi⟩ ⟨kPre_blind, hpre⟩ rfl hn hl.1 hst (lv_room hroom) hd hcR) hS (fun q _ h => hFc q h) hFc (fun u t H1 locs1 ht hvm hw1 hB hz1 hk1 hS1 => ?_)
  obtain ⟨hP1, hK1, hD1⟩ := hB
  rw [ht] at hP1
  obtain ⟨hP2, hD2⟩ := va_join (wr := wr) (w1 := u) hP hD isC isR hC hR9 hnR hdis hk1 hFc hP1 hD1
  exact kk u hw1 H1 locs1 ls hP2 hD2 hS1 hl
/-- from a world of this kind to a listed one -/
theorem wn_wa {ad : Nat → Nat} {ws : List AC} (hw : w = wG K ad ws) (hO : okW ws) (kk : WA p l e R s m args below meth c cells slots Q K ad nL A pc lv st ws) : WN p l e R s m args below meth c cells slots Q K nL A pc lv st w :=
  fun H locs ls hP hD hS hl => kk H locs ls (hw ▸ hP) (hw ▸ hD) hO hS hl
theorem wn_sub (C : Cx p R m c cells slots cc nL s args own K A) {lv' : List (Nat × Value)} (is : List Nat) (hs : lv_pick lv is = lv') (kk : WN p l e R s m args below meth c cells slots Q K nL A pc lv' st w) : WN p l e R s m args below meth c cells slots Q K nL A pc lv st w :=
  fun H locs ls hP hD hS hl => kk H locs ls hP hD hS (lv_sub hl is hs)
end CRows
