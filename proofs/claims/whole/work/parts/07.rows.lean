/-! the world as a list of cells, by numbers; rows over it -/
abbrev wK : Type := va_G × ClassId × ClassId × ClassId
abbrev FV : Type := Int ⊕ (Int ⊕ Nat)
abbrev AC : Type := (Nat × List FV) ⊕ (Nat × Nat × ((Int → Int) ⊕ (Int → Int64)))
def fvv (ad : Nat → Nat) : FV → Value
  | .inl z => .int (iI z)
  | .inr (.inl z) => .int (iI z)
  | .inr (.inr k) => .ref (ad k)
def cE (K : wK) (ad : Nat → Nat) : AC → va_E
  | .inl (ci, fs) => .inr (ci, fs.map (fvv ad))
  | .inr (0, n, .inl a) => .inl (K.2.1, n, .inl (fun j => iI (a (j : Int))))
  | .inr (_ + 1, n, .inl a) => .inl (K.2.2.1, n, .inl (fun j => iI (a (j : Int))))
  | .inr (_, n, .inr b) => .inl (K.2.2.2, n, .inr (.inl (fun j => b (j : Int))))
def wG (K : wK) (ad : Nat → Nat) (ws : List AC) : va_W := ws.mapIdx (fun i x => (ad i, cE K ad x))
theorem wG_get {K : wK} {ad : Nat → Nat} {ws : List AC} {i : Nat} {x : AC} (h : ws[i]? = some x) : (wG K ad ws)[i]? = some (ad i, cE K ad x) := by
  simp [wG, h]
theorem wG_set {K : wK} {ad : Nat → Nat} {ws : List AC} {i : Nat} {x : AC} : (wG K ad ws).set i (ad i, cE K ad x) = wG K ad (ws.set i x) := by
  apply List.ext_getElem?
  intro j
  by_cases h : i = j
  · subst h
    simp only [wG, List.getElem?_set_self', List.getElem?_mapIdx]
    cases ws[i]? <;> rfl
  · simp only [wG, List.getElem?_mapIdx, List.getElem?_set_ne h]
def okF : FV → Prop
  | .inl z => inR z
  | .inr (.inl z) => z = 0 ∨ z = 1
  | .inr (.inr _) => True
def okC : AC → Prop
  | .inl (_, fs) => ∀ f ∈ fs, okF f
  | .inr (0, n, .inl a) => n < 2147483648 ∧ ∀ j, inR (a j)
  | .inr (_ + 1, n, .inl a) => n < 2147483648 ∧ ∀ j, a j = 0 ∨ a j = 1
  | .inr (_, n, .inr _) => n < 2147483648
def okW (ws : List AC) : Prop := ∀ (i : Nat) (x : AC), ws[i]? = some x → okC x
theorem okW.set {ws : List AC} (h : okW ws) {i : Nat} {x : AC} (hx : okC x) : okW (ws.set i x) := by
  intro j y hy
  by_cases e : i = j
  · subst e
    rw [List.getElem?_set_self'] at hy
    cases hw : ws[i]? with
    | none => rw [hw] at hy; cases hy
    | some w => rw [hw] at hy; cases hy; exact hx
  · rw [List.getElem?_set_ne e] at hy
    exact h j y hy
theorem inR_b {z : Int} (h : z = 0 ∨ z = 1) : inR z := by
  rcases h with rfl | rfl
  · exact ⟨by decide, by decide⟩
  · exact ⟨by decide, by decide⟩
abbrev wTY (K : wK) : List (ClassId × FieldType) := [(K.2.1, .int), (K.2.2.1, .boolean), (K.2.2.2, .long)]
/-- the one static table: in how many ways k of s cells have the mines -/
def chL : List Int := [1, 0, 0, 0, 0, 0, 0, 0, 0, 1, 1, 0, 0, 0, 0, 0, 0, 0, 1, 2, 1, 0, 0, 0, 0, 0, 0, 1, 3, 3, 1, 0, 0, 0, 0, 0, 1, 4, 6, 4, 1, 0, 0, 0, 0, 1, 5, 10, 10, 5, 1, 0, 0, 0, 1, 6, 15, 20, 15, 6, 1, 0, 0, 1, 7, 21, 35, 35, 21, 7, 1, 0, 1, 8, 28, 56, 70, 56, 28, 8, 1]
def chZ (i : Int) : Int := chL.getD i.toNat 0
def zOK (A : Nat → Prop) (U : State) : Prop := ∃ tb : Nat, va_Z RX9 "CHOICES" "[I" (.ref tb) A U U.heap ∧ va_T .int tb 81 (fun j => .int (iI (chZ (j : Int)))) A U U.heap
theorem zOK.call {A B : Nat → Prop} {s U : State} {H : Heap} {locs : List Loc} (h : zOK A s) (hS : va_S A s.heap H locs) (hB : ∀ q, B q → A q) (hU : U.heap = H) (hvm : s.vm.Alike U.vm) : zOK B U := by
  obtain ⟨tb, h1, h2⟩ := h
  subst hU
  exact ⟨tb, ((h1.kept (fun a ha hn => hS.2.1 a ha hn)).moved hvm).narrow hB, ((h2.kept (fun a ha hn => hS.2.1 a ha hn)).moved hvm).narrow hB⟩
/-- what stands fixed while a method runs -/
def Cx (p : Program) (R : Room) (m : MethodId) (c : Code) (cells slots : Nat) (cc : ByteArray) (nL : Nat) (s : State) (args : Array Value) (own : String) (K : wK) (A : Nat → Prop) : Prop :=
  p.tables.exec = Jvm.exec ∧ c.code = cc ∧ c.maxLocals = nL ∧ s.vm.findClass own = some m.cls ∧ (∀ w ∈ GT, w.before args s = true) ∧ va_K K.1 vwCl (wTY K) s ∧ (∀ q, s.heap.size ≤ q → A q) ∧ cells ≤ R.cells ∧ slots ≤ R.slots ∧ zOK A s
def WA (p : Program) (l : Launch) (e : Env) (R : Room) (s : State) (m : MethodId) (args : Array Value) (below : List Frame) (meth : Method) (c : Code) (cells slots : Nat) (Q : State → Prop) (K : wK) (ad : Nat → Nat) (nL : Nat) (A : Nat → Prop) (pc : Nat) (lv : List (Nat × Value)) (st : List Value) (ws : List AC) : Prop :=
  ∀ (H : Heap) (locs : List Loc) (ls : Array Slot), va_P K.1 vwCl (wG K ad ws) H → va_D A (wG K ad ws) → okW ws → va_S A s.heap H locs → lv_has ls nL lv → W p l e R s m args below meth c H locs cells slots Q (F0 m pc ls st)
section Rows
variable {p : Program} {l : Launch} {e : Env} {R : Room} {s : State} {m : MethodId} {args : Array Value} {below : List Frame} {meth : Method} {c : Code} {cells slots : Nat} {Q : State → Prop} {K : wK} {ad : Nat → Nat} {nL : Nat} {A : Nat → Prop} {cc : ByteArray} {own : String} {pc : Nat} {lv : List (Nat × Value)} {st : List Value} {ws : List AC}

theorem wa_iconst (C : Cx p R m c cells slots cc nL s args own K A) {n : Int} {z : Int} (hd : decode cc pc = .ok (.iconst n, 1)) (hz : Int32.ofInt n = iI z) (kk : WA p l e R s m args below meth c cells slots Q K ad nL A (pc + 1) lv (.int (iI z) :: st) ws) : WA p l e R s m args below meth c cells slots Q K ad nL A pc lv st ws :=
  fun H locs ls hP hD hO hS hl => lv_iconst C.1 C.2.1 hd hz (kk H locs ls hP hD hO hS hl)
theorem wa_bipush (C : Cx p R m c cells slots cc nL s args own K A) {n : Int} {z : Int} (hd : decode cc pc = .ok (.bipush n, 2)) (hz : (Int8.ofInt n).toInt32 = iI z) (kk : WA p l e R s m args below meth c cells slots Q K ad nL A (pc + 2) lv (.int (iI z) :: st) ws) : WA p l e R s m args below meth c cells slots Q K ad nL A pc lv st ws :=
  fun H locs ls hP hD hO hS hl => lv_bipush C.1 C.2.1 hd hz (kk H locs ls hP hD hO hS hl)
theorem wa_sipush (C : Cx p R m c cells slots cc nL s args own K A) {n : Int} {z : Int} (hd : decode cc pc = .ok (.sipush n, 3)) (hz : (Int16.ofInt n).toInt32 = iI z) (kk : WA p l e R s m args below meth c cells slots Q K ad nL A (pc + 3) lv (.int (iI z) :: st) ws) : WA p l e R s m args below meth c cells slots Q K ad nL A pc lv st ws :=
  fun H locs ls hP hD hO hS hl => lv_sipush C.1 C.2.1 hd hz (kk H locs ls hP hD hO hS hl)
theorem wa_lconst (C : Cx p R m c cells slots cc nL s args own K A) {n : Fin 2} {v : Int64} (hd : decode cc pc = .ok (.lconst n, 1)) (hz : Int64.ofNat (n : Nat) = v) (kk : WA p l e R s m args below meth c cells slots Q K ad nL A (pc + 1) lv (.long v :: st) ws) : WA p l e R s m args below meth c cells slots Q K ad nL A pc lv st ws :=
  fun H locs ls hP hD hO hS hl => lv_lconst C.1 C.2.1 hd hz (kk H locs ls hP hD hO hS hl)
theorem wa_ldc (C : Cx p R m c cells slots cc nL s args own K A) {index : Nat} {v : Int32} {z : Int} (hw : Jvm.Cond.constant own index v ∈ GT) (hz : v = iI z) (hd : decode cc pc = .ok (.ldc index, 2)) (kk : WA p l e R s m args below meth c cells slots Q K ad nL A (pc + 2) lv (.int (iI z) :: st) ws) : WA p l e R s m args below meth c cells slots Q K ad nL A pc lv st ws :=
  fun H locs ls hP hD hO hS hl => lv_ldc C.1 C.2.1 C.2.2.2.1 (by rw [← hz]; exact C.2.2.2.2.1 _ hw) hd (kk H locs ls hP hD hO hS hl)
theorem wa_ldc2 (C : Cx p R m c cells slots cc nL s args own K A) {index : Nat} {v : Int64} (hw : Jvm.Cond.constantLong own index v ∈ GT) (hd : decode cc pc = .ok (.ldc2_w index, 3)) (kk : WA p l e R s m args below meth c cells slots Q K ad nL A (pc + 3) lv (.long v :: st) ws) : WA p l e R s m args below meth c cells slots Q K ad nL A pc lv st ws :=
  fun H locs ls hP hD hO hS hl => lv_ldc2 C.1 C.2.1 C.2.2.2.1 (C.2.2.2.2.1 _ hw) hd (kk H locs ls hP hD hO hS hl)
theorem wa_iload_n (C : Cx p R m c cells slots cc nL s args own K A) {k : Fin 4} {i : Nat} {z : Int} (pl : Nat) (hk : lv[pl]? = some (i, .int (iI z))) (hd : decode cc pc = .ok (.iload_n k, 1)) (hi : (k : Nat) = i) (kk : WA p l e R s m args below meth c cells slots Q K ad nL A (pc + 1) lv (.int (iI z) :: st) ws) : WA p l e R s m args below meth c cells slots Q K ad nL A pc lv st ws :=
  fun H locs ls hP hD hO hS hl => lv_iload_n C.1 C.2.1 hd hi (lv_at hl pl hk) (kk H locs ls hP hD hO hS hl)
theorem wa_iload (C : Cx p R m c cells slots cc nL s args own K A) {i : Nat} {z : Int} (pl : Nat) (hk : lv[pl]? = some (i, .int (iI z))) (hd : decode cc pc = .ok (.iload i, 2)) (kk : WA p l e R s m args below meth c cells slots Q K ad nL A (pc + 2) lv (.int (iI z) :: st) ws) : WA p l e R s m args below meth c cells slots Q K ad nL A pc lv st ws :=
  fun H locs ls hP hD hO hS hl => lv_iload C.1 C.2.1 hd (lv_at hl pl hk) (kk H locs ls hP hD hO hS hl)
theorem wa_lload_n (C : Cx p R m c cells slots cc nL s args own K A) {k : Fin 4} {i : Nat} {z : Int64} (pl : Nat) (hk : lv[pl]? = some (i, .long z)) (hd : decode cc pc = .ok (.lload_n k, 1)) (hi : (k : Nat) = i) (kk : WA p l e R s m args below meth c cells slots Q K ad nL A (pc + 1) lv (.long z :: st) ws) : WA p l e R s m args below meth c cells slots Q K ad nL A pc lv st ws :=
  fun H locs ls hP hD hO hS hl => lv_lload_n C.1 C.2.1 hd hi (lv_at hl pl hk) (kk H locs ls hP hD hO hS hl)
theorem wa_lload (C : Cx p R m c cells slots cc nL s args own K A) {i : Nat} {z : Int64} (pl : Nat) (hk : lv[pl]? = some (i, .long z)) (hd : decode cc pc = .ok (.lload i, 2)) (kk : WA p l e R s m args below meth c cells slots Q K ad nL A (pc + 2) lv (.long z :: st) ws) : WA p l e R s m args below meth c cells slots Q K ad nL A pc lv st ws :=
  fun H locs ls hP hD hO hS hl => lv_lload C.1 C.2.1 hd (lv_at hl pl hk) (kk H locs ls hP hD hO hS hl)
theorem wa_aload_n (C : Cx p R m c cells slots cc nL s args own K A) {k : Fin 4} {i : Nat} {z : Nat} (pl : Nat) (hk : lv[pl]? = some (i, .ref z)) (hd : decode cc pc = .ok (.aload_n k, 1)) (hi : (k : Nat) = i) (kk : WA p l e R s m args below meth c cells slots Q K ad nL A (pc + 1) lv (.ref z :: st) ws) : WA p l e R s m args below meth c cells slots Q K ad nL A pc lv st ws :=
  fun H locs ls hP hD hO hS hl => lv_aload_n C.1 C.2.1 hd hi (lv_at hl pl hk) (kk H locs ls hP hD hO hS hl)
theorem wa_aload (C : Cx p R m c cells slots cc nL s args own K A) {i : Nat} {z : Nat} (pl : Nat) (hk : lv[pl]? = some (i, .ref z)) (hd : decode cc pc = .ok (.aload i, 2)) (kk : WA p l e R s m args below meth c cells slots Q K ad nL A (pc + 2) lv (.ref z :: st) ws) : WA p l e R s m args below meth c cells slots Q K ad nL A pc lv st ws :=
  fun H locs ls hP hD hO hS hl => lv_aload C.1 C.2.1 hd (lv_at hl pl hk) (kk H locs ls hP hD hO hS hl)
theorem wa_istore_n (C : Cx p R m c cells slots cc nL s args own K A) {k : Fin 4} {i : Nat} {z : Int} {lv' : List (Nat × Value)} (hd : decode cc pc = .ok (.istore_n k, 1)) (hi : (k : Nat) = i) (hn : i < nL) (hl' : (i, Value.int (iI z)) :: lv.filter (fun q => !(q.1 == i) && !(q.1 + 1 == i && q.2.category == 2)) = lv') (kk : WA p l e R s m args below meth c cells slots Q K ad nL A (pc + 1) lv' st ws) : WA p l e R s m args below meth c cells slots Q K ad nL A pc lv (.int (iI z) :: st) ws :=
  fun H locs ls hP hD hO hS hl => lv_istore_n C.1 C.2.1 hd hi hl hn hl' (fun ls' hl2 => kk H locs ls' hP hD hO hS hl2)
theorem wa_istore (C : Cx p R m c cells slots cc nL s args own K A) {i : Nat} {z : Int} {lv' : List (Nat × Value)} (hd : decode cc pc = .ok (.istore i, 2)) (hn : i < nL) (hl' : (i, Value.int (iI z)) :: lv.filter (fun q => !(q.1 == i) && !(q.1 + 1 == i && q.2.category == 2)) = lv') (kk : WA p l e R s m args below meth c cells slots Q K ad nL A (pc + 2) lv' st ws) : WA p l e R s m args below meth c cells slots Q K ad nL A pc lv (.int (iI z) :: st) ws :=
  fun H locs ls hP hD hO hS hl => lv_istore C.1 C.2.1 hd hl hn hl' (fun ls' hl2 => kk H locs ls' hP hD hO hS hl2)
theorem wa_lstore_n (C : Cx p R m c cells slots cc nL s args own K A) {k : Fin 4} {i : Nat} {z : Int64} {lv' : List (Nat × Value)} (hd : decode cc pc = .ok (.lstore_n k, 1)) (hi : (k : Nat) = i) (hn : i + 1 < nL) (hl' : (i, Value.long z) :: lv.filter (fun q => !(q.1 == i) && (!(q.1 == i + 1) && !(q.1 + 1 == i && q.2.category == 2))) = lv') (kk : WA p l e R s m args below meth c cells slots Q K ad nL A (pc + 1) lv' st ws) : WA p l e R s m args below meth c cells slots Q K ad nL A pc lv (.long z :: st) ws :=
  fun H locs ls hP hD hO hS hl => lv_lstore_n C.1 C.2.1 hd hi hl hn hl' (fun ls' hl2 => kk H locs ls' hP hD hO hS hl2)
theorem wa_lstore (C : Cx p R m c cells slots cc nL s args own K A) {i : Nat} {z : Int64} {lv' : List (Nat × Value)} (hd : decode cc pc = .ok (.lstore i, 2)) (hn : i + 1 < nL) (hl' : (i, Value.long z) :: lv.filter (fun q => !(q.1 == i) && (!(q.1 == i + 1) && !(q.1 + 1 == i && q.2.category == 2))) = lv') (kk : WA p l e R s m args below meth c cells slots Q K ad nL A (pc + 2) lv' st ws) : WA p l e R s m args below meth c cells slots Q K ad nL A pc lv (.long z :: st) ws :=
  fun H locs ls hP hD hO hS hl => lv_lstore C.1 C.2.1 hd hl hn hl' (fun ls' hl2 => kk H locs ls' hP hD hO hS hl2)
theorem wa_astore_n (C : Cx p R m c cells slots cc nL s args own K A) {k : Fin 4} {i : Nat} {z : Nat} {lv' : List (Nat × Value)} (hd : decode cc pc = .ok (.astore_n k, 1)) (hi : (k : Nat) = i) (hn : i < nL) (hl' : (i, Value.ref z) :: lv.filter (fun q => !(q.1 == i) && !(q.1 + 1 == i && q.2.category == 2)) = lv') (kk : WA p l e R s m args below meth c cells slots Q K ad nL A (pc + 1) lv' st ws) : WA p l e R s m args below meth c cells slots Q K ad nL A pc lv (.ref z :: st) ws :=
  fun H locs ls hP hD hO hS hl => lv_astore_n C.1 C.2.1 hd hi hl hn hl' (fun ls' hl2 => kk H locs ls' hP hD hO hS hl2)
theorem wa_astore (C : Cx p R m c cells slots cc nL s args own K A) {i : Nat} {z : Nat} {lv' : List (Nat × Value)} (hd : decode cc pc = .ok (.astore i, 2)) (hn : i < nL) (hl' : (i, Value.ref z) :: lv.filter (fun q => !(q.1 == i) && !(q.1 + 1 == i && q.2.category == 2)) = lv') (kk : WA p l e R s m args below meth c cells slots Q K ad nL A (pc + 2) lv' st ws) : WA p l e R s m args below meth c cells slots Q K ad nL A pc lv (.ref z :: st) ws :=
  fun H locs ls hP hD hO hS hl => lv_astore C.1 C.2.1 hd hl hn hl' (fun ls' hl2 => kk H locs ls' hP hD hO hS hl2)
theorem wa_iinc (C : Cx p R m c cells slots cc nL s args own K A) {i : Nat} {n : Int} {z : Int} {lv' : Int → List (Nat × Value)} (pl : Nat) (hk : lv[pl]? = some (i, .int (iI z))) (hd : decode cc pc = .ok (.iinc i n, 3)) (hn : i < nL) (hl' : ∀ x, (i, Value.int (iI x)) :: lv.filter (fun q => !(q.1 == i) && !(q.1 + 1 == i && q.2.category == 2)) = lv' x) (kk : ∀ x, x = z + n → WA p l e R s m args below meth c cells slots Q K ad nL A (pc + 3) (lv' x) st ws) : WA p l e R s m args below meth c cells slots Q K ad nL A pc lv st ws :=
  fun H locs ls hP hD hO hS hl => lv_iinc C.1 C.2.1 hd hl hk (iI_add z n) hn (hl' _) (fun ls' hl2 => kk _ rfl H locs ls' hP hD hO hS hl2)
theorem wa_iadd (C : Cx p R m c cells slots cc nL s args own K A) {x y : Int} (hd : decode cc pc = .ok (.iadd, 1))  (kk : WA p l e R s m args below meth c cells slots Q K ad nL A (pc + 1) lv (.int (iI (x + y)) :: st) ws) : WA p l e R s m args below meth c cells slots Q K ad nL A pc lv (.int (iI y) :: .int (iI x) :: st) ws := by
  intro H locs ls hP hD hO hS hl
  refine lv_iadd C.1 C.2.1 hd  ?_
  rw [iI_add]
  exact kk H locs ls hP hD hO hS hl
theorem wa_isub (C : Cx p R m c cells slots cc nL s args own K A) {x y : Int} (hd : decode cc pc = .ok (.isub, 1))  (kk : WA p l e R s m args below meth c cells slots Q K ad nL A (pc + 1) lv (.int (iI (x - y)) :: st) ws) : WA p l e R s m args below meth c cells slots Q K ad nL A pc lv (.int (iI y) :: .int (iI x) :: st) ws := by
  intro H locs ls hP hD hO hS hl
  refine lv_isub C.1 C.2.1 hd  ?_
  rw [iI_sub]
  exact kk H locs ls hP hD hO hS hl
theorem wa_imul (C : Cx p R m c cells slots cc nL s args own K A) {x y : Int} (hd : decode cc pc = .ok (.imul, 1))  (kk : WA p l e R s m args below meth c cells slots Q K ad nL A (pc + 1) lv (.int (iI (x * y)) :: st) ws) : WA p l e R s m args below meth c cells slots Q K ad nL A pc lv (.int (iI y) :: .int (iI x) :: st) ws := by
  intro H locs ls hP hD hO hS hl
  refine lv_imul C.1 C.2.1 hd  ?_
  rw [iI_mul]
  exact kk H locs ls hP hD hO hS hl
theorem wa_idiv (C : Cx p R m c cells slots cc nL s args own K A) {x y : Int} (hd : decode cc pc = .ok (.idiv, 1)) (hx : inR x) (hy : inR y) (h0 : y ≠ 0) (kk : WA p l e R s m args below meth c cells slots Q K ad nL A (pc + 1) lv (.int (iI (x.tdiv y)) :: st) ws) : WA p l e R s m args below meth c cells slots Q K ad nL A pc lv (.int (iI y) :: .int (iI x) :: st) ws := by
  intro H locs ls hP hD hO hS hl
  refine lv_idiv C.1 C.2.1 hd (fun h => h0 ((iI_eq hy inR_zero).mp h)) ?_
  rw [iI_div hx hy]
  exact kk H locs ls hP hD hO hS hl
theorem wa_irem (C : Cx p R m c cells slots cc nL s args own K A) {x y : Int} (hd : decode cc pc = .ok (.irem, 1)) (hx : inR x) (hy : inR y) (h0 : y ≠ 0) (kk : WA p l e R s m args below meth c cells slots Q K ad nL A (pc + 1) lv (.int (iI (x.tmod y)) :: st) ws) : WA p l e R s m args below meth c cells slots Q K ad nL A pc lv (.int (iI y) :: .int (iI x) :: st) ws := by
  intro H locs ls hP hD hO hS hl
  refine lv_irem C.1 C.2.1 hd (fun h => h0 ((iI_eq hy inR_zero).mp h)) ?_
  rw [iI_rem hx hy]
  exact kk H locs ls hP hD hO hS hl
theorem wa_iand (C : Cx p R m c cells slots cc nL s args own K A) {x y : Int} (hd : decode cc pc = .ok (.iand, 1))  (kk : WA p l e R s m args below meth c cells slots Q K ad nL A (pc + 1) lv (.int (iI (andI x y)) :: st) ws) : WA p l e R s m args below meth c cells slots Q K ad nL A pc lv (.int (iI y) :: .int (iI x) :: st) ws := by
  intro H locs ls hP hD hO hS hl
  refine lv_iand C.1 C.2.1 hd  ?_
  rw [show iI x &&& iI y = iI (andI x y) from (iI_back _).symm]
  exact kk H locs ls hP hD hO hS hl
theorem wa_ior (C : Cx p R m c cells slots cc nL s args own K A) {x y : Int} (hd : decode cc pc = .ok (.ior, 1))  (kk : WA p l e R s m args below meth c cells slots Q K ad nL A (pc + 1) lv (.int (iI (orI x y)) :: st) ws) : WA p l e R s m args below meth c cells slots Q K ad nL A pc lv (.int (iI y) :: .int (iI x) :: st) ws := by
  intro H locs ls hP hD hO hS hl
  refine lv_ior C.1 C.2.1 hd  ?_
  rw [show iI x ||| iI y = iI (orI x y) from (iI_back _).symm]
  exact kk H locs ls hP hD hO hS hl
theorem wa_ishl (C : Cx p R m c cells slots cc nL s args own K A) {x y : Int} (hd : decode cc pc = .ok (.ishl, 1))  (kk : WA p l e R s m args below meth c cells slots Q K ad nL A (pc + 1) lv (.int (iI (shlI x y)) :: st) ws) : WA p l e R s m args below meth c cells slots Q K ad nL A pc lv (.int (iI y) :: .int (iI x) :: st) ws := by
  intro H locs ls hP hD hO hS hl
  refine lv_ishl C.1 C.2.1 hd  ?_
  rw [show iI x <<< (iI y &&& 31) = iI (shlI x y) from (iI_back _).symm]
  exact kk H locs ls hP hD hO hS hl
theorem wa_ishr (C : Cx p R m c cells slots cc nL s args own K A) {x y : Int} (hd : decode cc pc = .ok (.ishr, 1))  (kk : WA p l e R s m args below meth c cells slots Q K ad nL A (pc + 1) lv (.int (iI (shrI x y)) :: st) ws) : WA p l e R s m args below meth c cells slots Q K ad nL A pc lv (.int (iI y) :: .int (iI x) :: st) ws := by
  intro H locs ls hP hD hO hS hl
  refine lv_ishr C.1 C.2.1 hd  ?_
  rw [show iI x >>> (iI y &&& 31) = iI (shrI x y) from (iI_back _).symm]
  exact kk H locs ls hP hD hO hS hl
theorem wa_ineg (C : Cx p R m c cells slots cc nL s args own K A) {x : Int} (hd : decode cc pc = .ok (.ineg, 1)) (kk : WA p l e R s m args below meth c cells slots Q K ad nL A (pc + 1) lv (.int (iI (-x)) :: st) ws) : WA p l e R s m args below meth c cells slots Q K ad nL A pc lv (.int (iI x) :: st) ws := by
  intro H locs ls hP hD hO hS hl
  refine lv_ineg C.1 C.2.1 hd ?_
  rw [iI_neg]
  exact kk H locs ls hP hD hO hS hl
theorem wa_ladd (C : Cx p R m c cells slots cc nL s args own K A) {x y : Int64} (hd : decode cc pc = .ok (.ladd, 1)) (kk : WA p l e R s m args below meth c cells slots Q K ad nL A (pc + 1) lv (.long (x + y) :: st) ws) : WA p l e R s m args below meth c cells slots Q K ad nL A pc lv (.long y :: .long x :: st) ws :=
  fun H locs ls hP hD hO hS hl => lv_ladd C.1 C.2.1 hd (kk H locs ls hP hD hO hS hl)
theorem wa_lsub (C : Cx p R m c cells slots cc nL s args own K A) {x y : Int64} (hd : decode cc pc = .ok (.lsub, 1)) (kk : WA p l e R s m args below meth c cells slots Q K ad nL A (pc + 1) lv (.long (x - y) :: st) ws) : WA p l e R s m args below meth c cells slots Q K ad nL A pc lv (.long y :: .long x :: st) ws :=
  fun H locs ls hP hD hO hS hl => lv_lsub C.1 C.2.1 hd (kk H locs ls hP hD hO hS hl)
theorem wa_lmul (C : Cx p R m c cells slots cc nL s args own K A) {x y : Int64} (hd : decode cc pc = .ok (.lmul, 1)) (kk : WA p l e R s m args below meth c cells slots Q K ad nL A (pc + 1) lv (.long (x * y) :: st) ws) : WA p l e R s m args below meth c cells slots Q K ad nL A pc lv (.long y :: .long x :: st) ws :=
  fun H locs ls hP hD hO hS hl => lv_lmul C.1 C.2.1 hd (kk H locs ls hP hD hO hS hl)
theorem wa_land (C : Cx p R m c cells slots cc nL s args own K A) {x y : Int64} (hd : decode cc pc = .ok (.land, 1)) (kk : WA p l e R s m args below meth c cells slots Q K ad nL A (pc + 1) lv (.long (x &&& y) :: st) ws) : WA p l e R s m args below meth c cells slots Q K ad nL A pc lv (.long y :: .long x :: st) ws :=
  fun H locs ls hP hD hO hS hl => lv_land C.1 C.2.1 hd (kk H locs ls hP hD hO hS hl)
theorem wa_lor (C : Cx p R m c cells slots cc nL s args own K A) {x y : Int64} (hd : decode cc pc = .ok (.lor, 1)) (kk : WA p l e R s m args below meth c cells slots Q K ad nL A (pc + 1) lv (.long (x ||| y) :: st) ws) : WA p l e R s m args below meth c cells slots Q K ad nL A pc lv (.long y :: .long x :: st) ws :=
  fun H locs ls hP hD hO hS hl => lv_lor C.1 C.2.1 hd (kk H locs ls hP hD hO hS hl)
theorem wa_lxor (C : Cx p R m c cells slots cc nL s args own K A) {x y : Int64} (hd : decode cc pc = .ok (.lxor, 1)) (kk : WA p l e R s m args below meth c cells slots Q K ad nL A (pc + 1) lv (.long (x ^^^ y) :: st) ws) : WA p l e R s m args below meth c cells slots Q K ad nL A pc lv (.long y :: .long x :: st) ws :=
  fun H locs ls hP hD hO hS hl => lv_lxor C.1 C.2.1 hd (kk H locs ls hP hD hO hS hl)
theorem wa_ldiv (C : Cx p R m c cells slots cc nL s args own K A) {x y : Int64} (hd : decode cc pc = .ok (.ldiv, 1)) (h0 : ¬ y = 0) (kk : WA p l e R s m args below meth c cells slots Q K ad nL A (pc + 1) lv (.long (x / y) :: st) ws) : WA p l e R s m args below meth c cells slots Q K ad nL A pc lv (.long y :: .long x :: st) ws :=
  fun H locs ls hP hD hO hS hl => lv_ldiv C.1 C.2.1 hd h0 (kk H locs ls hP hD hO hS hl)
theorem wa_lrem (C : Cx p R m c cells slots cc nL s args own K A) {x y : Int64} (hd : decode cc pc = .ok (.lrem, 1)) (h0 : ¬ y = 0) (kk : WA p l e R s m args below meth c cells slots Q K ad nL A (pc + 1) lv (.long (x - x / y * y) :: st) ws) : WA p l e R s m args below meth c cells slots Q K ad nL A pc lv (.long y :: .long x :: st) ws :=
  fun H locs ls hP hD hO hS hl => lv_lrem C.1 C.2.1 hd h0 (kk H locs ls hP hD hO hS hl)
theorem wa_lneg (C : Cx p R m c cells slots cc nL s args own K A) {x : Int64} (hd : decode cc pc = .ok (.lneg, 1)) (kk : WA p l e R s m args below meth c cells slots Q K ad nL A (pc + 1) lv (.long (-x) :: st) ws) : WA p l e R s m args below meth c cells slots Q K ad nL A pc lv (.long x :: st) ws :=
  fun H locs ls hP hD hO hS hl => lv_lneg C.1 C.2.1 hd (kk H locs ls hP hD hO hS hl)
theorem wa_lshl (C : Cx p R m c cells slots cc nL s args own K A) {x : Int64} {y : Int} (hd : decode cc pc = .ok (.lshl, 1)) (kk : WA p l e R s m args below meth c cells slots Q K ad nL A (pc + 1) lv (.long (shlL x y) :: st) ws) : WA p l e R s m args below meth c cells slots Q K ad nL A pc lv (.int (iI y) :: .long x :: st) ws :=
  fun H locs ls hP hD hO hS hl => lv_lshl C.1 C.2.1 hd rfl (kk H locs ls hP hD hO hS hl)
theorem wa_lshr (C : Cx p R m c cells slots cc nL s args own K A) {x : Int64} {y : Int} (hd : decode cc pc = .ok (.lshr, 1)) (kk : WA p l e R s m args below meth c cells slots Q K ad nL A (pc + 1) lv (.long (shrL x y) :: st) ws) : WA p l e R s m args below meth c cells slots Q K ad nL A pc lv (.int (iI y) :: .long x :: st) ws :=
  fun H locs ls hP hD hO hS hl => lv_lshr C.1 C.2.1 hd rfl (kk H locs ls hP hD hO hS hl)
theorem wa_lushr (C : Cx p R m c cells slots cc nL s args own K A) {x : Int64} {y : Int} (hd : decode cc pc = .ok (.lushr, 1)) (kk : WA p l e R s m args below meth c cells slots Q K ad nL A (pc + 1) lv (.long (ushrL x y) :: st) ws) : WA p l e R s m args below meth c cells slots Q K ad nL A pc lv (.int (iI y) :: .long x :: st) ws :=
  fun H locs ls hP hD hO hS hl => lv_lushr C.1 C.2.1 hd rfl (kk H locs ls hP hD hO hS hl)
theorem wa_i2l (C : Cx p R m c cells slots cc nL s args own K A) {x : Int} (hx : inR x) (hd : decode cc pc = .ok (.i2l, 1)) (kk : WA p l e R s m args below meth c cells slots Q K ad nL A (pc + 1) lv (.long (Int64.ofInt x) :: st) ws) : WA p l e R s m args below meth c cells slots Q K ad nL A pc lv (.int (iI x) :: st) ws :=
  fun H locs ls hP hD hO hS hl => lv_i2l C.1 C.2.1 hd (iI_i2l hx) (kk H locs ls hP hD hO hS hl)
theorem wa_l2i (C : Cx p R m c cells slots cc nL s args own K A) {x : Int64} (hd : decode cc pc = .ok (.l2i, 1)) (kk : WA p l e R s m args below meth c cells slots Q K ad nL A (pc + 1) lv (.int (iI (l2I x)) :: st) ws) : WA p l e R s m args below meth c cells slots Q K ad nL A pc lv (.long x :: st) ws :=
  fun H locs ls hP hD hO hS hl => lv_l2i C.1 C.2.1 hd (iI_back _).symm (kk H locs ls hP hD hO hS hl)
theorem wa_lcmp (C : Cx p R m c cells slots cc nL s args own K A) {x y : Int64} (hd : decode cc pc = .ok (.lcmp, 1)) (kk : WA p l e R s m args below meth c cells slots Q K ad nL A (pc + 1) lv (.int (iI (lcI x y)) :: st) ws) : WA p l e R s m args below meth c cells slots Q K ad nL A pc lv (.long y :: .long x :: st) ws := by
  intro H locs ls hP hD hO hS hl
  refine W.lcmp C.1 C.2.1 hd ?_
  rw [lcI_eq]
  exact kk H locs ls hP hD hO hS hl
theorem wa_dup (C : Cx p R m c cells slots cc nL s args own K A) {va : Value} (hd : decode cc pc = .ok (.dup, 1)) (h1 : va.category = 1) (kk : WA p l e R s m args below meth c cells slots Q K ad nL A (pc + 1) lv (va :: va :: st) ws) : WA p l e R s m args below meth c cells slots Q K ad nL A pc lv (va :: st) ws :=
  fun H locs ls hP hD hO hS hl => lv_dup C.1 C.2.1 hd h1 (kk H locs ls hP hD hO hS hl)
theorem wa_dup2 (C : Cx p R m c cells slots cc nL s args own K A) {va vb : Value} (hd : decode cc pc = .ok (.dup2, 1)) (h1 : va.category = 1) (h2 : vb.category = 1) (kk : WA p l e R s m args below meth c cells slots Q K ad nL A (pc + 1) lv (va :: vb :: va :: vb :: st) ws) : WA p l e R s m args below meth c cells slots Q K ad nL A pc lv (va :: vb :: st) ws :=
  fun H locs ls hP hD hO hS hl => lv_dup2_11 C.1 C.2.1 hd h1 h2 (kk H locs ls hP hD hO hS hl)
theorem wa_pop (C : Cx p R m c cells slots cc nL s args own K A) {va : Value} (hd : decode cc pc = .ok (.pop, 1)) (h1 : va.category = 1) (kk : WA p l e R s m args below meth c cells slots Q K ad nL A (pc + 1) lv st ws) : WA p l e R s m args below meth c cells slots Q K ad nL A pc lv (va :: st) ws :=
  fun H locs ls hP hD hO hS hl => lv_pop C.1 C.2.1 hd h1 (kk H locs ls hP hD hO hS hl)
theorem wa_goto (C : Cx p R m c cells slots cc nL s args own K A) {off : Int} {tgt : Nat} (hd : decode cc pc = .ok (.goto off, 3)) (ht : (pc : Int) + off = (tgt : Int)) (kk : WA p l e R s m args below meth c cells slots Q K ad nL A tgt lv st ws) : WA p l e R s m args below meth c cells slots Q K ad nL A pc lv st ws :=
  fun H locs ls hP hD hO hS hl => lv_goto C.1 C.2.1 hd ht (kk H locs ls hP hD hO hS hl)
theorem wa_icmp_eq (C : Cx p R m c cells slots cc nL s args own K A) {x y : Int} {off : Int} {tgt : Nat} (hx : inR x) (hy : inR y) (hd : decode cc pc = .ok (.if_icmp .eq off, 3)) (ht : (pc : Int) + off = (tgt : Int)) (kt : x = y → WA p l e R s m args below meth c cells slots Q K ad nL A tgt lv st ws) (kf : ¬ x = y → WA p l e R s m args below meth c cells slots Q K ad nL A (pc + 3) lv st ws) : WA p l e R s m args below meth c cells slots Q K ad nL A pc lv (.int (iI y) :: .int (iI x) :: st) ws :=
  fun H locs ls hP hD hO hS hl => lv_icmp_eq C.1 C.2.1 hd ht (fun h => kt ((iI_eq hx hy).mp h) H locs ls hP hD hO hS hl) (fun h => kf (fun q => h ((iI_eq hx hy).mpr q)) H locs ls hP hD hO hS hl)
theorem wa_if_eq (C : Cx p R m c cells slots cc nL s args own K A) {x : Int} {off : Int} {tgt : Nat} (hx : inR x) (hd : decode cc pc = .ok (.ifCond .eq off, 3)) (ht : (pc : Int) + off = (tgt : Int)) (kt : x = 0 → WA p l e R s m args below meth c cells slots Q K ad nL A tgt lv st ws) (kf : ¬ x = 0 → WA p l e R s m args below meth c cells slots Q K ad nL A (pc + 3) lv st ws) : WA p l e R s m args below meth c cells slots Q K ad nL A pc lv (.int (iI x) :: st) ws :=
  fun H locs ls hP hD hO hS hl => lv_if_eq C.1 C.2.1 hd ht (fun h => kt ((iI_eq hx inR_zero).mp h) H locs ls hP hD hO hS hl) (fun h => kf (fun q => h ((iI_eq hx inR_zero).mpr q)) H locs ls hP hD hO hS hl)
theorem wa_icmp_ne (C : Cx p R m c cells slots cc nL s args own K A) {x y : Int} {off : Int} {tgt : Nat} (hx : inR x) (hy : inR y) (hd : decode cc pc = .ok (.if_icmp .ne off, 3)) (ht : (pc : Int) + off = (tgt : Int)) (kt : ¬ x = y → WA p l e R s m args below meth c cells slots Q K ad nL A tgt lv st ws) (kf : x = y → WA p l e R s m args below meth c cells slots Q K ad nL A (pc + 3) lv st ws) : WA p l e R s m args below meth c cells slots Q K ad nL A pc lv (.int (iI y) :: .int (iI x) :: st) ws :=
  fun H locs ls hP hD hO hS hl => lv_icmp_ne C.1 C.2.1 hd ht (fun h => kt (fun q => h ((iI_eq hx hy).mpr q)) H locs ls hP hD hO hS hl) (fun h => kf ((iI_eq hx hy).mp h) H locs ls hP hD hO hS hl)
theorem wa_if_ne (C : Cx p R m c cells slots cc nL s args own K A) {x : Int} {off : Int} {tgt : Nat} (hx : inR x) (hd : decode cc pc = .ok (.ifCond .ne off, 3)) (ht : (pc : Int) + off = (tgt : Int)) (kt : ¬ x = 0 → WA p l e R s m args below meth c cells slots Q K ad nL A tgt lv st ws) (kf : x = 0 → WA p l e R s m args below meth c cells slots Q K ad nL A (pc + 3) lv st ws) : WA p l e R s m args below meth c cells slots Q K ad nL A pc lv (.int (iI x) :: st) ws :=
  fun H locs ls hP hD hO hS hl => lv_if_ne C.1 C.2.1 hd ht (fun h => kt (fun q => h ((iI_eq hx inR_zero).mpr q)) H locs ls hP hD hO hS hl) (fun h => kf ((iI_eq hx inR_zero).mp h) H locs ls hP hD hO hS hl)
theorem wa_icmp_lt (C : Cx p R m c cells slots cc nL s args own K A) {x y : Int} {off : Int} {tgt : Nat} (hx : inR x) (hy : inR y) (hd : decode cc pc = .ok (.if_icmp .lt off, 3)) (ht : (pc : Int) + off = (tgt : Int)) (kt : x < y → WA p l e R s m args below meth c cells slots Q K ad nL A tgt lv st ws) (kf : ¬ x < y → WA p l e R s m args below meth c cells slots Q K ad nL A (pc + 3) lv st ws) : WA p l e R s m args below meth c cells slots Q K ad nL A pc lv (.int (iI y) :: .int (iI x) :: st) ws :=
  fun H locs ls hP hD hO hS hl => lv_icmp_lt C.1 C.2.1 hd ht (fun h => kt ((iI_lt hx hy).mp h) H locs ls hP hD hO hS hl) (fun h => kf (fun q => h ((iI_lt hx hy).mpr q)) H locs ls hP hD hO hS hl)
theorem wa_if_lt (C : Cx p R m c cells slots cc nL s args own K A) {x : Int} {off : Int} {tgt : Nat} (hx : inR x) (hd : decode cc pc = .ok (.ifCond .lt off, 3)) (ht : (pc : Int) + off = (tgt : Int)) (kt : x < 0 → WA p l e R s m args below meth c cells slots Q K ad nL A tgt lv st ws) (kf : ¬ x < 0 → WA p l e R s m args below meth c cells slots Q K ad nL A (pc + 3) lv st ws) : WA p l e R s m args below meth c cells slots Q K ad nL A pc lv (.int (iI x) :: st) ws :=
  fun H locs ls hP hD hO hS hl => lv_if_lt C.1 C.2.1 hd ht (fun h => kt ((iI_lt hx inR_zero).mp h) H locs ls hP hD hO hS hl) (fun h => kf (fun q => h ((iI_lt hx inR_zero).mpr q)) H locs ls hP hD hO hS hl)
theorem wa_icmp_ge (C : Cx p R m c cells slots cc nL s args own K A) {x y : Int} {off : Int} {tgt : Nat} (hx : inR x) (hy : inR y) (hd : decode cc pc = .ok (.if_icmp .ge off, 3)) (ht : (pc : Int) + off = (tgt : Int)) (kt : y ≤ x → WA p l e R s m args below meth c cells slots Q K ad nL A tgt lv st ws) (kf : ¬ y ≤ x → WA p l e R s m args below meth c cells slots Q K ad nL A (pc + 3) lv st ws) : WA p l e R s m args below meth c cells slots Q K ad nL A pc lv (.int (iI y) :: .int (iI x) :: st) ws :=
  fun H locs ls hP hD hO hS hl => lv_icmp_ge C.1 C.2.1 hd ht (fun h => kt ((iI_le hy hx).mp h) H locs ls hP hD hO hS hl) (fun h => kf (fun q => h ((iI_le hy hx).mpr q)) H locs ls hP hD hO hS hl)
theorem wa_if_ge (C : Cx p R m c cells slots cc nL s args own K A) {x : Int} {off : Int} {tgt : Nat} (hx : inR x) (hd : decode cc pc = .ok (.ifCond .ge off, 3)) (ht : (pc : Int) + off = (tgt : Int)) (kt : 0 ≤ x → WA p l e R s m args below meth c cells slots Q K ad nL A tgt lv st ws) (kf : ¬ 0 ≤ x → WA p l e R s m args below meth c cells slots Q K ad nL A (pc + 3) lv st ws) : WA p l e R s m args below meth c cells slots Q K ad nL A pc lv (.int (iI x) :: st) ws :=
  fun H locs ls hP hD hO hS hl => lv_if_ge C.1 C.2.1 hd ht (fun h => kt ((iI_le inR_zero hx).mp h) H locs ls hP hD hO hS hl) (fun h => kf (fun q => h ((iI_le inR_zero hx).mpr q)) H locs ls hP hD hO hS hl)
theorem wa_icmp_gt (C : Cx p R m c cells slots cc nL s args own K A) {x y : Int} {off : Int} {tgt : Nat} (hx : inR x) (hy : inR y) (hd : decode cc pc = .ok (.if_icmp .gt off, 3)) (ht : (pc : Int) + off = (tgt : Int)) (kt : y < x → WA p l e R s m args below meth c cells slots Q K ad nL A tgt lv st ws) (kf : ¬ y < x → WA p l e R s m args below meth c cells slots Q K ad nL A (pc + 3) lv st ws) : WA p l e R s m args below meth c cells slots Q K ad nL A pc lv (.int (iI y) :: .int (iI x) :: st) ws :=
  fun H locs ls hP hD hO hS hl => lv_icmp_gt C.1 C.2.1 hd ht (fun h => kt ((iI_lt hy hx).mp h) H locs ls hP hD hO hS hl) (fun h => kf (fun q => h ((iI_lt hy hx).mpr q)) H locs ls hP hD hO hS hl)
theorem wa_if_gt (C : Cx p R m c cells slots cc nL s args own K A) {x : Int} {off : Int} {tgt : Nat} (hx : inR x) (hd : decode cc pc = .ok (.ifCond .gt off, 3)) (ht : (pc : Int) + off = (tgt : Int)) (kt : 0 < x → WA p l e R s m args below meth c cells slots Q K ad nL A tgt lv st ws) (kf : ¬ 0 < x → WA p l e R s m args below meth c cells slots Q K ad nL A (pc + 3) lv st ws) : WA p l e R s m args below meth c cells slots Q K ad nL A pc lv (.int (iI x) :: st) ws :=
  fun H locs ls hP hD hO hS hl => lv_if_gt C.1 C.2.1 hd ht (fun h => kt ((iI_lt inR_zero hx).mp h) H locs ls hP hD hO hS hl) (fun h => kf (fun q => h ((iI_lt inR_zero hx).mpr q)) H locs ls hP hD hO hS hl)
theorem wa_icmp_le (C : Cx p R m c cells slots cc nL s args own K A) {x y : Int} {off : Int} {tgt : Nat} (hx : inR x) (hy : inR y) (hd : decode cc pc = .ok (.if_icmp .le off, 3)) (ht : (pc : Int) + off = (tgt : Int)) (kt : x ≤ y → WA p l e R s m args below meth c cells slots Q K ad nL A tgt lv st ws) (kf : ¬ x ≤ y → WA p l e R s m args below meth c cells slots Q K ad nL A (pc + 3) lv st ws) : WA p l e R s m args below meth c cells slots Q K ad nL A pc lv (.int (iI y) :: .int (iI x) :: st) ws :=
  fun H locs ls hP hD hO hS hl => lv_icmp_le C.1 C.2.1 hd ht (fun h => kt ((iI_le hx hy).mp h) H locs ls hP hD hO hS hl) (fun h => kf (fun q => h ((iI_le hx hy).mpr q)) H locs ls hP hD hO hS hl)
theorem wa_if_le (C : Cx p R m c cells slots cc nL s args own K A) {x : Int} {off : Int} {tgt : Nat} (hx : inR x) (hd : decode cc pc = .ok (.ifCond .le off, 3)) (ht : (pc : Int) + off = (tgt : Int)) (kt : x ≤ 0 → WA p l e R s m args below meth c cells slots Q K ad nL A tgt lv st ws) (kf : ¬ x ≤ 0 → WA p l e R s m args below meth c cells slots Q K ad nL A (pc + 3) lv st ws) : WA p l e R s m args below meth c cells slots Q K ad nL A pc lv (.int (iI x) :: st) ws :=
  fun H locs ls hP hD hO hS hl => lv_if_le C.1 C.2.1 hd ht (fun h => kt ((iI_le hx inR_zero).mp h) H locs ls hP hD hO hS hl) (fun h => kf (fun q => h ((iI_le hx inR_zero).mpr q)) H locs ls hP hD hO hS hl)
theorem wa_nmi {z : Int} (kk : ∀ x, x = z → WA p l e R s m args below meth c cells slots Q K ad nL A pc lv (.int (iI x) :: st) ws) : WA p l e R s m args below meth c cells slots Q K ad nL A pc lv (.int (iI z) :: st) ws := kk z rfl
theorem wa_nml {z : Int64} (kk : ∀ x, x = z → WA p l e R s m args below meth c cells slots Q K ad nL A pc lv (.long x :: st) ws) : WA p l e R s m args below meth c cells slots Q K ad nL A pc lv (.long z :: st) ws := kk z rfl
theorem wa_sub (C : Cx p R m c cells slots cc nL s args own K A) {lv' : List (Nat × Value)} (ks : List Nat) (h : lv_pick lv ks = lv') (kk : WA p l e R s m args below meth c cells slots Q K ad nL A pc lv' st ws) : WA p l e R s m args below meth c cells slots Q K ad nL A pc lv st ws :=
  fun H locs ls hP hD hO hS hl => kk H locs ls hP hD hO hS (lv_sub hl ks h)
theorem wa_tabIn (C : Cx p R m c cells slots cc nL s args own K A) {dflt lo hi : Int} {offs : Array Int} {len : Nat} {x : Int} {off : Int} {tgt : Nat} (hx : inR x) (hd : decode cc pc = .ok (.tableswitch dflt lo hi offs, len)) (h1 : ¬ x < lo) (h2 : ¬ hi < x) (ho : offs[(x - lo).toNat]? = some off) (ht : (pc : Int) + off = (tgt : Int)) (kk : WA p l e R s m args below meth c cells slots Q K ad nL A tgt lv st ws) : WA p l e R s m args below meth c cells slots Q K ad nL A pc lv (.int (iI x) :: st) ws :=
  fun H locs ls hP hD hO hS hl => lv_tableIn C.1 C.2.1 hd (by rw [iI_toInt hx]; exact h1) (by rw [iI_toInt hx]; exact h2) (by rw [iI_toInt hx]; exact ho) ht (kk H locs ls hP hD hO hS hl)
theorem wa_tabOut (C : Cx p R m c cells slots cc nL s args own K A) {dflt lo hi : Int} {offs : Array Int} {len : Nat} {x : Int} {tgt : Nat} (hx : inR x) (hd : decode cc pc = .ok (.tableswitch dflt lo hi offs, len)) (h : x < lo ∨ hi < x) (ht : (pc : Int) + dflt = (tgt : Int)) (kk : WA p l e R s m args below meth c cells slots Q K ad nL A tgt lv st ws) : WA p l e R s m args below meth c cells slots Q K ad nL A pc lv (.int (iI x) :: st) ws :=
  fun H locs ls hP hD hO hS hl => lv_tableOut C.1 C.2.1 hd (by rw [iI_toInt hx]; exact h) ht (kk H locs ls hP hD hO hS hl)
theorem wa_iald (C : Cx p R m c cells slots cc nL s args own K A) {n : Nat} {a : Int → Int} {i : Int} (k : Nat) (hw : ws[k]? = some (.inr (0, n, .inl a))) (hd : decode cc pc = .ok (.iaload, 1)) (h0 : 0 ≤ i) (h1 : i < n) (kk : ∀ v, v = a i → (inR v) → WA p l e R s m args below meth c cells slots Q K ad nL A (pc + 1) lv (.int (iI v) :: st) ws) : WA p l e R s m args below meth c cells slots Q K ad nL A pc lv (.int (iI i) :: .ref (ad k) :: st) ws := by
  intro H locs ls hP hD hO hS hl
  have ho : n < 2147483648 ∧ ∀ j, inR (a j) := hO _ _ hw
  refine va_iald C.1 C.2.1 C.2.2.2.2.2.1 hP k 0 (wG_get hw) rfl (iI_in ho.1 h0 h1) hd ?_
  rw [iI_clamp ⟨by omega, by have := ho.1; omega⟩, Int.toNat_of_nonneg h0]
  exact kk (a i) rfl (ho.2 i) H locs ls hP hD hO hS hl
theorem wa_bald (C : Cx p R m c cells slots cc nL s args own K A) {n : Nat} {a : Int → Int} {i : Int} (k : Nat) (hw : ws[k]? = some (.inr (1, n, .inl a))) (hd : decode cc pc = .ok (.baload, 1)) (h0 : 0 ≤ i) (h1 : i < n) (kk : ∀ v, v = a i → (v = 0 ∨ v = 1) → WA p l e R s m args below meth c cells slots Q K ad nL A (pc + 1) lv (.int (iI v) :: st) ws) : WA p l e R s m args below meth c cells slots Q K ad nL A pc lv (.int (iI i) :: .ref (ad k) :: st) ws := by
  intro H locs ls hP hD hO hS hl
  have ho : n < 2147483648 ∧ ∀ j, a j = 0 ∨ a j = 1 := hO _ _ hw
  refine va_zald C.1 C.2.1 C.2.2.2.2.2.1 hP k 1 (wG_get hw) rfl (iI_in ho.1 h0 h1) hd ?_
  rw [iI_clamp ⟨by omega, by have := ho.1; omega⟩, Int.toNat_of_nonneg h0]
  exact kk (a i) rfl (ho.2 i) H locs ls hP hD hO hS hl
theorem wa_lald (C : Cx p R m c cells slots cc nL s args own K A) {t n : Nat} {a : Int → Int64} {i : Int} (k : Nat) (hw : ws[k]? = some (.inr (t, n, .inr a))) (hd : decode cc pc = .ok (.laload, 1)) (h0 : 0 ≤ i) (h1 : i < n) (kk : ∀ v, v = a i → WA p l e R s m args below meth c cells slots Q K ad nL A (pc + 1) lv (.long v :: st) ws) : WA p l e R s m args below meth c cells slots Q K ad nL A pc lv (.int (iI i) :: .ref (ad k) :: st) ws := by
  intro H locs ls hP hD hO hS hl
  have ho : n < 2147483648 := by
    have := hO _ _ hw
    cases t <;> exact this
  have hg : (wG K ad ws)[k]? = some (ad k, .inl (K.2.2.2, n, .inr (.inl (fun j => a (j : Int))))) := by
    have := wG_get (K := K) (ad := ad) hw
    cases t <;> exact this
  refine va_lald C.1 C.2.1 C.2.2.2.2.2.1 hP k 2 hg rfl (iI_in ho h0 h1) hd ?_
  rw [iI_clamp ⟨by omega, by omega⟩, Int.toNat_of_nonneg h0]
  exact kk (a i) rfl H locs ls hP hD hO hS hl
theorem up_i (a : Int → Int) (i v : Int) (hi : inR i) (h0 : 0 ≤ i) : upd (fun j : Nat => iI (a (j : Int))) (iI i).toNatClampNeg (iI v) = (fun j : Nat => iI (upZ a i v (j : Int))) := by
  funext j
  simp only [upd, upZ, iI_clamp hi]
  by_cases h : (j : Int) = i
  · rw [if_pos h, if_pos (by omega)]
  · rw [if_neg h, if_neg (by omega)]
theorem up_l (a : Int → Int64) (i : Int) (v : Int64) (hi : inR i) (h0 : 0 ≤ i) : vp_updL (fun j : Nat => a (j : Int)) (iI i).toNatClampNeg v = (fun j : Nat => upZ a i v (j : Int)) := by
  funext j
  simp only [vp_updL, upZ, iI_clamp hi]
  by_cases h : (j : Int) = i
  · rw [if_pos h, if_pos (by omega)]
  · rw [if_neg h, if_neg (by omega)]
theorem nar_b {v : Int} (h : v = 0 ∨ v = 1) : vp_nar .boolean (iI v) = iI v := by
  rcases h with rfl | rfl <;> rfl
theorem wa_iast (C : Cx p R m c cells slots cc nL s args own K A) {n : Nat} {a : Int → Int} {i v : Int} {ws' : (Int → Int) → List AC} (k : Nat) (hw : ws[k]? = some (.inr (0, n, .inl a))) (hd : decode cc pc = .ok (.iastore, 1)) (h0 : 0 ≤ i) (h1 : i < n) (hv : inR v) (hs : ∀ b, ws.set k (.inr (0, n, .inl b)) = ws' b) (kk : ∀ b, b = upZ a i v → WA p l e R s m args below meth c cells slots Q K ad nL A (pc + 1) lv st (ws' b)) : WA p l e R s m args below meth c cells slots Q K ad nL A pc lv (.int (iI v) :: .int (iI i) :: .ref (ad k) :: st) ws := by
  intro H locs ls hP hD hO hS hl
  have ho : n < 2147483648 ∧ ∀ j, inR (a j) := hO _ _ hw
  have hi : inR i := ⟨by omega, by have := ho.1; omega⟩
  refine va_iast C.1 C.2.1 C.2.2.2.2.2.1 hP hD hS k 0 (wG_get hw) rfl (iI_in ho.1 h0 h1) hd (fun H1 locs1 hP1 hD1 hS1 => ?_)
  rw [up_i a i v hi h0] at hP1 hD1
  have e := wG_set (K := K) (ad := ad) (ws := ws) (i := k) (x := .inr (0, n, .inl (upZ a i v)))
  have hs1 := hs (upZ a i v)
  rw [hs1] at e
  exact kk _ rfl H1 locs1 ls (by rw [← e]; exact hP1) (by rw [← e]; exact hD1) (by rw [← hs1]; exact hO.set ⟨ho.1, fun j => by unfold upZ; exact (if h : j = i then (by rw [if_pos h]; exact hv) else (by rw [if_neg h]; exact ho.2 j))⟩) hS1 hl
theorem wa_bast (C : Cx p R m c cells slots cc nL s args own K A) {n : Nat} {a : Int → Int} {i v : Int} {ws' : (Int → Int) → List AC} (k : Nat) (hw : ws[k]? = some (.inr (1, n, .inl a))) (hd : decode cc pc = .ok (.bastore, 1)) (h0 : 0 ≤ i) (h1 : i < n) (hv : v = 0 ∨ v = 1) (hs : ∀ b, ws.set k (.inr (1, n, .inl b)) = ws' b) (kk : ∀ b, b = upZ a i v → WA p l e R s m args below meth c cells slots Q K ad nL A (pc + 1) lv st (ws' b)) : WA p l e R s m args below meth c cells slots Q K ad nL A pc lv (.int (iI v) :: .int (iI i) :: .ref (ad k) :: st) ws := by
  intro H locs ls hP hD hO hS hl
  have ho : n < 2147483648 ∧ ∀ j, a j = 0 ∨ a j = 1 := hO _ _ hw
  have hi : inR i := ⟨by omega, by have := ho.1; omega⟩
  refine va_zast C.1 C.2.1 C.2.2.2.2.2.1 hP hD hS k 1 (wG_get hw) rfl (iI_in ho.1 h0 h1) hd (fun H1 locs1 hP1 hD1 hS1 => ?_)
  rw [nar_b hv, up_i a i v hi h0] at hP1 hD1
  have e := wG_set (K := K) (ad := ad) (ws := ws) (i := k) (x := .inr (1, n, .inl (upZ a i v)))
  have hs1 := hs (upZ a i v)
  rw [hs1] at e
  exact kk _ rfl H1 locs1 ls (by rw [← e]; exact hP1) (by rw [← e]; exact hD1) (by rw [← hs1]; exact hO.set ⟨ho.1, fun j => by unfold upZ; exact (if h : j = i then (by rw [if_pos h]; exact hv) else (by rw [if_neg h]; exact ho.2 j))⟩) hS1 hl
theorem wa_last (C : Cx p R m c cells slots cc nL s args own K A) {n : Nat} {a : Int → Int64} {i : Int} {v : Int64} {ws' : (Int → Int64) → List AC} (k : Nat) (hw : ws[k]? = some (.inr (2, n, .inr a))) (hd : decode cc pc = .ok (.lastore, 1)) (h0 : 0 ≤ i) (h1 : i < n) (hs : ∀ b, ws.set k (.inr (2, n, .inr b)) = ws' b) (kk : ∀ b, b = upZ a i v → WA p l e R s m args below meth c cells slots Q K ad nL A (pc + 1) lv st (ws' b)) : WA p l e R s m args below meth c cells slots Q K ad nL A pc lv (.long v :: .int (iI i) :: .ref (ad k) :: st) ws := by
  intro H locs ls hP hD hO hS hl
  have ho : n < 2147483648 := hO _ _ hw
  have hi : inR i := ⟨by omega, by omega⟩
  refine va_last C.1 C.2.1 C.2.2.2.2.2.1 hP hD hS k 2 (wG_get hw) rfl (iI_in ho h0 h1) hd (fun H1 locs1 hP1 hD1 hS1 => ?_)
  rw [up_l a i v hi h0] at hP1 hD1
  have e := wG_set (K := K) (ad := ad) (ws := ws) (i := k) (x := .inr (2, n, .inr (upZ a i v)))
  have hs1 := hs (upZ a i v)
  rw [hs1] at e
  exact kk _ rfl H1 locs1 ls (by rw [← e]; exact hP1) (by rw [← e]; exact hD1) (by rw [← hs1]; exact hO.set ho) hS1 hl
theorem wa_alen (C : Cx p R m c cells slots cc nL s args own K A) {t n : Nat} {z : Int} {x : (Int → Int) ⊕ (Int → Int64)} (k : Nat) (hw : ws[k]? = some (.inr (t, n, x))) (hz : Int32.ofNat n = iI z) (hd : decode cc pc = .ok (.arraylength, 1)) (kk : WA p l e R s m args below meth c cells slots Q K ad nL A (pc + 1) lv (.int (iI z) :: st) ws) : WA p l e R s m args below meth c cells slots Q K ad nL A pc lv (.ref (ad k) :: st) ws := by
  intro H locs ls hP hD hO hS hl
  have hg := wG_get (K := K) (ad := ad) hw
  rcases x with a | b
  · cases t with
    | zero => exact va_alen C.1 C.2.1 C.2.2.2.2.2.1 hP k 0 hg (ty := .int) rfl hz hd (kk H locs ls hP hD hO hS hl)
    | succ t => exact va_alen C.1 C.2.1 C.2.2.2.2.2.1 hP k 1 hg (ty := .boolean) rfl hz hd (kk H locs ls hP hD hO hS hl)
  · cases t with
    | zero => exact va_alen C.1 C.2.1 C.2.2.2.2.2.1 hP k 2 hg (ty := .long) rfl hz hd (kk H locs ls hP hD hO hS hl)
    | succ t => exact va_alen C.1 C.2.1 C.2.2.2.2.2.1 hP k 2 hg (ty := .long) rfl hz hd (kk H locs ls hP hD hO hS hl)
theorem wa_getI (C : Cx p R m c cells slots cc nL s args own K A) {n ci index : Nat} {Cn : String} {Ty : u_T} {fs : List FV} {z : Int} (k f : Nat) (hw : ws[k]? = some (.inl (ci, fs))) (hf : fs[f]? = some (.inl z)) (hc : vwCl[ci]? = some (Cn, Ty, n)) (hk : f < n) (hc2 : kOK Cn Ty n) (hln : Cond.fieldLink own index (Ty f).1 (Ty f).2.1 (Ty f).2.2.1 ∈ GT) (hd : decode cc pc = .ok (.getfield index, 3)) (kk : inR z → WA p l e R s m args below meth c cells slots Q K ad nL A (pc + 3) lv (.int (iI z) :: st) ws) : WA p l e R s m args below meth c cells slots Q K ad nL A pc lv (.ref (ad k) :: st) ws := by
  intro H locs ls hP hD hO hS hl
  have ho : okF (.inl z) := (show ∀ q ∈ fs, okF q from hO _ _ hw) _ (List.mem_of_getElem? hf)
  exact va_get C.1 C.2.1 C.2.2.2.2.1 hc2.1 C.2.2.2.1 C.2.2.2.2.2.1 hP k (wG_get hw) hc f hk (C.2.2.2.2.1 _ hln) (fun _ h9 => h9) (by rw [List.getElem?_map, hf]; rfl) hd (kk ho H locs ls hP hD hO hS hl)
theorem wa_getZ (C : Cx p R m c cells slots cc nL s args own K A) {n ci index : Nat} {Cn : String} {Ty : u_T} {fs : List FV} {z : Int} (k f : Nat) (hw : ws[k]? = some (.inl (ci, fs))) (hf : fs[f]? = some (.inr (.inl z))) (hc : vwCl[ci]? = some (Cn, Ty, n)) (hk : f < n) (hc2 : kOK Cn Ty n) (hln : Cond.fieldLink own index (Ty f).1 (Ty f).2.1 (Ty f).2.2.1 ∈ GT) (hd : decode cc pc = .ok (.getfield index, 3)) (kk : (z = 0 ∨ z = 1) → WA p l e R s m args below meth c cells slots Q K ad nL A (pc + 3) lv (.int (iI z) :: st) ws) : WA p l e R s m args below meth c cells slots Q K ad nL A pc lv (.ref (ad k) :: st) ws := by
  intro H locs ls hP hD hO hS hl
  have ho : okF (.inr (.inl z)) := (show ∀ q ∈ fs, okF q from hO _ _ hw) _ (List.mem_of_getElem? hf)
  exact va_get C.1 C.2.1 C.2.2.2.2.1 hc2.1 C.2.2.2.1 C.2.2.2.2.2.1 hP k (wG_get hw) hc f hk (C.2.2.2.2.1 _ hln) (fun _ h9 => h9) (by rw [List.getElem?_map, hf]; rfl) hd (kk ho H locs ls hP hD hO hS hl)
theorem wa_getR (C : Cx p R m c cells slots cc nL s args own K A) {n ci index : Nat} {Cn : String} {Ty : u_T} {fs : List FV} {z : Nat} (k f : Nat) (hw : ws[k]? = some (.inl (ci, fs))) (hf : fs[f]? = some (.inr (.inr z))) (hc : vwCl[ci]? = some (Cn, Ty, n)) (hk : f < n) (hc2 : kOK Cn Ty n) (hln : Cond.fieldLink own index (Ty f).1 (Ty f).2.1 (Ty f).2.2.1 ∈ GT) (hd : decode cc pc = .ok (.getfield index, 3)) (kk : WA p l e R s m args below meth c cells slots Q K ad nL A (pc + 3) lv (.ref (ad z) :: st) ws) : WA p l e R s m args below meth c cells slots Q K ad nL A pc lv (.ref (ad k) :: st) ws := by
  intro H locs ls hP hD hO hS hl
  exact va_get C.1 C.2.1 C.2.2.2.2.1 hc2.1 C.2.2.2.1 C.2.2.2.2.2.1 hP k (wG_get hw) hc f hk (C.2.2.2.2.1 _ hln) (fun _ h9 => h9) (by rw [List.getElem?_map, hf]; rfl) hd (kk H locs ls hP hD hO hS hl)
theorem wa_putI (C : Cx p R m c cells slots cc nL s args own K A) {n ci index : Nat} {Cn : String} {Ty : u_T} {fs : List FV} {v : Int} {ws' : List AC} (k f : Nat) (hw : ws[k]? = some (.inl (ci, fs))) (hc : vwCl[ci]? = some (Cn, Ty, n)) (hk : f < n) (hc2 : kOK Cn Ty n) (hln : Cond.fieldLink own index (Ty f).1 (Ty f).2.1 (Ty f).2.2.1 ∈ GT) (hfin : (Ty f).2.2.2 = false) (hty : parseFieldDescriptor (Ty f).2.2.1 = some .int) (hlen : f < fs.length) (hv : inR v) (hs : ws.set k (.inl (ci, fs.set f (.inl v))) = ws') (hd : decode cc pc = .ok (.putfield index, 3)) (kk : WA p l e R s m args below meth c cells slots Q K ad nL A (pc + 3) lv st ws') : WA p l e R s m args below meth c cells slots Q K ad nL A pc lv (.int (iI v) :: .ref (ad k) :: st) ws := by
  intro H locs ls hP hD hO hS hl
  obtain ⟨ty0, hty0⟩ := hc2.2.1
  have ho : ∀ q ∈ fs, okF q := hO _ _ hw
  have e := wG_set (K := K) (ad := ad) (ws := ws) (i := k) (x := .inl (ci, fs.set f (.inl v)))
  have e2 : cE K ad (.inl (ci, fs.set f (.inl v))) = .inr (ci, (fs.map (fvv ad)).set f (.int (iI v))) := by
    show Sum.inr (ci, (fs.set f (.inl v)).map (fvv ad)) = _
    rw [List.map_set]
    rfl
  subst hs
  refine va_put C.1 C.2.1 C.2.2.2.2.1 hc2.1 ty0 hty0 hc2.2.2 C.2.2.2.1 C.2.2.2.2.2.1 hP hD hS k (wG_get hw) hc f hk (C.2.2.2.2.1 _ hln) (fun _ h9 => h9) hfin hty rfl rfl (by rw [List.length_map]; exact hlen) hd (fun H1 locs1 hP1 hD1 hS1 => ?_)
  rw [← e2, e] at hP1 hD1
  refine kk H1 locs1 ls hP1 hD1 (hO.set (fun q hq => ?_)) hS1 hl
  rcases List.mem_or_eq_of_mem_set hq with h | h
  · exact ho q h
  · rw [h]; exact hv
theorem wa_putZ (C : Cx p R m c cells slots cc nL s args own K A) {n ci index : Nat} {Cn : String} {Ty : u_T} {fs : List FV} {v : Int} {ws' : List AC} (k f : Nat) (hw : ws[k]? = some (.inl (ci, fs))) (hc : vwCl[ci]? = some (Cn, Ty, n)) (hk : f < n) (hc2 : kOK Cn Ty n) (hln : Cond.fieldLink own index (Ty f).1 (Ty f).2.1 (Ty f).2.2.1 ∈ GT) (hfin : (Ty f).2.2.2 = false) (hty : parseFieldDescriptor (Ty f).2.2.1 = some .boolean) (hlen : f < fs.length) (hv : v = 0 ∨ v = 1) (hs : ws.set k (.inl (ci, fs.set f (.inr (.inl v)))) = ws') (hd : decode cc pc = .ok (.putfield index, 3)) (kk : WA p l e R s m args below meth c cells slots Q K ad nL A (pc + 3) lv st ws') : WA p l e R s m args below meth c cells slots Q K ad nL A pc lv (.int (iI v) :: .ref (ad k) :: st) ws := by
  intro H locs ls hP hD hO hS hl
  obtain ⟨ty0, hty0⟩ := hc2.2.1
  have ho : ∀ q ∈ fs, okF q := hO _ _ hw
  have e := wG_set (K := K) (ad := ad) (ws := ws) (i := k) (x := .inl (ci, fs.set f (.inr (.inl v))))
  have e2 : cE K ad (.inl (ci, fs.set f (.inr (.inl v)))) = .inr (ci, (fs.map (fvv ad)).set f (.int (iI v))) := by
    show Sum.inr (ci, (fs.set f (.inr (.inl v))).map (fvv ad)) = _
    rw [List.map_set]
    rfl
  subst hs
  refine va_put C.1 C.2.1 C.2.2.2.2.1 hc2.1 ty0 hty0 hc2.2.2 C.2.2.2.1 C.2.2.2.2.2.1 hP hD hS k (wG_get hw) hc f hk (C.2.2.2.2.1 _ hln) (fun _ h9 => h9) hfin hty (by rcases hv with rfl | rfl <;> rfl) (by rcases hv with rfl | rfl <;> rfl) (by rw [List.length_map]; exact hlen) hd (fun H1 locs1 hP1 hD1 hS1 => ?_)
  rw [← e2, e] at hP1 hD1
  refine kk H1 locs1 ls hP1 hD1 (hO.set (fun q hq => ?_)) hS1 hl
  rcases List.mem_or_eq_of_mem_set hq with h | h
  · exact ho q h
  · rw [h]; exact hv
theorem wa_chs (C : Cx p R m c cells slots cc nL s args own K A) {index : Nat} (hln : Cond.fieldLink own index RX9 "CHOICES" "[I" ∈ GT) (hd : decode cc pc = .ok (.getstatic index, 3)) (kk : ∀ tb, va_T .int tb 81 (fun j => .int (iI (chZ (j : Int)))) A s s.heap → WA p l e R s m args below meth c cells slots Q K ad nL A (pc + 3) lv (.ref tb :: st) ws) : WA p l e R s m args below meth c cells slots Q K ad nL A pc lv st ws := by
  intro H locs ls hP hD hO hS hl
  obtain ⟨tb, h1, h2⟩ := C.2.2.2.2.2.2.2.2.2
  exact va_gets C.1 C.2.1 h1 hS C.2.2.2.1 (C.2.2.2.2.1 _ hln) (fun _ h9 => h9) hd (kk tb h2 H locs ls hP hD hO hS hl)
theorem wa_chld (C : Cx p R m c cells slots cc nL s args own K A) {tb : Nat} {i : Int} (hT : va_T .int tb 81 (fun j => .int (iI (chZ (j : Int)))) A s s.heap) (hd : decode cc pc = .ok (.iaload, 1)) (h0 : 0 ≤ i) (h1 : i < 81) (kk : ∀ v, v = chZ i → inR v → WA p l e R s m args below meth c cells slots Q K ad nL A (pc + 1) lv (.int (iI v) :: st) ws) : WA p l e R s m args below meth c cells slots Q K ad nL A pc lv (.int (iI i) :: .ref tb :: st) ws := by
  intro H locs ls hP hD hO hS hl
  refine va_ti C.1 C.2.1 hT hS (iI_in (by decide) h0 h1) (v := .int (iI (chZ i))) ?_ hd (kk (chZ i) rfl ?_ H locs ls hP hD hO hS hl)
  · rw [iI_clamp ⟨by omega, by omega⟩, Int.toNat_of_nonneg h0]
  · obtain ⟨k, hk⟩ : ∃ k : Nat, i = k := ⟨i.toNat, (Int.toNat_of_nonneg h0).symm⟩
    subst hk
    have : ∀ k : Nat, k < 81 → -2147483648 ≤ chZ k ∧ chZ k < 2147483648 := by decide
    exact this k (by omega)
end Rows
