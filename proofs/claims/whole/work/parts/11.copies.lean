/-! copying of long arrays -/
def cpZ {α : Type} (f g : Int → α) (sp dp n : Int) : Int → α := fun j => if dp ≤ j ∧ j < dp + n then f (sp + (j - dp)) else g j
theorem gn_ac : Cond.native arraycopyName ∈ GT := gt_4 105 (by decide +kernel) rfl
theorem gt_ac : Cond.static arraycopyName ∈ GT := gt_4 104 (by decide +kernel) rfl
theorem gi_ac : Cond.initialized "java/lang/System" ∈ GT := gt_1 19 (by decide +kernel) rfl
theorem cp_l (f g : Int → Int64) {sp dp n : Int} (h1 : 0 ≤ sp) (h2 : 0 ≤ dp) (h3 : 0 ≤ n) : va_cpy (fun j : Nat => f (j : Int)) (fun j : Nat => g (j : Int)) sp.toNat dp.toNat n.toNat = (fun j : Nat => cpZ f g sp dp n (j : Int)) := by
  funext j
  simp only [va_cpy, cpZ]
  by_cases h : dp ≤ (j : Int) ∧ (j : Int) < dp + n
  · rw [if_pos h, if_pos (by omega)]
    congr 1
    omega
  · rw [if_neg h, if_neg (by omega)]
section Copies
variable {p : Program} {l : Launch} {e : Env} {R : Room} {s : State} {m : MethodId} {args : Array Value} {below : List Frame} {meth : Method} {c : Code} {cells slots : Nat} {Q : State → Prop} {K : wK} {ad : Nat → Nat} {nL : Nat} {A : Nat → Prop} {cc : ByteArray} {own : String} {pc : Nat} {lv : List (Nat × Value)} {st : List Value} {ws : List AC}
theorem wa_copyl (C : Cx p R m c cells slots cc nL s args own K A) {index n0 n1 : Nat} {f g : Int → Int64} {sp dp n : Int} {ws' : (Int → Int64) → List AC} (k1 k2 : Nat) (hw1 : ws[k1]? = some (.inr (2, n0, .inr f))) (hw2 : ws[k2]? = some (.inr (2, n1, .inr g))) (hk : k1 ≠ k2) (hln : Cond.methodLink own index arraycopyName ∈ GT) (rs : inR sp) (rd : inR dp) (rn : inR n) (hh : 0 ≤ sp ∧ 0 ≤ dp ∧ 0 ≤ n ∧ sp + n ≤ n0 ∧ dp + n ≤ n1) (hf : 1 ≤ R.frames) (hlo : (st.map fun v => v.category).sum + (nativeFrameWords "java/lang/System" "arraycopy" 5 + 11) ≤ R.locals) (hd : decode cc pc = .ok (.invokestatic index, 3)) (hs : ∀ b, ws.set k2 (.inr (2, n1, .inr b)) = ws' b) (kk : ∀ b, b = cpZ f g sp dp n → WA p l e R s m args below meth c cells slots Q K ad nL A (pc + 3) lv st (ws' b)) : WA p l e R s m args below meth c cells slots Q K ad nL A pc lv (.int (iI n) :: .int (iI dp) :: .ref (ad k2) :: .int (iI sp) :: .ref (ad k1) :: st) ws := by
  intro H locs ls hP hD hO hS hl
  obtain ⟨h1, h2, h3, h4, h5⟩ := hh
  have ho : n1 < 2147483648 := hO _ _ hw2
  have e1 := iI_clamp rs
  have e2 := iI_clamp rd
  have e3 := iI_clamp rn
  have neg : ∀ {z : Int}, inR z → 0 ≤ z → ¬ iI z < 0 := fun {z} hz h q => absurd ((iI_lt hz inR_zero).mp q) (by omega)
  refine va_copyl C.1 C.2.1 (by rw [C.2.2.1]; exact hl.1.symm) C.2.2.2.1 (C.2.2.2.2.1 _ hln) (C.2.2.2.2.1 _ gn_ac) (C.2.2.2.2.1 _ gt_ac) (C.2.2.2.2.1 _ gi_ac) C.2.2.2.2.2.1 hP hD hS k1 k2 2 2 (ty := .long) (wG_get hw1) (wG_get hw2) rfl rfl rfl (neg rs h1) (neg rd h2) (neg rn h3) (by rw [e1, e3]; omega) (by rw [e2, e3]; omega) (fun _ _ => rfl) hf hlo hd (fun H1 locs1 hP1 hD1 hS1 => ?_)
  rw [e1, e2, e3, cp_l f g h1 h2 h3] at hP1 hD1
  have e := wG_set (K := K) (ad := ad) (ws := ws) (i := k2) (x := .inr (2, n1, .inr (cpZ f g sp dp n)))
  have hs1 := hs (cpZ f g sp dp n)
  rw [hs1] at e
  exact kk _ rfl H1 locs1 ls (by rw [← e]; exact hP1) (by rw [← e]; exact hD1) (by rw [← hs1]; exact hO.set ho) hS1 hl
end Copies
