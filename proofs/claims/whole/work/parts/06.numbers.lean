/-! integers for the machine's ints -/
abbrev inR (z : Int) : Prop := -2147483648 ≤ z ∧ z < 2147483648
def iI (z : Int) : Int32 := Int32.ofInt z
theorem iI_toInt {z : Int} (h : inR z) : (iI z).toInt = z := Int32.toInt_ofInt_of_le (by have := h.1; omega) (by have := h.2; omega)
theorem inR_toInt (x : Int32) : inR x.toInt := ⟨by have := Int32.le_toInt x; omega, by have := Int32.toInt_lt x; omega⟩
theorem iI_back (x : Int32) : iI x.toInt = x := Int32.ofInt_toInt x
theorem iI_of (x : Int32) : ∃ z, inR z ∧ x = iI z := ⟨x.toInt, inR_toInt x, (iI_back x).symm⟩
theorem iI_add (a b : Int) : iI a + iI b = iI (a + b) := (Int32.ofInt_add a b).symm
theorem iI_sub (a b : Int) : iI a - iI b = iI (a - b) := (Int32.ofInt_sub a b).symm
theorem iI_mul (a b : Int) : iI a * iI b = iI (a * b) := (Int32.ofInt_mul a b).symm
theorem iI_neg (a : Int) : -iI a = iI (-a) := (Int32.ofInt_neg a).symm
theorem iI_le {a b : Int} (ha : inR a) (hb : inR b) : iI a ≤ iI b ↔ a ≤ b := by
  rw [Int32.le_iff_toInt_le, iI_toInt ha, iI_toInt hb]
theorem iI_lt {a b : Int} (ha : inR a) (hb : inR b) : iI a < iI b ↔ a < b := by
  rw [Int32.lt_iff_toInt_lt, iI_toInt ha, iI_toInt hb]
theorem iI_eq {a b : Int} (ha : inR a) (hb : inR b) : iI a = iI b ↔ a = b := by
  rw [← Int32.toInt_inj, iI_toInt ha, iI_toInt hb]
theorem iI_zero : iI 0 = 0 := rfl
theorem inR_zero : inR 0 := ⟨by decide, by decide⟩
theorem inR_k (z : Int) (h : (decide (-2147483648 ≤ z) && decide (z < 2147483648)) = true) : inR z := by
  rw [Bool.and_eq_true, decide_eq_true_eq, decide_eq_true_eq] at h
  exact h
theorem iI_div {a b : Int} (ha : inR a) (hb : inR b) : iI a / iI b = iI (a.tdiv b) := by
  have e1 : Int32.minValue.toInt = -2147483648 := by decide
  have e2 : Int32.maxValue.toInt = 2147483647 := by decide
  exact (Int32.ofInt_tdiv (by rw [e1]; exact ha.1) (by rw [e2]; have := ha.2; omega) (by rw [e1]; exact hb.1) (by rw [e2]; have := hb.2; omega)).symm
theorem iI_rem {a b : Int} (ha : inR a) (hb : inR b) : iI a - iI a / iI b * iI b = iI (a.tmod b) := by
  rw [iI_div ha hb, iI_mul, iI_sub]
  congr 1
  have := Int.tmod_add_tdiv_mul a b
  omega
theorem iI_in {i : Int} {n : Nat} (hn : n < 2147483648) (h0 : 0 ≤ i) (h1 : i < n) : vp_in (iI i) n := by
  have hr : inR i := ⟨by omega, by omega⟩
  rw [vp_in_iff, iI_toInt hr]
  exact ⟨h0, h1⟩
theorem iI_clamp {i : Int} (h : inR i) : (iI i).toNatClampNeg = i.toNat := by
  rw [Int32.toNatClampNeg, iI_toInt h]
/-- long from int -/
theorem iI_i2l {z : Int} (h : inR z) : (iI z).toInt64 = Int64.ofInt z := by
  apply Int64.toInt.inj
  rw [Int32.toInt_toInt64, iI_toInt h, Int64.toInt_ofInt_of_le (by have := h.1; omega) (by have := h.2; omega)]
/-- bits of ints -/
def andI (a b : Int) : Int := (iI a &&& iI b).toInt
def orI (a b : Int) : Int := (iI a ||| iI b).toInt
def shlI (a b : Int) : Int := (iI a <<< (iI b &&& 31)).toInt
def shrI (a b : Int) : Int := (iI a >>> (iI b &&& 31)).toInt
def l2I (x : Int64) : Int := x.toInt32.toInt
def lcI (x y : Int64) : Int := if y < x then 1 else if x = y then 0 else -1
def shlL (x : Int64) (z : Int) : Int64 := x <<< ((iI z).toInt64 &&& 63)
def shrL (x : Int64) (z : Int) : Int64 := x >>> ((iI z).toInt64 &&& 63)
def ushrL (x : Int64) (z : Int) : Int64 := (x.toUInt64 >>> ((iI z).toInt64.toUInt64 &&& Int64.toUInt64 63)).toInt64
theorem andI_r (a b : Int) : inR (andI a b) := inR_toInt _
theorem orI_r (a b : Int) : inR (orI a b) := inR_toInt _
theorem shlI_r (a b : Int) : inR (shlI a b) := inR_toInt _
theorem shrI_r (a b : Int) : inR (shrI a b) := inR_toInt _
theorem l2I_r (x : Int64) : inR (l2I x) := inR_toInt _
theorem lcI_r (x y : Int64) : inR (lcI x y) := by
  unfold lcI
  split
  · exact ⟨by decide, by decide⟩
  · split
    · exact ⟨by decide, by decide⟩
    · exact ⟨by decide, by decide⟩
theorem lcI_eq (x y : Int64) : lg_cmp x y = iI (lcI x y) := by
  unfold lg_cmp lcI
  split
  · rfl
  · split
    · rfl
    · rfl
/-- an array with one place changed -/
def upZ {α : Type} (f : Int → α) (i : Int) (v : α) : Int → α := fun j => if j = i then v else f j
theorem upZ_s {α : Type} (f : Int → α) (i : Int) (v : α) : upZ f i v i = v := if_pos rfl
theorem upZ_n {α : Type} (f : Int → α) {i j : Int} (v : α) (h : j ≠ i) : upZ f i v j = f j := if_neg h
