/-! longs as integers, and numbers of six limbs -/
def rng (z : Int) : Prop := -9223372036854775808 ≤ z ∧ z ≤ 9223372036854775807
theorem bmod64 {z : Int} (h : rng z) : z.bmod (2 ^ 64) = z := by
  obtain ⟨h1, h2⟩ := h
  rw [Int.bmod_def]
  have e : ((2 ^ 64 : Nat) : Int) = 18446744073709551616 := by decide
  rw [e]
  omega
theorem tI_add {x y : Int64} (h : rng (x.toInt + y.toInt)) : (x + y).toInt = x.toInt + y.toInt := by rw [Int64.toInt_add]; exact bmod64 h
theorem tI_sub {x y : Int64} (h : rng (x.toInt - y.toInt)) : (x - y).toInt = x.toInt - y.toInt := by rw [Int64.toInt_sub]; exact bmod64 h
theorem tI_mul {x y : Int64} (h : rng (x.toInt * y.toInt)) : (x * y).toInt = x.toInt * y.toInt := by rw [Int64.toInt_mul]; exact bmod64 h
theorem tI_of {z : Int} (h : rng z) : (Int64.ofInt z).toInt = z := Int64.toInt_ofInt_of_le (by have := h.1; omega) (by have := h.2; omega)
theorem tI_rng (x : Int64) : rng x.toInt := ⟨by have := Int64.le_toInt x; omega, by have := Int64.toInt_lt x; omega⟩
theorem tI_bv {x : Int64} {n : Nat} (h : x.toBitVec.toNat = n) (hn : n < 9223372036854775808) : x.toInt = n := by
  show x.toBitVec.toInt = n
  rw [BitVec.toInt_eq_toNat_of_lt (by rw [h]; omega), h]
theorem tI_nat {x : Int64} (h : 0 ≤ x.toInt) : (x.toBitVec.toNat : Int) = x.toInt := by
  have e : x.toInt = x.toBitVec.toInt := rfl
  rw [e] at h ⊢
  rw [BitVec.toInt_eq_toNat_cond] at h ⊢
  have := x.toBitVec.isLt
  split
  · rfl
  · split at h <;> omega
theorem tI_mod (x : Int64) : x.toInt % 2147483648 = (x.toBitVec.toNat : Int) % 2147483648 := by
  have e : x.toInt = x.toBitVec.toInt := rfl
  rw [e, BitVec.toInt_eq_toNat_cond]
  split
  · rfl
  · have : ((2 ^ 64 : Nat) : Int) = 18446744073709551616 := by decide
    omega
theorem tI_and31 (x : Int64) : (x &&& 2147483647).toInt = x.toInt % 2147483648 := by
  have e : (x &&& 2147483647).toBitVec.toNat = x.toBitVec.toNat % 2147483648 := by
    rw [Int64.toBitVec_and, BitVec.toNat_and]
    have : (2147483647 : Int64).toBitVec.toNat = 2 ^ 31 - 1 := by decide
    rw [this, Nat.and_two_pow_sub_one_eq_mod]
  rw [tI_bv e (by omega), tI_mod]
  omega
theorem tI_ushr31 {x : Int64} (h : 0 ≤ x.toInt) : (ushrL x 31).toInt = x.toInt / 2147483648 := by
  have e : (ushrL x 31).toBitVec.toNat = x.toBitVec.toNat / 2147483648 := by
    rw [ushrL_bv (by omega), BitVec.toNat_ushiftRight]
    show x.toBitVec.toNat >>> 31 = _
    rw [Nat.shiftRight_eq_div_pow]
  have n := tI_nat h
  have lt := x.toBitVec.isLt
  rw [tI_bv e (by omega), ← n]
  omega
theorem tI_shr31 (x : Int64) : (shrL x 31).toInt = x.toInt / 2147483648 := by
  show (shrL x 31).toBitVec.toInt = _
  rw [shrL_bv (by omega), BitVec.toInt_sshiftRight]
  show x.toBitVec.toInt >>> 31 = _
  rw [Int.shiftRight_eq_div_pow]
  rfl
theorem tI_shl_or {x y : Int64} (hx : 0 ≤ x.toInt ∧ x.toInt < 2147483648) (hy : 0 ≤ y.toInt ∧ y.toInt < 2147483648) : (shlL x 31 ||| y).toInt = x.toInt * 2147483648 + y.toInt := by
  have nx := tI_nat hx.1
  have ny := tI_nat hy.1
  have e : (shlL x 31 ||| y).toBitVec.toNat = x.toBitVec.toNat * 2147483648 + y.toBitVec.toNat := by
    rw [Int64.toBitVec_or, BitVec.toNat_or, shlL_bv (by omega), BitVec.toNat_shiftLeft]
    show (x.toBitVec.toNat <<< 31) % 2 ^ 64 ||| y.toBitVec.toNat = _
    have h1 : x.toBitVec.toNat <<< 31 = x.toBitVec.toNat * 2147483648 := by rw [Nat.shiftLeft_eq]
    rw [Nat.mod_eq_of_lt (by rw [h1]; omega), ← Nat.shiftLeft_add_eq_or_of_lt (by omega), h1]
  rw [tI_bv e (by omega)]
  omega
theorem tI_div {x y : Int64} (hx : 0 ≤ x.toInt) (hy : 0 < y.toInt) : (x / y).toInt = x.toInt / y.toInt := by
  have r := tI_rng x
  rw [Int64.toInt_div, Int.tdiv_eq_ediv_of_nonneg hx]
  refine bmod64 ⟨?_, ?_⟩
  · have := Int.ediv_nonneg hx (Int.le_of_lt hy); omega
  · have := Int.ediv_le_self y.toInt hx; have := r.2; omega
theorem tI_rem {x y : Int64} (hx : 0 ≤ x.toInt) (hy : 0 < y.toInt) : (x - x / y * y).toInt = x.toInt % y.toInt := by
  have r := tI_rng x
  have d := tI_div hx hy
  have m0 := Int.emod_nonneg x.toInt (show y.toInt ≠ 0 by omega)
  have ml := Int.emod_lt_of_pos x.toInt hy
  have e := Int.mul_ediv_add_emod x.toInt y.toInt
  have d0 := Int.ediv_nonneg hx (Int.le_of_lt hy)
  have p0 : 0 ≤ y.toInt * (x.toInt / y.toInt) := Int.mul_nonneg (by omega) d0
  have m : (x / y * y).toInt = x.toInt / y.toInt * y.toInt := by
    rw [tI_mul ?_, d]
    rw [d, Int.mul_comm]
    exact ⟨by omega, by have := r.2; omega⟩
  rw [tI_sub ?_, m, Int.mul_comm]
  · omega
  · rw [m, Int.mul_comm]
    exact ⟨by have := r.1; omega, by have := r.2; omega⟩
theorem tI_inj {x y : Int64} (h : x.toInt = y.toInt) : x = y := Int64.toInt.inj h
theorem lc0_pos {x : Int64} : ¬ lcI x 0 ≤ 0 ↔ 0 < x.toInt := by
  unfold lcI
  have e : (0 : Int64) < x ↔ 0 < x.toInt := by rw [Int64.lt_iff_toInt_lt]; exact Iff.rfl
  by_cases h : (0 : Int64) < x
  · rw [if_pos h]; exact ⟨fun _ => e.1 h, fun _ => by decide⟩
  · rw [if_neg h]
    refine ⟨fun q => absurd ?_ q, fun q => absurd (e.2 q) h⟩
    split <;> decide
theorem lc0_nn {x : Int64} : 0 ≤ lcI x 0 ↔ 0 ≤ x.toInt := by
  unfold lcI
  have e : (0 : Int64) < x ↔ 0 < x.toInt := by rw [Int64.lt_iff_toInt_lt]; exact Iff.rfl
  have e2 : x = 0 ↔ x.toInt = 0 := ⟨fun h => by rw [h]; rfl, fun h => tI_inj (h.trans rfl)⟩
  by_cases h : (0 : Int64) < x
  · rw [if_pos h]; have := e.1 h; exact ⟨fun _ => by omega, fun _ => by decide⟩
  · rw [if_neg h]
    by_cases k : x = 0
    · rw [if_pos k]; exact ⟨fun _ => by have := e2.1 k; omega, fun _ => by decide⟩
    · rw [if_neg k]
      refine ⟨fun q => absurd q (by decide), fun q => ?_⟩
      have : ¬ 0 < x.toInt := fun r => h (e.2 r)
      have : ¬ x.toInt = 0 := fun r => k (e2.2 r)
      omega
theorem lc0_zero {x : Int64} : lcI x 0 = 0 ↔ x.toInt = 0 := by
  rw [lc_zero]
  exact ⟨fun h => by rw [h]; rfl, fun h => tI_inj (h.trans rfl)⟩
/-! values -/
def PB : Nat → Int
  | 0 => 1
  | n + 1 => PB n * 2147483648
theorem PB_pos (n : Nat) : 0 < PB n := by
  induction n with
  | zero => exact Int.one_pos
  | succ n ih => exact Int.mul_pos ih (by decide)
def VS (g : Int → Int64) (b : Int) : Nat → Int
  | 0 => 0
  | n + 1 => VS g b n + (g (b + n)).toInt * PB n
def VL (g : Int → Int64) (b : Int) (n : Nat) : Prop := ∀ i : Int, 0 ≤ i → i < n → 0 ≤ (g (b + i)).toInt ∧ (g (b + i)).toInt < 2147483648
theorem VS.congr {g g' : Int → Int64} {b b' : Int} : ∀ {n : Nat}, (∀ i : Int, 0 ≤ i → i < n → g (b + i) = g' (b' + i)) → VS g b n = VS g' b' n := by
  intro n
  induction n with
  | zero => intro _; rfl
  | succ n ih =>
    intro h
    show VS g b n + (g (b + n)).toInt * PB n = VS g' b' n + (g' (b' + n)).toInt * PB n
    rw [ih (fun i i0 i1 => h i i0 (by omega)), h n (by omega) (by omega)]
theorem VL.congr {g g' : Int → Int64} {b b' : Int} {n : Nat} (h : ∀ i : Int, 0 ≤ i → i < n → g (b + i) = g' (b' + i)) (v : VL g b n) : VL g' b' n := fun i i0 i1 => by rw [← h i i0 i1]; exact v i i0 i1
theorem VS.up {g : Int → Int64} {b j : Int} {v : Int64} {n : Nat} (h : j < b ∨ b + n ≤ j) : VS (upZ g j v) b n = VS g b n := VS.congr (fun i i0 i1 => upZ_n g v (by omega))
theorem VS.b {g : Int → Int64} {b : Int} : ∀ {n : Nat}, VL g b n → 0 ≤ VS g b n ∧ VS g b n < PB n := by
  intro n
  induction n with
  | zero => intro _; exact ⟨Int.le_refl _, Int.one_pos⟩
  | succ n ih =>
    intro h
    have i := ih (fun i i0 i1 => h i i0 (by omega))
    have l := h n (by omega) (by omega)
    have p := PB_pos n
    have m0 : 0 ≤ (g (b + n)).toInt * PB n := Int.mul_nonneg l.1 (Int.le_of_lt p)
    have m1 : (g (b + n)).toInt * PB n ≤ 2147483647 * PB n := Int.mul_le_mul_of_nonneg_right (by omega) (Int.le_of_lt p)
    show 0 ≤ VS g b n + (g (b + n)).toInt * PB n ∧ VS g b n + (g (b + n)).toInt * PB n < PB n * 2147483648
    omega
/-- a carry handed on -/
theorem carry {c r q P : Int} (hr : r = c % 2147483648) (hq : q = c / 2147483648) : r * P + q * (P * 2147483648) = c * P := by
  have e : c = r + q * 2147483648 := by omega
  rw [e, Int.add_mul, Int.mul_comm P, ← Int.mul_assoc]
/-- no limbs but the lowest n: the carry that is left is nothing -/
theorem carry_end {v s k : Int} {n : Nat} (h : s + k * PB n = v) (hs : 0 ≤ s) (hk : 0 ≤ k) (hv : v < PB n) : k = 0 := by
  have p := PB_pos n
  apply Classical.byContradiction
  intro ne
  have : 1 * PB n ≤ k * PB n := Int.mul_le_mul_of_nonneg_right (by omega) (Int.le_of_lt p)
  omega
/-- equal values, equal limbs -/
theorem VS.inj {g g' : Int → Int64} {b b' : Int} : ∀ {n : Nat}, VL g b n → VL g' b' n → VS g b n = VS g' b' n → ∀ i : Int, 0 ≤ i → i < n → g (b + i) = g' (b' + i) := by
  intro n
  induction n with
  | zero => intro _ _ _ i i0 i1; omega
  | succ n ih =>
    intro v v' e i i0 i1
    have e' : VS g b n + (g (b + n)).toInt * PB n = VS g' b' n + (g' (b' + n)).toInt * PB n := e
    have w := fun i (i0 : (0 : Int) ≤ i) (i1 : i < n) => v i i0 (by omega)
    have w' := fun i (i0 : (0 : Int) ≤ i) (i1 : i < n) => v' i i0 (by omega)
    have s := VS.b (n := n) w
    have s' := VS.b (n := n) w'
    have p := PB_pos n
    have top : (g (b + n)).toInt = (g' (b' + n)).toInt := by
      have d1 : (VS g b n + (g (b + n)).toInt * PB n) / PB n = (g (b + n)).toInt := by
        rw [Int.add_mul_ediv_right _ _ (by omega), Int.ediv_eq_zero_of_lt s.1 s.2]; omega
      have d2 : (VS g' b' n + (g' (b' + n)).toInt * PB n) / PB n = (g' (b' + n)).toInt := by
        rw [Int.add_mul_ediv_right _ _ (by omega), Int.ediv_eq_zero_of_lt s'.1 s'.2]; omega
      rw [← d1, ← d2, e']
    by_cases k : i = n
    · rw [k]; exact tI_inj top
    · rw [top] at e'
      exact ih w w' (by omega) i i0 (by omega)
