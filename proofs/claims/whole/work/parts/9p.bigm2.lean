theorem VS.low_le {g : Int → Int64} {b : Int} {m n : Nat} (v : VL g b (m + n)) : VS g b m ≤ VS g b (m + n) := by
  rw [VS.split]
  have h := (VS.b (g := g) (b := b + m) (n := n) (fun i i0 i1 => by have := v (m + i) (by omega) (by omega); rw [show b + (m : Int) + i = b + (m + i) by omega]; exact this)).1
  have := Int.mul_nonneg h (Int.le_of_lt (PB_pos m))
  omega
theorem s_addProductM {post : (Int → Int64) → Prop} {g : Int → Int64} {t a b v A B : Int} (ht : 0 ≤ t ∧ t < 450) (ha : 0 ≤ a ∧ a < 450) (hb : 0 ≤ b ∧ b < 450) (n1 : ¬ a = t) (n2 : ¬ b = t) (hv : NW6 (rw6 g t) v) (hA : NW6 (rw6 g a) A) (hB : NW6 (rw6 g b) B) (hm : v + A * B < PB 6) (hp : ∀ g', FrR g g' t → NW6 (rw6 g' t) (v + A * B) → post g') : P_X12_addProduct post g t a b := by
  have bA := hA.b
  have bB := hB.b
  have bv := hv.b
  unfold P_X12_addProduct
  refine ⟨fun n x g' => n = (6 - x).toNat ∧ 0 ≤ x ∧ x ≤ 6 ∧ FrR g g' t ∧ NW6 (rw6 g' t) (v + VS (rw6 g a) 0 x.toNat * B), ⟨_, rfl, by omega, by omega, FrR.refl, by show NW6 (rw6 g t) (v + 0 * B); rw [Int.zero_mul, Int.add_zero]; exact hv⟩, ?_⟩
  rintro n x g1 rx ⟨rfl, b1, b2, b3, b4⟩
  refine ⟨fun q => hp g1 b3 ?_, fun q => ?_⟩
  · have ex : x = 6 := by omega
    subst ex
    have h1 : VS (rw6 g a) 0 (6 : Int).toNat = A := hA.2
    rw [h1] at b4
    exact b4
  have o1 := VS.old (f := rw6 g a) b1
  have le1 : VS (rw6 g a) 0 (x + 1).toNat ≤ A := by
    rw [← hA.2]
    have := VS.low_le (g := rw6 g a) (b := 0) (m := (x + 1).toNat) (n := 6 - (x + 1).toNat) (by rw [show (x + 1).toNat + (6 - (x + 1).toNat) = 6 by omega]; exact hA.1)
    rw [show (x + 1).toNat + (6 - (x + 1).toNat) = 6 by omega] at this
    exact this
  have la : 0 ≤ (rw6 g a x).toInt ∧ (rw6 g a x).toInt < 2147483648 := hA.limb b1 (by omega)
  have lw0 := (VS.b (g := rw6 g a) (b := 0) (n := x.toNat) (fun i i0 i1 => hA.1 i i0 (by omega))).1
  have px := PB_pos x.toNat
  generalize eα : (rw6 g a x).toInt = α at *
  generalize VS (rw6 g a) 0 x.toNat = L at *
  have tot : v + (L + α * PB x.toNat) * B < PB 6 := by
    have : (L + α * PB x.toNat) * B ≤ A * B := Int.mul_le_mul_of_nonneg_right (by omega) bB.1
    omega
  have L0 : 0 ≤ L * B := Int.mul_nonneg lw0 bB.1
  have α0 : 0 ≤ α * PB x.toNat := Int.mul_nonneg la.1 (Int.le_of_lt px)
  rw [Int.add_mul] at tot
  refine ⟨fun n j g2 => n = (6 - j).toNat ∧ 0 ≤ j ∧ (j = 0 ∨ (0 < α ∧ x + j ≤ 6)) ∧ FrR g g2 t ∧ NW6 (rw6 g2 t) (v + L * B + α * PB x.toNat * VS (rw6 g b) 0 j.toNat), ⟨_, rfl, by omega, Or.inl rfl, b3, by show NW6 (rw6 g1 t) (v + L * B + α * PB x.toNat * 0); rw [Int.mul_zero, Int.add_zero]; exact b4⟩, ?_⟩
  rintro n j g2 rj ⟨rfl, c1, c2, c3, c4⟩
  have cj : x + j ≤ 6 := by omega
  have fin : (α = 0 ∨ (0 < α ∧ x + j = 6)) → (inR (x + 1) ∧ ∀ x4 : Int, x4 = x + 1 → ∃ n_21 : Nat, n_21 < (6 - x).toNat ∧ (n_21 = (6 - x4).toNat ∧ 0 ≤ x4 ∧ x4 ≤ 6 ∧ FrR g g2 t ∧ NW6 (rw6 g2 t) (v + VS (rw6 g a) 0 x4.toNat * B))) := by
    intro h
    refine ⟨by omega, fun x4 e4 => ⟨_, ?_, rfl, by omega, by omega, c3, ?_⟩⟩
    · omega
    · subst e4
      rw [o1, Int.add_mul]
      rcases h with h | ⟨h1, h2⟩
      · rw [h, Int.zero_mul, Int.zero_mul] at c4
        rw [h, Int.zero_mul, Int.zero_mul, ← Int.add_assoc]
        exact c4
      · have ej : j.toNat + x.toNat = 6 := by omega
        have hsm : B < PB j.toNat := by
          apply Classical.byContradiction
          intro k
          have l1 : PB j.toNat ≤ B := by omega
          have l2 : 1 * PB x.toNat ≤ α * PB x.toNat := Int.mul_le_mul_of_nonneg_right (by omega) (Int.le_of_lt px)
          have l3 : PB x.toNat * PB j.toNat ≤ α * PB x.toNat * B := Int.mul_le_mul (by omega) l1 (Int.le_of_lt (PB_pos _)) (by omega)
          rw [← PB_add, show x.toNat + j.toNat = 6 by omega] at l3
          omega
        have hi := VS.high (g := rw6 g b) (b := 0) (m := j.toNat) (n := x.toNat) (by rw [ej]; exact hB.1) (by rw [ej, hB.2]; exact hsm)
        rw [ej, hB.2] at hi
        rw [← hi] at c4
        rw [← Int.add_assoc]
        exact c4
  refine ⟨by omega, _, ⟨fun y => fin ?_, fun y => ⟨by omega, fun v1 e1 => ⟨fun y2 => fin ?_, fun y2 => ⟨by omega, fun v2 e2 => ⟨by omega, fun v3 e3 => ⟨by omega, fun v4 e4 => ⟨by omega, fun g3 eg3 => ?_⟩⟩⟩⟩⟩⟩⟩, fun jj => jj⟩
  · by_cases z : α = 0
    · exact Or.inl z
    · exact Or.inr ⟨by omega, by omega⟩
  · have : ¬ 0 < v1.toInt := fun r => lc0_pos.2 r y2
    rw [e1, c3 _ (by omega)] at this
    have h : ¬ 0 < (rw6 g a x).toInt := this
    exact Or.inl (by omega)
  · have p1 := lc0_pos.1 y2
    rw [e1, c3 _ (by omega)] at p1
    have αp : 0 < α := by rw [← eα]; exact p1
    have t3 : v3.toInt = α := by rw [e3, c3 _ (by omega), ← eα]; rfl
    have t4 : v4.toInt = (rw6 g b j).toInt := by rw [e4, c3 _ (by omega)]; rfl
    have l4 : 0 ≤ (rw6 g b j).toInt ∧ (rw6 g b j).toInt < 2147483648 := hB.limb c1 (by omega)
    have l2 : 0 ≤ v2.toInt ∧ v2.toInt < 2147483648 := by
      have := c4.limb (i := x + j) (by omega) (by omega)
      rw [e2, show 6 * t + x + j = 6 * t + (x + j) by omega]
      exact this
    have oj := VS.old (f := rw6 g b) c1
    have lej : VS (rw6 g b) 0 (j + 1).toNat ≤ B := by
      rw [← hB.2]
      have := VS.low_le (g := rw6 g b) (b := 0) (m := (j + 1).toNat) (n := 6 - (j + 1).toNat) (by rw [show (j + 1).toNat + (6 - (j + 1).toNat) = 6 by omega]; exact hB.1)
      rw [show (j + 1).toNat + (6 - (j + 1).toNat) = 6 by omega] at this
      exact this
    have low0 := (VS.b (g := rw6 g b) (b := 0) (n := (j + 1).toNat) (fun i i0 i1 => hB.1 i i0 (by omega))).1
    have m0 : 0 ≤ α * (rw6 g b j).toInt := Int.mul_nonneg la.1 l4.1
    have m1 : α * (rw6 g b j).toInt ≤ 2147483647 * 2147483647 := Int.mul_le_mul (by omega) (by omega) l4.1 (by decide)
    have t5 : (v3 * v4).toInt = α * (rw6 g b j).toInt := by rw [tI_mul (by rw [t3, t4]; exact ⟨by omega, by omega⟩), t3, t4]
    have t6 : (v2 + v3 * v4).toInt = v2.toInt + α * (rw6 g b j).toInt := by rw [tI_add (by rw [t5]; exact ⟨by omega, by omega⟩), t5]
    have eg : g3 = upZ g2 (6 * t + (x + j)) (v2 + v3 * v4) := by rw [eg3, show 6 * t + x + j = 6 * t + (x + j) by omega]
    have e2' : v2 = rw6 g2 t (x + j) := by rw [e2, show 6 * t + x + j = 6 * t + (x + j) by omega]; rfl
    have val : VS (rw6 g3 t) 0 6 = v + L * B + α * PB x.toNat * VS (rw6 g b) 0 (j + 1).toNat := by
      rw [eg, rw6_up, VS.set (by omega) (by omega), c4.2, t6, ← e2', oj, Int.mul_add, show (x + j).toNat = x.toNat + j.toNat by omega, PB_add]
      rw [show v2.toInt + α * (rw6 g b j).toInt - v2.toInt = α * (rw6 g b j).toInt by omega]
      have : α * PB x.toNat * ((rw6 g b j).toInt * PB j.toNat) = α * (rw6 g b j).toInt * (PB x.toNat * PB j.toNat) := by
        rw [Int.mul_assoc, Int.mul_assoc, ← Int.mul_assoc (PB x.toNat), Int.mul_comm (PB x.toNat), Int.mul_assoc (rw6 g b j).toInt]
      omega
    have mm : α * PB x.toNat * VS (rw6 g b) 0 (j + 1).toNat ≤ α * PB x.toNat * B := Int.mul_le_mul_of_nonneg_left lej α0
    have mn : 0 ≤ α * PB x.toNat * VS (rw6 g b) 0 (j + 1).toNat := Int.mul_nonneg α0 low0
    refine s_settleB ht (fun i i0 i1 => ?_) val (by omega) (by omega) (fun g4 f4 h4 => nx (by omega) ⟨_, ?_, rfl, by omega, Or.inr ⟨αp, by omega⟩, ?_, h4⟩)
    · rw [eg]
      by_cases e : i = x + j
      · rw [e, upZ_s, t6]; omega
      · rw [upZ_n _ _ (by omega)]
        have : 0 ≤ (g2 (6 * t + i)).toInt ∧ (g2 (6 * t + i)).toInt < 2147483648 := c4.limb i0 i1
        omega
    · omega
    · refine FrR.trans c3 (FrR.trans ?_ f4)
      rw [eg]
      exact FrR.up (by omega) (by omega)
theorem nat_or_bit (a r : Nat) : a ||| 2 ^ r = a + (1 - a / 2 ^ r % 2) * 2 ^ r := by
  have p := Nat.two_pow_pos r
  -- a = h 2^(r+1) + b 2^r + w
  have hb : a.testBit r = decide (a / 2 ^ r % 2 = 1) := Nat.testBit_eq_decide_div_mod_eq
  by_cases k : a / 2 ^ r % 2 = 1
  · rw [k, Nat.sub_self, Nat.zero_mul, Nat.add_zero]
    apply Nat.eq_of_testBit_eq
    intro i
    rw [Nat.testBit_or, Nat.testBit_two_pow]
    by_cases e : r = i
    · subst e; rw [hb, k]; rfl
    · simp [e]
  · have k0 : a / 2 ^ r % 2 = 0 := by omega
    rw [k0, Nat.sub_zero, Nat.one_mul]
    have eh : a = (a / 2 ^ r / 2) * 2 ^ (r + 1) + a % 2 ^ r := by
      have h1 := Nat.div_add_mod a (2 ^ r)
      have h2 : a / 2 ^ r = 2 * (a / 2 ^ r / 2) := by omega
      rw [Nat.pow_succ, ← Nat.mul_assoc, Nat.mul_comm _ 2]
      have : 2 * (a / 2 ^ r / 2 * 2 ^ r) = 2 ^ r * (a / 2 ^ r) := by
        rw [← Nat.mul_assoc, ← h2, Nat.mul_comm]
      omega
    have wl : a % 2 ^ r < 2 ^ r := Nat.mod_lt _ p
    have p1 : (2 : Nat) ^ (r + 1) = 2 ^ r * 2 := Nat.pow_succ 2 r
    generalize a / 2 ^ r / 2 = h at eh
    generalize a % 2 ^ r = w at eh wl
    have e1 : a = h <<< (r + 1) ||| w := by rw [← Nat.shiftLeft_add_eq_or_of_lt (by omega), Nat.shiftLeft_eq]; exact eh
    have e2 : w ||| 2 ^ r = 2 ^ r + w := by
      have : (1 <<< r) + w = 1 <<< r ||| w := Nat.shiftLeft_add_eq_or_of_lt wl 1
      rw [Nat.or_comm]
      rw [Nat.shiftLeft_eq, Nat.one_mul] at this
      exact this.symm
    have e3 : a ||| 2 ^ r = h <<< (r + 1) ||| (2 ^ r + w) := by rw [e1, Nat.or_assoc, e2]
    rw [e3, ← Nat.shiftLeft_add_eq_or_of_lt (by omega), Nat.shiftLeft_eq]
    omega
theorem pbit {l : Nat} {r : Nat} : ((l / 2 ^ r % 2 : Nat) : Int) = (l : Int) / pw2 r % 2 := by rw [pw2_nat]; simp
/-- a bit put in -/
theorem tI_or2 {x y : Int64} {r : Nat} (hx : 0 ≤ x.toInt) (hx2 : x.toInt < 2147483648) (hr : r ≤ 30) (hy : y.toInt = pw2 r) : (x ||| y).toInt = x.toInt + (1 - x.toInt / pw2 r % 2) * pw2 r := by
  have nx := tI_nat hx
  have e2 : pw2 r = ((2 ^ r : Nat) : Int) := pw2_nat r
  have rb : (2 : Nat) ^ r ≤ 2 ^ 30 := Nat.pow_le_pow_right (by omega) hr
  have ny := tI_nat (x := y) (by rw [hy]; exact Int.le_of_lt (pw2_pos r))
  have yn : y.toBitVec.toNat = 2 ^ r := by omega
  have e : (x ||| y).toBitVec.toNat = x.toBitVec.toNat + (1 - x.toBitVec.toNat / 2 ^ r % 2) * 2 ^ r := by rw [Int64.toBitVec_or, BitVec.toNat_or, yn, nat_or_bit]
  have pb := pbit (l := x.toBitVec.toNat) (r := r)
  rw [nx] at pb
  have bb : x.toBitVec.toNat / 2 ^ r % 2 < 2 := Nat.mod_lt _ (by omega)
  generalize x.toBitVec.toNat / 2 ^ r % 2 = β at *
  rw [← pb]
  rcases (show β = 0 ∨ β = 1 by omega) with h | h
  · subst h
    rw [tI_bv e (by omega)]
    show ((x.toBitVec.toNat + 1 * 2 ^ r : Nat) : Int) = x.toInt + 1 * pw2 r
    omega
  · subst h
    rw [tI_bv e (by omega)]
    show ((x.toBitVec.toNat + 0 * 2 ^ r : Nat) : Int) = x.toInt + 0 * pw2 r
    omega
/-- a bit taken out -/
theorem tI_andn {x y : Int64} {r : Nat} (hx : 0 ≤ x.toInt) (hx2 : x.toInt < 2147483648) (hr : r ≤ 30) (hy : y.toInt = pw2 r) : (x &&& (y ^^^ (-1))).toInt = x.toInt - x.toInt / pw2 r % 2 * pw2 r := by
  have nx := tI_nat hx
  have e2 : pw2 r = ((2 ^ r : Nat) : Int) := pw2_nat r
  have rb : (2 : Nat) ^ r ≤ 2 ^ 30 := Nat.pow_le_pow_right (by omega) hr
  have ny := tI_nat (x := y) (by rw [hy]; exact Int.le_of_lt (pw2_pos r))
  have yn : y.toBitVec.toNat = 2 ^ r := by omega
  have xl := x.toBitVec.isLt
  have bits : ∀ i, (x &&& (y ^^^ (-1))).toBitVec.toNat.testBit i = (x.toBitVec.toNat.testBit i && !decide (r = i)) := by
    intro i
    rw [← Nat.testBit_two_pow, ← yn]
    show (x &&& (y ^^^ (-1))).toBitVec.getLsbD i = (x.toBitVec.getLsbD i && !y.toBitVec.getLsbD i)
    rw [Int64.toBitVec_and, BitVec.getLsbD_and, Int64.toBitVec_xor, BitVec.getLsbD_xor]
    have m1 : (-1 : Int64).toBitVec = BitVec.allOnes 64 := by decide
    rw [m1, BitVec.getLsbD_allOnes]
    by_cases h : i < 64
    · simp [h]
    · rw [BitVec.getLsbD_of_ge x.toBitVec i (by omega)]; simp
  generalize eR : (x &&& (y ^^^ (-1))).toBitVec.toNat = R at bits
  have pb := pbit (l := x.toBitVec.toNat) (r := r)
  rw [nx] at pb
  have hb : x.toBitVec.toNat.testBit r = decide (x.toBitVec.toNat / 2 ^ r % 2 = 1) := Nat.testBit_eq_decide_div_mod_eq
  have hR : R.testBit r = decide (R / 2 ^ r % 2 = 1) := Nat.testBit_eq_decide_div_mod_eq
  have bR : R / 2 ^ r % 2 = 0 := by
    rw [bits r] at hR
    simp at hR
    omega
  by_cases k : x.toBitVec.toNat / 2 ^ r % 2 = 1
  · have e : R ||| 2 ^ r = x.toBitVec.toNat := by
      apply Nat.eq_of_testBit_eq
      intro i
      rw [Nat.testBit_or, Nat.testBit_two_pow, bits i]
      by_cases e : r = i
      · subst e; rw [hb, k]; simp
      · simp [e]
    rw [nat_or_bit, bR] at e
    rw [tI_bv eR (by omega), ← pb, k]
    omega
  · have e : R = x.toBitVec.toNat := by
      apply Nat.eq_of_testBit_eq
      intro i
      rw [bits i]
      by_cases e : r = i
      · subst e; rw [hb]; simp [k]
      · simp [e]
    have z : x.toBitVec.toNat / 2 ^ r % 2 = 0 := by omega
    rw [tI_bv eR (by omega), ← pb, z, e]
    omega
