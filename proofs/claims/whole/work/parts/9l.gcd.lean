/-! the greatest common divisor, by halving -/
theorem tI_ushr {x : Int64} {k : Int} (h : 0 ≤ x.toInt) (h0 : 0 ≤ k) (h1 : k < 64) : (ushrL x k).toInt = x.toInt / pw2 k.toNat := by
  have e : (ushrL x k).toBitVec.toNat = x.toBitVec.toNat / 2 ^ k.toNat := by
    rw [ushrL_bv ⟨h0, h1⟩, BitVec.toNat_ushiftRight, Nat.shiftRight_eq_div_pow]
  have n := tI_nat h
  have lt := x.toBitVec.isLt
  have r := tI_rng x
  have dl : x.toBitVec.toNat / 2 ^ k.toNat ≤ x.toBitVec.toNat := Nat.div_le_self _ _
  rw [tI_bv e (by have := r.2; omega), ← n, pw2_nat, Int.natCast_ediv]
theorem s_shiftDown {post : (Int → Int64) → Prop} {f : Int → Int64} {v : Int} {k : Nat} (hf : NW6 f v) (hk : 1 ≤ k ∧ k ≤ 30) (hp : ∀ f', NW6 f' (v / pw2 k) → post f') : P_X10_shiftDown_56 post f k := by
  have KW : pw2 k * pw2 (31 - k) = 2147483648 := by rw [← pw2_add, show k + (31 - k) = 31 by omega]; rfl
  have K0 := pw2_pos k
  have W0 := pw2_pos (31 - k)
  generalize eK : pw2 k = K at *
  generalize pw2 (31 - k) = W at *
  have lm : ∀ z : Int, 0 ≤ z % K ∧ z % K < K := fun z => ⟨Int.emod_nonneg _ (by omega), Int.emod_lt_of_pos _ K0⟩
  unfold P_X10_shiftDown_56
  refine ⟨fun n x f' => n = (6 - x).toNat ∧ 0 ≤ x ∧ x ≤ 6 ∧ (∀ i, 0 ≤ i → i < x → 0 ≤ (f' i).toInt ∧ (f' i).toInt < 2147483648) ∧ (∀ i, x ≤ i → f' i = f i) ∧ VS f' 0 x.toNat * K = VS f 0 x.toNat - (f 0).toInt % K + (if x < 6 then (f x).toInt % K else 0) * PB x.toNat, ⟨_, rfl, by omega, by omega, fun i _ _ => by omega, fun _ _ => rfl, by rw [if_pos (by omega)]; show 0 * K = 0 - (f 0).toInt % K + (f 0).toInt % K * 1; omega⟩, ?_⟩
  rintro n x f' rx ⟨rfl, b1, b2, b4, b5, b6⟩
  refine ⟨fun q => hp f' ?_, fun q => ⟨by omega, fun z => ∃ w : Int, z.toInt = w ∧ (0 ≤ w ∧ w < 2147483648) ∧ (if x + 1 < 6 then (f (x + 1)).toInt % K else 0) = w % K, ⟨fun y => ⟨0, rfl, by omega, by rw [if_neg (by omega)]; exact (Int.zero_emod _).symm⟩, fun y => ⟨by omega, fun u eu => ⟨u.toInt, rfl, ?_, ?_⟩⟩⟩, ?_⟩⟩
  · have e : x = 6 := by omega
    subst e
    have vl : VL f' 0 6 := fun i i0 i1 => by rw [Int.zero_add]; exact b4 i i0 i1
    have b6' : VS f' 0 6 * K = VS f 0 6 - (f 0).toInt % K + 0 * PB 6 := b6
    rw [hf.2] at b6'
    refine ⟨vl, ?_⟩
    have l := lm (f 0).toInt
    have ev : v = (f 0).toInt % K + VS f' 0 6 * K := by omega
    rw [ev, Int.add_mul_ediv_right _ _ (by omega), Int.ediv_eq_zero_of_lt l.1 l.2]
    omega
  · rw [eu, b5 _ (by omega)]; exact hf.limb (by omega) (by omega)
  · rw [if_pos (by omega), eu, b5 _ (by omega)]
  rintro z ⟨w, ew, wb, hw⟩
  refine ⟨by omega, fun v1 e1 => ⟨by omega, fun f2 ef => ?_⟩⟩
  rw [b5 x (Int.le_refl _)] at e1
  have lx := hf.limb b1 (by omega)
  rw [← e1] at lx
  have t1 : (shlL z 31 ||| v1).toInt = w * 2147483648 + v1.toInt := by rw [tI_shl_or (by omega) lx, ew]
  have t2 : (ushrL (shlL z 31 ||| v1) (k : Int)).toInt = (w * 2147483648 + v1.toInt) / K := by
    rw [tI_ushr (by rw [t1]; omega) (by omega) (by omega), t1, Int.toNat_natCast, eK]
  have wd := Int.mul_ediv_add_emod w K
  have wl := lm w
  have vd := Int.mul_ediv_add_emod v1.toInt K
  have vl := lm v1.toInt
  have hl : v1.toInt / K < W := Int.ediv_lt_of_lt_mul K0 (by rw [Int.mul_comm, KW]; exact lx.2)
  have h0 : 0 ≤ v1.toInt / K := Int.ediv_nonneg lx.1 (by omega)
  generalize w / K = wh at *
  generalize w % K = wr at *
  generalize v1.toInt / K = vh at *
  generalize v1.toInt % K = vr at *
  have m1 : wr * W ≤ (K - 1) * W := Int.mul_le_mul_of_nonneg_right (by omega) (by omega)
  rw [Int.sub_mul, KW] at m1
  have m0 : 0 ≤ wr * W := Int.mul_nonneg wl.1 (by omega)
  have t3 : (w * 2147483648 + v1.toInt) / K % 2147483648 = wr * W + vh := by
    have e : w * 2147483648 + v1.toInt = vr + (w * W + vh) * K := by
      rw [Int.add_mul, Int.mul_assoc, Int.mul_comm W, KW, Int.mul_comm vh]; omega
    rw [e, Int.add_mul_ediv_right _ _ (by omega), Int.ediv_eq_zero_of_lt vl.1 vl.2, Int.zero_add]
    have e2 : w * W + vh = (wr * W + vh) + wh * 2147483648 := by
      rw [← wd, Int.add_mul, Int.mul_comm K, Int.mul_assoc, KW]; omega
    rw [e2, Int.add_mul_emod_self_right, Int.emod_eq_of_lt (by omega) (by omega)]
  have t4 : (ushrL (shlL z 31 ||| v1) (k : Int) &&& 2147483647).toInt = wr * W + vh := by rw [tI_and31, t2, t3]
  refine fun x2 ex2 => ⟨_, ?_, rfl, by omega, by omega, fun i i0 i1 => ?_, fun i i0 => ?_, ?_⟩
  · omega
  · rw [ef]
    by_cases e : i = x
    · rw [e, upZ_s, t4]; omega
    · rw [upZ_n _ _ e]; exact b4 i i0 (by omega)
  · rw [ef, upZ_n _ _ (by omega)]; exact b5 i (by omega)
  · rw [ex2, ef, VS.old b1, VS.old b1, upZ_s, VS.up (by omega), t4, ← e1, hw, Int.add_mul, b6, if_pos (by omega), ← e1]
    rw [show (x + 1).toNat = x.toNat + 1 by omega]
    show _ = VS f 0 x.toNat + v1.toInt * PB x.toNat - (f 0).toInt % K + wr * (PB x.toNat * 2147483648)
    have e3 : v1.toInt % K = vr := by rw [← vd, Int.add_comm, Int.add_mul_emod_self_left, Int.emod_eq_of_lt vl.1 vl.2]
    rw [e3]
    have e4 : (wr * W + vh) * PB x.toNat * K = (wr * 2147483648 + K * vh) * PB x.toNat := by
      rw [Int.mul_assoc, Int.mul_comm (PB x.toNat) K, ← Int.mul_assoc, Int.add_mul, Int.mul_assoc wr, Int.mul_comm W, KW, Int.mul_comm vh]
    rw [e4, ← vd, Int.add_mul, Int.add_mul, Int.mul_assoc wr, Int.mul_comm 2147483648 (PB x.toNat)]
    omega
theorem and_compl {m n : Nat} (h : m < 2 ^ n) : m &&& (2 ^ n - (m + 1)) = 0 := by
  apply Nat.eq_of_testBit_eq
  intro i
  rw [Nat.testBit_and, Nat.testBit_two_pow_sub_succ h, Nat.zero_testBit]
  cases m.testBit i <;> simp
theorem and_odd {a b : Nat} : (2 * a + 1) &&& (2 * b + 1) = 2 * (a &&& b) + 1 := by
  apply Nat.eq_of_testBit_eq
  intro i
  rw [Nat.testBit_and]
  cases i with
  | zero => simp [Nat.testBit_zero]
  | succ i =>
    rw [Nat.testBit_succ, Nat.testBit_succ, Nat.testBit_succ, show (2 * a + 1) / 2 = a by omega, show (2 * b + 1) / 2 = b by omega, show (2 * (a &&& b) + 1) / 2 = a &&& b by omega, Nat.testBit_and]
theorem two_odd : ∀ (n : Nat), 0 < n → ∃ t m : Nat, n = 2 ^ t * (2 * m + 1) := by
  intro n
  induction n using Nat.strongRecOn with
  | ind n ih =>
    intro h
    by_cases o : n % 2 = 1
    · exact ⟨0, n / 2, by omega⟩
    · obtain ⟨t, m, e⟩ := ih (n / 2) (by omega) (by omega)
      exact ⟨t + 1, m, by rw [Nat.pow_succ, Nat.mul_comm (2 ^ t) 2, Nat.mul_assoc, ← e]; omega⟩
theorem low_bit {x : Int64} {t m : Nat} (h : x.toInt = ((2 ^ t * (2 * m + 1) : Nat) : Int)) (ht : t ≤ 30) (hx : x.toInt < 2147483648) : x &&& (-x) = shlL 1 t := by
  have nx := tI_nat (x := x) (by omega)
  have en : x.toBitVec.toNat = 2 ^ t * (2 * m + 1) := by omega
  have tp : 0 < 2 ^ t := Nat.two_pow_pos t
  have hb : 2 ^ t * (2 * m + 1) < 2147483648 := by omega
  have pos : 0 < 2 ^ t * (2 * m + 1) := Nat.mul_pos tp (by omega)
  have e64 : (2 : Nat) ^ 64 = 2 ^ t * 2 ^ (64 - t) := by rw [← Nat.pow_add]; congr 1; omega
  have e63 : (2 : Nat) ^ (64 - t) = 2 * 2 ^ (63 - t) := by rw [show 64 - t = (63 - t) + 1 by omega, Nat.pow_succ]; omega
  have mb : m < 2 ^ (63 - t) := by
    apply Classical.byContradiction
    intro q
    have : 2 ^ t * 2 ^ (64 - t) ≤ 2 ^ t * (2 * m + 1) := Nat.mul_le_mul_left _ (by omega)
    omega
  have ng : (-x).toBitVec.toNat = 2 ^ t * (2 * (2 ^ (63 - t) - (m + 1)) + 1) := by
    rw [Int64.toBitVec_neg, BitVec.toNat_neg, en]
    rw [Nat.mod_eq_of_lt (by omega)]
    have : 2 ^ t * (2 * (2 ^ (63 - t) - (m + 1)) + 1) + 2 ^ t * (2 * m + 1) = 2 ^ 64 := by
      rw [← Nat.mul_add, e64]
      congr 1
      omega
    omega
  have e : (x &&& -x).toBitVec.toNat = 2 ^ t := by
    rw [Int64.toBitVec_and, BitVec.toNat_and, en, ng]
    have c1 : ∀ y : Nat, 2 ^ t * y = y <<< t := fun y => by rw [Nat.shiftLeft_eq, Nat.mul_comm]
    rw [c1, c1, ← Nat.shiftLeft_and_distrib, and_odd, and_compl mb, Nat.shiftLeft_eq]
    omega
  have tb : (2 : Nat) ^ t ≤ 2 ^ 30 := Nat.pow_le_pow_right (by omega) ht
  apply tI_inj
  rw [tI_bv e (by omega), tI_shl1 (by omega) (by omega), Int.toNat_natCast, pw2_nat]
def bcI (x0 : Int64) : Int :=
  let x1 := x0 - (ushrL x0 1 &&& 6148914691236517205)
  let x2 := (x1 &&& 3689348814741910323) + (ushrL x1 2 &&& 3689348814741910323)
  let x3 := (x2 + ushrL x2 4) &&& 1085102592571150095
  let x4 := x3 + ushrL x3 8
  let x5 := x4 + ushrL x4 16
  let x6 := x5 + ushrL x5 32
  andI (l2I x6) 127
theorem s_bitCount {post : Int → Prop} {x : Int64} (hp : post (bcI x)) : P_J13_bitCount_95d88 post x := by
  unfold P_J13_bitCount_95d88
  intro x1 e1 x2 e2 x3 e3 x4 e4 x5 e5 x6 e6
  subst e1 e2 e3 e4 e5 e6
  exact hp
theorem bcI_low : ∀ t : Nat, t ≤ 30 → bcI (shlL 1 t - 1) = t := by decide +kernel
theorem bcI_all : bcI (-1) = 64 := by decide +kernel
theorem pw2_dvd_of {v : Int} {t m : Nat} {f : Int → Int64} (hf : NW6 f v) (h : (f 0).toInt = ((2 ^ t * (2 * m + 1) : Nat) : Int)) (ht : t ≤ 30) : pw2 t ∣ v := by
  have s := VS.cons (g := f) (b := 0) (n := 5)
  have e : VS f 0 (5 + 1) = v := hf.2
  rw [e, h] at s
  rw [s]
  refine Int.dvd_add ⟨2 * m + 1, ?_⟩ ⟨VS f (0 + 1) 5 * pw2 (31 - t), ?_⟩
  · rw [pw2_nat]; rfl
  · have : (2147483648 : Int) = pw2 t * pw2 (31 - t) := by rw [← pw2_add, show t + (31 - t) = 31 by omega]; rfl
    rw [this, ← Int.mul_assoc, Int.mul_comm _ (pw2 t), Int.mul_assoc]
theorem s_twosOf {post : Int → Prop} {f : Int → Int64} {v : Int} (hf : NW6 f v) (he : v % 2 = 0) (hp : ∀ k : Nat, 1 ≤ k → k ≤ 30 → pw2 k ∣ v → post k) : P_X10_twosOf_56 post f := by
  unfold P_X10_twosOf_56
  intro v1 e1 v2 e2
  have l := hf.limb (i := 0) (by omega) (by omega)
  rw [← e1] at l
  have s := VS.cons (g := f) (b := 0) (n := 5)
  have ev : VS f 0 (5 + 1) = v := hf.2
  rw [ev, ← e1] at s
  rw [← e1] at e2
  subst e2
  refine s_bitCount ?_
  intro r
  by_cases z : v2.toInt = 0
  · have v0 : v2 = 0 := tI_inj z
    have : bcI ((v2 &&& -v2) - 1) = 64 := by rw [v0]; exact bcI_all
    rw [this]
    refine ⟨by decide, ?_⟩
    show post ((30 : Nat) : Int)
    refine hp 30 (by omega) (by omega) ⟨2 * VS f (0 + 1) 5, ?_⟩
    rw [s, z]
    show _ = (1073741824 : Int) * _
    omega
  · obtain ⟨t, m, etm⟩ := two_odd v2.toInt.toNat (by omega)
    have e3 : v2.toInt = ((2 ^ t * (2 * m + 1) : Nat) : Int) := by omega
    have tp : 0 < 2 ^ t := Nat.two_pow_pos t
    have tle : t ≤ 30 := by
      apply Classical.byContradiction
      intro q
      have h1 : (2 : Nat) ^ 31 ≤ 2 ^ t := Nat.pow_le_pow_right (by omega) (by omega)
      have h2 : 2 ^ t * 1 ≤ 2 ^ t * (2 * m + 1) := Nat.mul_le_mul_left _ (by omega)
      omega
    have t1 : 1 ≤ t := by
      apply Classical.byContradiction
      intro q
      have : t = 0 := by omega
      subst this
      rw [Nat.pow_zero, Nat.one_mul] at e3
      omega
    rw [low_bit e3 tle l.2, bcI_low t tle]
    have : (if (t : Int) < 30 then (t : Int) else 30) = t := by split <;> omega
    rw [this]
    exact ⟨by omega, hp t t1 tle (pw2_dvd_of hf (by rw [← e1]; exact e3) tle)⟩
