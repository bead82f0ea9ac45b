/-! dividing, bit by bit -/
theorem PB_pw2 (n : Nat) : PB n = pw2 (31 * n) := by
  induction n with
  | zero => rfl
  | succ n ih =>
    show PB n * 2147483648 = pw2 (31 * (n + 1))
    rw [ih, show 31 * (n + 1) = 31 * n + 31 by omega]
    have : ∀ m, pw2 (31 * n + m) = pw2 (31 * n) * pw2 m := by
      intro m
      induction m with
      | zero => show pw2 (31 * n) = pw2 (31 * n) * 1; omega
      | succ m ih => show 2 * pw2 (31 * n + m) = pw2 (31 * n) * (2 * pw2 m); rw [ih, ← Int.mul_assoc, ← Int.mul_assoc, Int.mul_comm 2]
    rw [this]
    rfl
theorem pw2_add (m n : Nat) : pw2 (m + n) = pw2 m * pw2 n := by
  induction n with
  | zero => show pw2 m = pw2 m * 1; omega
  | succ n ih => show 2 * pw2 (m + n) = pw2 m * (2 * pw2 n); rw [ih, ← Int.mul_assoc, ← Int.mul_assoc, Int.mul_comm 2]
/-- a limb, from the value -/
theorem VS.limb {g : Int → Int64} {l : Int} (v : VL g 0 6) (h0 : 0 ≤ l) (h1 : l < 6) : (g l).toInt = VS g 0 6 / PB l.toNat % 2147483648 := by
  have s := VS.split (g := g) (b := 0) (m := l.toNat) (n := 6 - l.toNat)
  rw [show l.toNat + (6 - l.toNat) = 6 by omega, show (0 : Int) + ((l.toNat : Nat) : Int) = l by omega] at s
  have lb := VS.b (n := l.toNat) (fun i i0 i1 => v i i0 (by omega))
  have p := PB_pos l.toNat
  rw [s, Int.add_mul_ediv_right _ _ (by omega), Int.ediv_eq_zero_of_lt lb.1 lb.2, show 6 - l.toNat = (5 - l.toNat) + 1 by omega, VS.cons]
  have li := v l h0 (by omega)
  rw [Int.zero_add] at li
  omega
theorem VS.set {g : Int → Int64} {l : Int} {v : Int64} (h0 : 0 ≤ l) (h1 : l < 6) : VS (upZ g l v) 0 6 = VS g 0 6 + (v.toInt - (g l).toInt) * PB l.toNat := by
  have s := VS.split (g := g) (b := 0) (m := (l + 1).toNat) (n := 6 - (l + 1).toNat)
  have s' := VS.split (g := upZ g l v) (b := 0) (m := (l + 1).toNat) (n := 6 - (l + 1).toNat)
  rw [show (l + 1).toNat + (6 - (l + 1).toNat) = 6 by omega] at s s'
  rw [s, s', VS.old h0, VS.old h0, upZ_s, VS.up (by omega), VS.up (by omega), Int.sub_mul]
  omega
theorem nat_or_low {a r : Nat} (h : a % 2 ^ (r + 1) = 0) : a ||| 2 ^ r = a + 2 ^ r := by
  have e : a = (a / 2 ^ (r + 1)) <<< (r + 1) := by
    rw [Nat.shiftLeft_eq]
    have := Nat.div_add_mod a (2 ^ (r + 1))
    rw [h, Nat.mul_comm] at this
    omega
  rw [e, ← Nat.shiftLeft_add_eq_or_of_lt (Nat.pow_lt_pow_right (by omega) (by omega))]
theorem tI_or_bit {x y : Int64} {r : Nat} (hx : 0 ≤ x.toInt) (hx2 : x.toInt < 2147483648) (hr : r ≤ 30) (hm : x.toInt % pw2 (r + 1) = 0) (hy : y.toInt = pw2 r) : (x ||| y).toInt = x.toInt + pw2 r := by
  have nx := tI_nat hx
  have e2 : pw2 r = ((2 ^ r : Nat) : Int) := pw2_nat r
  have e3 : pw2 (r + 1) = ((2 ^ (r + 1) : Nat) : Int) := pw2_nat (r + 1)
  have rb : (2 : Nat) ^ r ≤ 2 ^ 30 := Nat.pow_le_pow_right (by omega) hr
  have ny := tI_nat (x := y) (by rw [hy]; exact Int.le_of_lt (pw2_pos r))
  have yn : y.toBitVec.toNat = 2 ^ r := by omega
  have mz : x.toBitVec.toNat % 2 ^ (r + 1) = 0 := by
    rw [← nx, e3] at hm
    have : ((x.toBitVec.toNat % 2 ^ (r + 1) : Nat) : Int) = 0 := by rw [Int.natCast_emod]; exact hm
    omega
  have e : (x ||| y).toBitVec.toNat = x.toBitVec.toNat + 2 ^ r := by rw [Int64.toBitVec_or, BitVec.toNat_or, yn, nat_or_low mz]
  rw [tI_bv e (by omega)]
  omega
theorem tI_shl1 {r : Int} (h0 : 0 ≤ r) (h1 : r ≤ 30) : (shlL 1 r).toInt = pw2 r.toNat := by
  obtain ⟨n, rfl⟩ := Int.eq_ofNat_of_zero_le h0
  have : ∀ n : Nat, n ≤ 30 → (shlL 1 n).toInt = pw2 n := by decide +kernel
  rw [Int.toNat_natCast]
  exact this n (by omega)
theorem tI_bit {x : Int64} {r : Int} (hx : 0 ≤ x.toInt) (h0 : 0 ≤ r) (h1 : r ≤ 30) : (shrL x r &&& 1).toInt = x.toInt / pw2 r.toNat % 2 := by
  have s : (shrL x r).toInt = x.toInt / pw2 r.toNat := by
    show (shrL x r).toBitVec.toInt = _
    rw [shrL_bv ⟨h0, by omega⟩, BitVec.toInt_sshiftRight, Int.shiftRight_eq_div_pow, pw2_nat]
    rfl
  have sn : 0 ≤ (shrL x r).toInt := by rw [s]; exact Int.ediv_nonneg hx (Int.le_of_lt (pw2_pos _))
  have nn := tI_nat sn
  have e : (shrL x r &&& 1).toBitVec.toNat = (shrL x r).toBitVec.toNat % 2 := by
    rw [Int64.toBitVec_and, BitVec.toNat_and]
    have : (1 : Int64).toBitVec.toNat = 1 := by decide
    rw [this, Nat.and_one_is_mod]
  rw [tI_bv e (by omega), ← s]
  omega
/-- bit x of a wide number, in its limb -/
theorem VS.bit {g : Int → Int64} {x : Int} (v : VL g 0 6) (h0 : 0 ≤ x) (h1 : x < 186) : (g (x / 31)).toInt / pw2 (x % 31).toNat % 2 = VS g 0 6 / pw2 x.toNat % 2 := by
  rw [VS.limb v (by omega) (by omega)]
  have e : pw2 x.toNat = PB (x / 31).toNat * pw2 (x % 31).toNat := by
    rw [PB_pw2, ← pw2_add]
    congr 1
    omega
  have p := PB_pos (x / 31).toNat
  rw [e, ← Int.ediv_ediv_of_nonneg (Int.le_of_lt p)]
  generalize VS g 0 6 / PB (x / 31).toNat = w
  have hr : (x % 31).toNat ≤ 30 := by omega
  -- a limb has 31 bits
  have e2 : (2147483648 : Int) = pw2 (x % 31).toNat * (2 * pw2 (30 - (x % 31).toNat)) := by
    have : 2 * pw2 (30 - (x % 31).toNat) = pw2 (30 - (x % 31).toNat + 1) := rfl
    rw [this, ← pw2_add, show (x % 31).toNat + (30 - (x % 31).toNat + 1) = 31 by omega]
    rfl
  have q := pw2_pos (x % 31).toNat
  have dm := Int.mul_ediv_add_emod w 2147483648
  have k : w / pw2 (x % 31).toNat = w % 2147483648 / pw2 (x % 31).toNat + 2 * pw2 (30 - (x % 31).toNat) * (w / 2147483648) := by
    have h : w = w % 2147483648 + 2 * pw2 (30 - (x % 31).toNat) * (w / 2147483648) * pw2 (x % 31).toNat := by
      have : 2 * pw2 (30 - (x % 31).toNat) * (w / 2147483648) * pw2 (x % 31).toNat = 2147483648 * (w / 2147483648) := by
        rw [Int.mul_comm _ (pw2 _), ← Int.mul_assoc, ← e2]
      omega
    conv => lhs; rw [h]
    rw [Int.add_mul_ediv_right _ _ (by omega)]
  rw [k, Int.mul_assoc]
  omega
theorem s_divide {post : (Int → Int64) → (Int → Int64) → Prop} {a d q0 r0 : Int → Int64} {A D : Int} (ha : NW6 a A) (hd : NW6 d D) (hD : 0 < D) (hD2 : 2 * D ≤ PB 6) (hp : ∀ q r, NW6 q (A / D) → post q r) : P_X10_divide_52_53_55_57 post a d q0 r0 := by
  have ab := ha.b
  unfold P_X10_divide_52_53_55_57
  refine s_fill6 (fun q1 hq1 => ?_)
  refine (s_fill6 (fun r1 hr1 => ?_) : P_J7_fill_d0a16_55 _ r0 0)
  have top : A / pw2 186 = 0 := by
    have : PB 6 = pw2 186 := PB_pw2 6
    exact Int.ediv_eq_zero_of_lt ab.1 (by omega)
  refine ⟨fun n x q r => n = (x + 1).toNat ∧ -1 ≤ x ∧ x ≤ 185 ∧ NW6 r (A / pw2 (x + 1).toNat % D) ∧ NW6 q (A / pw2 (x + 1).toNat / D * pw2 (x + 1).toNat), ⟨_, rfl, by omega, by omega, ?_, ?_⟩, ?_⟩
  · show NW6 r1 (A / pw2 186 % D)
    rw [top]
    exact NW6.zero hr1
  · show NW6 q1 (A / pw2 186 / D * pw2 186)
    rw [top, Int.zero_ediv, Int.zero_mul]
    exact NW6.zero hq1
  rintro n x q r rx ⟨rfl, b1, b2, b3, b4⟩
  refine ⟨fun y => ?_, fun y => ?_⟩
  · have e : x = -1 := by omega
    subst e
    refine hp q r ?_
    have b4' : NW6 q (A / 1 / D * 1) := b4
    rw [Int.ediv_one, Int.mul_one] at b4'
    exact b4'
  have hx : 0 ≤ x := by omega
  have et : x.tdiv 31 = x / 31 := Int.tdiv_eq_ediv_of_nonneg hx
  have em : x.tmod 31 = x % 31 := Int.tmod_eq_emod_of_nonneg hx
  rw [et, em]
  generalize eT : A / pw2 (x + 1).toNat = T at b3 b4
  have p2 : pw2 (x + 1).toNat = 2 * pw2 x.toNat := by rw [show (x + 1).toNat = x.toNat + 1 by omega]; rfl
  have pp := pw2_pos x.toNat
  -- the next bit
  have bt : A / pw2 x.toNat = 2 * T + A / pw2 x.toNat % 2 := by
    have : T = A / pw2 x.toNat / 2 := by
      rw [← eT, p2, Int.mul_comm, Int.ediv_ediv_of_nonneg (Int.le_of_lt pp)]
    omega
  have bb : 0 ≤ A / pw2 x.toNat % 2 ∧ A / pw2 x.toNat % 2 ≤ 1 := by omega
  generalize eβ : A / pw2 x.toNat % 2 = β at bt bb
  have td := Int.mul_ediv_add_emod T D
  have tm0 := Int.emod_nonneg T (show D ≠ 0 by omega)
  have tml := Int.emod_lt_of_pos T hD
  refine ⟨by omega, fun l el => ?_⟩
  subst el
  refine (s_scale54 (k := 2) b3 (by omega) (by omega) (fun r2 h2 => ?_) : P_X10_scale_54 _ r 2)
  intro v1 e1
  refine ⟨by omega, fun v2 ev2 r3 er3 => ?_⟩
  have la := ha.limb (i := x / 31) (by omega) (by omega)
  rw [← ev2] at la
  have bit : (shrL v2 (x % 31) &&& 1).toInt = β := by
    rw [tI_bit la.1 (by omega) (by omega), ev2, VS.bit ha.1 hx (by omega), ha.2, eβ]
  have l0 := h2.limb (i := 0) (by omega) (by omega)
  rw [← e1] at l0
  have even : v1.toInt % 2 = 0 := by
    rw [e1, VS.limb h2.1 (by omega) (by omega), h2.2]
    show T % D * 2 / 1 % 2147483648 % 2 = 0
    rw [Int.ediv_one]
    omega
  have orv : (v1 ||| (shrL v2 (x % 31) &&& 1)).toInt = v1.toInt + β := by
    by_cases k : β = 1
    · rw [tI_or_bit (r := 0) l0.1 l0.2 (by omega) even (by rw [bit, k]; rfl), k]; rfl
    · have z : (shrL v2 (x % 31) &&& 1) = 0 := tI_inj (by rw [bit]; show β = 0; omega)
      have : v1 ||| 0 = v1 := by
        apply Int64.toBitVec_inj.1
        rw [Int64.toBitVec_or]
        exact BitVec.or_zero
      rw [z, this]; omega
  have h3 : NW6 r3 (2 * (T % D) + β) := by
    refine ⟨fun i i0 i1 => ?_, ?_⟩
    · rw [Int.zero_add, er3]
      by_cases k : i = 0
      · rw [k, upZ_s, orv]; omega
      · rw [upZ_n _ _ k]; exact h2.limb i0 i1
    · rw [er3, VS.set (by omega) (by omega), h2.2, orv, ← e1]
      show T % D * 2 + (v1.toInt + β - v1.toInt) * 1 = _
      omega
  have go : ∀ (q2 r4 : Int → Int64) (T2 : Int), T2 = 2 * T + β → NW6 r4 (T2 % D) → NW6 q2 (T2 / D * pw2 x.toNat) → (inR (x + (-1)) ∧ (∀ x4_25 : Int, x4_25 = (x + (-1)) → (∃ n_26 : Nat, n_26 < (x + 1).toNat ∧ (n_26 = (x4_25 + 1).toNat ∧ -1 ≤ x4_25 ∧ x4_25 ≤ 185 ∧ NW6 r4 (A / pw2 (x4_25 + 1).toNat % D) ∧ NW6 q2 (A / pw2 (x4_25 + 1).toNat / D * pw2 (x4_25 + 1).toNat))))) := by
    intro q2 r4 T2 eT2 n1 n2
    refine ⟨by omega, fun x2 ex2 => ⟨_, ?_, rfl, by omega, by omega, ?_⟩⟩
    · omega
    · rw [ex2, show x + -1 + 1 = x by omega, bt, ← eT2]
      exact ⟨n1, n2⟩
  refine s_isLess h3 hd (fun t t01 it => ?_)
  intro _
  refine ⟨_, ⟨fun z => ?_, fun z => ?_⟩, fun q2 r4 jj => jj⟩
  · -- too small
    have lt := it.1 (t01.resolve_left z)
    have eT2 : 2 * T + β = (2 * (T % D) + β) + 2 * (T / D) * D := by
      rw [Int.mul_assoc, Int.mul_comm (T / D)]; omega
    have d2 : (2 * T + β) / D = 2 * (T / D) := by rw [eT2, Int.add_mul_ediv_right _ _ (by omega), Int.ediv_eq_zero_of_lt (by omega) lt]; omega
    have m2 : (2 * T + β) % D = 2 * (T % D) + β := by rw [eT2, Int.add_mul_emod_self_right, Int.emod_eq_of_lt (by omega) lt]
    refine go q r3 (2 * T + β) rfl (by rw [m2]; exact h3) ?_
    rw [d2, Int.mul_comm 2, Int.mul_assoc, ← p2]
    exact b4
  · have ge : D ≤ 2 * (T % D) + β := by
      apply Classical.byContradiction
      intro k
      have := it.2 (by omega)
      rw [z] at this
      exact absurd this (by decide)
    refine s_subtract h3 hd ge (fun r4 h4 => ?_)
    refine ⟨by omega, fun v3 e3 => ⟨by omega, fun q2 eq2 => ?_⟩⟩
    have eT2 : 2 * T + β = (2 * (T % D) + β - D) + (2 * (T / D) + 1) * D := by
      rw [Int.add_mul, Int.mul_assoc, Int.mul_comm (T / D)]; omega
    have d2 : (2 * T + β) / D = 2 * (T / D) + 1 := by rw [eT2, Int.add_mul_ediv_right _ _ (by omega), Int.ediv_eq_zero_of_lt (by omega) (by omega)]; omega
    have m2 : (2 * T + β) % D = 2 * (T % D) + β - D := by rw [eT2, Int.add_mul_emod_self_right, Int.emod_eq_of_lt (by omega) (by omega)]
    refine go q2 r4 (2 * T + β) rfl (by rw [m2]; exact h4) ?_
    have lq := b4.limb (i := x / 31) (by omega) (by omega)
    rw [← e3] at lq
    have hr : (x % 31).toNat ≤ 30 := by omega
    have ePB : pw2 x.toNat = PB (x / 31).toNat * pw2 (x % 31).toNat := by
      rw [PB_pw2, ← pw2_add]
      congr 1
      omega
    have pB := PB_pos (x / 31).toNat
    have zero : v3.toInt % pw2 ((x % 31).toNat + 1) = 0 := by
      rw [e3, VS.limb b4.1 (by omega) (by omega), b4.2, p2, ePB]
      rw [show T / D * (2 * (PB (x / 31).toNat * pw2 (x % 31).toNat)) = T / D * (2 * pw2 (x % 31).toNat) * PB (x / 31).toNat by rw [Int.mul_assoc (T / D), Int.mul_assoc 2, Int.mul_comm (PB _)]]
      rw [Int.mul_ediv_cancel _ (by omega)]
      show T / D * pw2 ((x % 31).toNat + 1) % 2147483648 % pw2 ((x % 31).toNat + 1) = 0
      have dv : pw2 ((x % 31).toNat + 1) ∣ 2147483648 := ⟨pw2 (30 - (x % 31).toNat), by rw [← pw2_add, show (x % 31).toNat + 1 + (30 - (x % 31).toNat) = 31 by omega]; rfl⟩
      rw [Int.emod_emod_of_dvd _ dv, Int.mul_emod_left]
    have orv2 : (v3 ||| shlL 1 (x % 31)).toInt = v3.toInt + pw2 (x % 31).toNat := tI_or_bit lq.1 lq.2 hr zero (tI_shl1 (by omega) (by omega))
    have vb : v3.toInt + pw2 (x % 31).toNat < 2147483648 := by
      -- both below 2^31 and the sum keeps to the bits
      have p31 : pw2 ((x % 31).toNat + 1) * pw2 (30 - (x % 31).toNat) = 2147483648 := by rw [← pw2_add, show (x % 31).toNat + 1 + (30 - (x % 31).toNat) = 31 by omega]; rfl
      have pq := pw2_pos (x % 31).toNat
      have e4 : pw2 ((x % 31).toNat + 1) = 2 * pw2 (x % 31).toNat := rfl
      have dm := Int.mul_ediv_add_emod v3.toInt (pw2 ((x % 31).toNat + 1))
      rw [zero, Int.add_zero] at dm
      have lt2 : v3.toInt / pw2 ((x % 31).toNat + 1) < pw2 (30 - (x % 31).toNat) := by
        refine Int.ediv_lt_of_lt_mul (by omega) ?_
        rw [Int.mul_comm, p31]
        exact lq.2
      have : pw2 ((x % 31).toNat + 1) * (v3.toInt / pw2 ((x % 31).toNat + 1) + 1) ≤ pw2 ((x % 31).toNat + 1) * pw2 (30 - (x % 31).toNat) := Int.mul_le_mul_of_nonneg_left (by omega) (by omega)
      rw [Int.mul_add, p31] at this
      omega
    refine ⟨fun i i0 i1 => ?_, ?_⟩
    · rw [Int.zero_add, eq2]
      by_cases k : i = x / 31
      · rw [k, upZ_s, orv2]
        have := pw2_pos (x % 31).toNat
        omega
      · rw [upZ_n _ _ k]; exact b4.limb i0 i1
    · rw [eq2, VS.set (by omega) (by omega), b4.2, orv2, ← e3, d2, Int.add_mul, Int.one_mul]
      rw [show v3.toInt + pw2 (x % 31).toNat - v3.toInt = pw2 (x % 31).toNat by omega, ePB, Int.mul_comm (pw2 (x % 31).toNat), p2, ePB]
      rw [show 2 * (T / D) * (PB (x / 31).toNat * pw2 (x % 31).toNat) = T / D * (2 * (PB (x / 31).toNat * pw2 (x % 31).toNat)) by rw [Int.mul_comm 2 (T / D), Int.mul_assoc]]
