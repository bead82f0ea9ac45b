/-! two bits a cell: the reference's history -/
def qd (x : Int64) (k : Int) : Int := l2I (shrL x (2 * k) &&& 3)
def b2i (b : Bool) : Int := if b then 1 else 0
theorem b2i_b (b : Bool) : 0 ≤ b2i b ∧ b2i b ≤ 1 := by cases b <;> decide
theorem b2i_t : b2i true = 1 := rfl
theorem nat4 (n : Nat) : ((n % 4 : Nat) : Int) = b2i (n.testBit 0) + 2 * b2i (n.testBit 1) := by
  have h0 : n.testBit 0 = decide (n % 2 = 1) := Nat.testBit_zero n
  have h1 : n.testBit 1 = decide (n / 2 % 2 = 1) := by
    rw [Nat.testBit_succ, Nat.testBit_zero]
  rw [h0, h1]
  unfold b2i
  by_cases a : n % 2 = 1 <;> by_cases b : n / 2 % 2 = 1 <;> simp only [a, b, decide_true, decide_false, if_true, if_false] <;> (try simp) <;> omega
theorem sh_amt {k : Int} (h : 0 ≤ k ∧ k < 64) : ((iI k).toInt64 &&& 63) = Int64.ofInt k := by
  obtain ⟨n, rfl⟩ : ∃ n : Nat, k = n := ⟨k.toNat, by omega⟩
  have : ∀ n : Nat, n < 64 → ((iI n).toInt64 &&& 63) = Int64.ofInt n := by decide +kernel
  exact this n (by omega)
theorem sh_smod {k : Int} (h : 0 ≤ k ∧ k < 64) : ((Int64.ofInt k).toBitVec.smod 64).toNat = k.toNat := by
  obtain ⟨n, rfl⟩ : ∃ n : Nat, k = n := ⟨k.toNat, by omega⟩
  have : ∀ n : Nat, n < 64 → ((Int64.ofInt n).toBitVec.smod 64).toNat = n := by decide +kernel
  rw [this n (by omega)]
  omega
theorem shrL_bv {x : Int64} {k : Int} (h : 0 ≤ k ∧ k < 64) : (shrL x k).toBitVec = x.toBitVec.sshiftRight k.toNat := by
  unfold shrL
  rw [sh_amt h, Int64.toBitVec_shiftRight]
  rw [BitVec.sshiftRight_eq', sh_smod h]
theorem shlL_bv {x : Int64} {k : Int} (h : 0 ≤ k ∧ k < 64) : (shlL x k).toBitVec = x.toBitVec <<< k.toNat := by
  unfold shlL
  rw [sh_amt h, Int64.toBitVec_shiftLeft]
  rw [BitVec.shiftLeft_eq', sh_smod h]
theorem l2I_small {y : Int64} {n : Nat} (h : y.toBitVec = BitVec.ofNat 64 n) (hn : n < 4) : l2I y = n := by
  have : ∀ n : Nat, n < 4 → l2I (Int64.ofBitVec (BitVec.ofNat 64 n)) = n := by decide +kernel
  rw [← this n hn]
  congr 1
  exact Int64.toBitVec.inj h
theorem qd_bits {x : Int64} {k : Int} (h : 0 ≤ k ∧ k < 32) : qd x k = b2i (x.toBitVec.getLsbD (2 * k).toNat) + 2 * b2i (x.toBitVec.getLsbD ((2 * k).toNat + 1)) := by
  have e : (shrL x (2 * k) &&& 3).toBitVec = BitVec.ofNat 64 ((x.toBitVec.sshiftRight (2 * k).toNat).toNat % 4) := by
    rw [Int64.toBitVec_and, shrL_bv (by omega)]
    apply BitVec.eq_of_toNat_eq
    rw [BitVec.toNat_and, BitVec.toNat_ofNat]
    have : (3 : Int64).toBitVec.toNat = 2 ^ 2 - 1 := by decide
    rw [this, Nat.and_two_pow_sub_one_eq_mod]
    omega
  unfold qd
  rw [l2I_small e (Nat.mod_lt _ (by omega)), nat4]
  congr 1
  · congr 1
    show (x.toBitVec.sshiftRight (2 * k).toNat).getLsbD 0 = _
    rw [BitVec.getLsbD_sshiftRight]
    simp only [Nat.add_zero]
    rw [if_pos (by omega)]
    simp
  · congr 2
    show (x.toBitVec.sshiftRight (2 * k).toNat).getLsbD 1 = _
    rw [BitVec.getLsbD_sshiftRight]
    rw [if_pos (by omega)]
    simp
theorem qd_zero {k : Int} (h : 0 ≤ k ∧ k < 32) : qd 0 k = 0 := by
  rw [qd_bits h]
  simp [b2i]
theorem sm_bits {s : Int} (h : 0 ≤ s ∧ s ≤ 3) : b2i ((Int64.ofInt s).toBitVec.getLsbD 0) + 2 * b2i ((Int64.ofInt s).toBitVec.getLsbD 1) = s ∧ ∀ i, 2 ≤ i → (Int64.ofInt s).toBitVec.getLsbD i = false := by
  have key : ∀ n : Nat, n < 4 → b2i ((Int64.ofInt n).toBitVec.getLsbD 0) + 2 * b2i ((Int64.ofInt n).toBitVec.getLsbD 1) = n ∧ ∀ i, i < 64 → 2 ≤ i → (Int64.ofInt n).toBitVec.getLsbD i = false := by decide +kernel
  obtain ⟨n, rfl⟩ : ∃ n : Nat, s = n := ⟨s.toNat, by omega⟩
  obtain ⟨k1, k2⟩ := key n (by omega)
  refine ⟨k1, fun i hi => ?_⟩
  by_cases q : i < 64
  · exact k2 i q hi
  · exact BitVec.getLsbD_of_ge _ _ (by omega)
theorem qd_or {x : Int64} {s j k : Int} (hs : 0 ≤ s ∧ s ≤ 3) (hj : 0 ≤ j ∧ j < 32) (hk : 0 ≤ k ∧ k < 32) (hz : qd x j = 0) : qd (x ||| shlL (Int64.ofInt s) (2 * j)) k = if k = j then s else qd x k := by
  obtain ⟨s1, s2⟩ := sm_bits hs
  have bit : ∀ i, i < 64 → (x ||| shlL (Int64.ofInt s) (2 * j)).toBitVec.getLsbD i = (x.toBitVec.getLsbD i || (!decide (i < (2 * j).toNat) && (Int64.ofInt s).toBitVec.getLsbD (i - (2 * j).toNat))) := by
    intro i hi
    rw [Int64.toBitVec_or, shlL_bv (by omega), BitVec.getLsbD_or, BitVec.getLsbD_shiftLeft, decide_eq_true hi, Bool.true_and]
  rw [qd_bits hk, bit _ (by omega), bit _ (by omega)]
  by_cases e : k = j
  · subst e
    rw [if_pos rfl]
    rw [qd_bits hk] at hz
    have z0 : x.toBitVec.getLsbD (2 * k).toNat = false := by
      cases q : x.toBitVec.getLsbD (2 * k).toNat with
      | false => rfl
      | true =>
        rw [q, b2i_t] at hz
        have := b2i_b (x.toBitVec.getLsbD ((2 * k).toNat + 1))
        omega
    have z1 : x.toBitVec.getLsbD ((2 * k).toNat + 1) = false := by
      cases q : x.toBitVec.getLsbD ((2 * k).toNat + 1) with
      | false => rfl
      | true =>
        rw [q, b2i_t] at hz
        have := b2i_b (x.toBitVec.getLsbD (2 * k).toNat)
        omega
    rw [z0, z1, show (2 * k).toNat - (2 * k).toNat = 0 by omega, show (2 * k).toNat + 1 - (2 * k).toNat = 1 by omega]
    simp only [Bool.false_or]
    rw [decide_eq_false (by omega : ¬ (2 * k).toNat < (2 * k).toNat), decide_eq_false (by omega : ¬ (2 * k).toNat + 1 < (2 * k).toNat), Bool.not_false, Bool.true_and, Bool.true_and]
    exact s1
  · rw [if_neg e, qd_bits hk]
    have f : ∀ i, i = (2 * k).toNat ∨ i = (2 * k).toNat + 1 → (!decide (i < (2 * j).toNat) && (Int64.ofInt s).toBitVec.getLsbD (i - (2 * j).toNat)) = false := by
      intro i hi
      by_cases q : i < (2 * j).toNat
      · rw [decide_eq_true q, Bool.not_true, Bool.false_and]
      · rw [s2 _ (by omega), Bool.and_false]
    rw [f _ (Or.inl rfl), f _ (Or.inr rfl), Bool.or_false, Bool.or_false]
