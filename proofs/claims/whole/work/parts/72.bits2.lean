/-! bits of small integers -/
theorem iI_bv {n : Nat} : (iI (n : Int)).toBitVec = BitVec.ofNat 32 n := by
  show (Int32.ofInt (n : Int)).toBitVec = _
  rw [Int32.toBitVec_ofInt]
  exact BitVec.ofInt_natCast 32 n
theorem bv_toInt {x : BitVec 32} {k : Nat} (h : x.toNat = k) (hk : k < 2147483648) : x.toInt = (k : Int) := by
  rw [BitVec.toInt_eq_toNat_of_lt (by rw [h]; omega), h]
theorem andI_nat {n m : Nat} (hn : n < 2147483648) (hm : m < 2147483648) : andI n m = ((n &&& m : Nat) : Int) := by
  have hb : n &&& m < 2147483648 := Nat.lt_of_le_of_lt Nat.and_le_left hn
  show (iI n &&& iI m).toBitVec.toInt = _
  rw [Int32.toBitVec_and, iI_bv, iI_bv]
  refine bv_toInt ?_ hb
  rw [BitVec.toNat_and, BitVec.toNat_ofNat, BitVec.toNat_ofNat, Nat.mod_eq_of_lt (by omega), Nat.mod_eq_of_lt (by omega)]
theorem orI_nat {n m : Nat} (hn : n < 2147483648) (hm : m < 2147483648) : orI n m = ((n ||| m : Nat) : Int) := by
  have hb : n ||| m < 2147483648 := Nat.or_lt_two_pow (n := 31) hn hm
  show (iI n ||| iI m).toBitVec.toInt = _
  rw [Int32.toBitVec_or, iI_bv, iI_bv]
  refine bv_toInt ?_ hb
  rw [BitVec.toNat_or, BitVec.toNat_ofNat, BitVec.toNat_ofNat, Nat.mod_eq_of_lt (by omega), Nat.mod_eq_of_lt (by omega)]
theorem shlI_one : ∀ k : Nat, k ≤ 30 → shlI 1 k = ((2 ^ k : Nat) : Int) := by decide
theorem and31 : ∀ k : Nat, k ≤ 31 → (iI k &&& 31) = iI k := by decide
theorem shrI_nat {n k : Nat} (hn : n < 2147483648) (hk : k ≤ 30) : shrI n k = ((n / 2 ^ k : Nat) : Int) := by
  have hb : n / 2 ^ k < 2147483648 := Nat.lt_of_le_of_lt (Nat.div_le_self _ _) hn
  have e1 : (iI (n : Int)).toInt = n := iI_toInt ⟨by omega, by omega⟩
  have e2 : (iI (k : Int)).toInt = k := iI_toInt ⟨by omega, by omega⟩
  show (iI n >>> (iI k &&& 31)).toInt = _
  rw [and31 k (by omega)]
  show (iI n >>> iI k).toBitVec.toInt = _
  have e3 : (iI n >>> iI k).toBitVec = (iI (n : Int)).toBitVec.sshiftRight' ((iI (k : Int)).toBitVec.smod 32) := rfl
  rw [e3, iI_bv, iI_bv]
  have e4 : (BitVec.ofNat 32 k).smod 32 = BitVec.ofNat 32 k := by
    have : ∀ k : Nat, k ≤ 30 → (BitVec.ofNat 32 k).smod 32 = BitVec.ofNat 32 k := by decide
    exact this k hk
  rw [e4]
  rw [BitVec.sshiftRight_eq', BitVec.toInt_sshiftRight]
  have e5 : (BitVec.ofNat 32 n).toInt = n := bv_toInt (by rw [BitVec.toNat_ofNat, Nat.mod_eq_of_lt (by omega)]) hn
  have e6 : (BitVec.ofNat 32 k).toNat = k := by rw [BitVec.toNat_ofNat, Nat.mod_eq_of_lt (by omega)]
  rw [e5, e6]
  rw [Int.shiftRight_eq_div_pow]
  norm_cast
/-- bit i of an integer that is not below 0 -/
def tb (z i : Int) : Prop := z.toNat.testBit i.toNat = true
def sm (z : Int) : Prop := 0 ≤ z ∧ z < 2147483648
theorem sm_nat {z : Int} (h : sm z) : ∃ n : Nat, z = n ∧ n < 2147483648 := ⟨z.toNat, by have := h.1; omega, by have := h.2; have := h.1; omega⟩
theorem or_sm {a b : Int} (ha : sm a) (hb : sm b) : sm (orI a b) := by
  obtain ⟨n, rfl, hn⟩ := sm_nat ha
  obtain ⟨m, rfl, hm⟩ := sm_nat hb
  rw [orI_nat hn hm]
  have : n ||| m < 2147483648 := Nat.or_lt_two_pow (n := 31) hn hm
  exact ⟨by omega, by omega⟩
theorem and_sm {a b : Int} (ha : sm a) (hb : sm b) : sm (andI a b) := by
  obtain ⟨n, rfl, hn⟩ := sm_nat ha
  obtain ⟨m, rfl, hm⟩ := sm_nat hb
  rw [andI_nat hn hm]
  have : n &&& m < 2147483648 := Nat.lt_of_le_of_lt Nat.and_le_left hn
  exact ⟨by omega, by omega⟩
theorem tb_or {a b i : Int} (ha : sm a) (hb : sm b) : tb (orI a b) i ↔ tb a i ∨ tb b i := by
  obtain ⟨n, rfl, hn⟩ := sm_nat ha
  obtain ⟨m, rfl, hm⟩ := sm_nat hb
  rw [orI_nat hn hm]
  unfold tb
  rw [Int.toNat_natCast, Int.toNat_natCast, Int.toNat_natCast, Nat.testBit_or, Bool.or_eq_true]
theorem tb_and {a b i : Int} (ha : sm a) (hb : sm b) : tb (andI a b) i ↔ tb a i ∧ tb b i := by
  obtain ⟨n, rfl, hn⟩ := sm_nat ha
  obtain ⟨m, rfl, hm⟩ := sm_nat hb
  rw [andI_nat hn hm]
  unfold tb
  rw [Int.toNat_natCast, Int.toNat_natCast, Int.toNat_natCast, Nat.testBit_and, Bool.and_eq_true]
theorem shl_sm {k : Int} (h0 : 0 ≤ k) (h1 : k ≤ 30) : sm (shlI 1 k) ∧ 0 < shlI 1 k := by
  obtain ⟨n, rfl⟩ := Int.eq_ofNat_of_zero_le h0
  rw [shlI_one n (by omega)]
  have : 2 ^ n < 2 ^ 31 := Nat.pow_lt_pow_right (by omega) (by omega)
  have : 0 < 2 ^ n := Nat.two_pow_pos n
  exact ⟨⟨by omega, by omega⟩, by omega⟩
theorem tb_shl {k i : Int} (h0 : 0 ≤ k) (h1 : k ≤ 30) (hi : 0 ≤ i) : tb (shlI 1 k) i ↔ i = k := by
  obtain ⟨n, rfl⟩ := Int.eq_ofNat_of_zero_le h0
  obtain ⟨m, rfl⟩ := Int.eq_ofNat_of_zero_le hi
  rw [shlI_one n (by omega)]
  unfold tb
  rw [Int.toNat_natCast, Int.toNat_natCast, Nat.testBit_two_pow, decide_eq_true_eq]
  omega
theorem tb_zero {i : Int} : ¬ tb 0 i := by
  unfold tb
  rw [show (0 : Int).toNat = 0 from rfl, Nat.zero_testBit]
  exact Bool.false_ne_true
theorem sm_zero : sm 0 := ⟨Int.le_refl _, by decide⟩
theorem tb_ne {z : Int} (h : sm z) : ¬ z = 0 ↔ ∃ i, 0 ≤ i ∧ tb z i := by
  obtain ⟨n, rfl, hn⟩ := sm_nat h
  constructor
  · intro k
    obtain ⟨i, hi⟩ := Nat.exists_testBit_of_ne_zero (show n ≠ 0 by omega)
    exact ⟨i, by omega, by unfold tb; rw [Int.toNat_natCast, Int.toNat_natCast]; exact hi⟩
  · rintro ⟨i, _, hi⟩ e
    rw [e] at hi
    exact tb_zero hi
theorem tb_lt {z i : Int} {k : Nat} (h : sm z) (hz : z < pw2 k) (hi : tb z i) (h0 : 0 ≤ i) : i < k := by
  have e : ∀ k : Nat, pw2 k = ((2 ^ k : Nat) : Int) := by
    intro k
    induction k with
    | zero => rfl
    | succ k ih => show 2 * pw2 k = _; rw [ih, Nat.pow_succ]; omega
  obtain ⟨n, rfl, hn⟩ := sm_nat h
  obtain ⟨m, rfl⟩ := Int.eq_ofNat_of_zero_le h0
  unfold tb at hi
  rw [Int.toNat_natCast, Int.toNat_natCast] at hi
  rw [e k] at hz
  have hz' : n < 2 ^ k := by omega
  refine Int.ofNat_lt.2 (Nat.lt_of_not_le (fun q => ?_))
  rw [Nat.testBit_lt_two_pow (Nat.lt_of_lt_of_le hz' (Nat.pow_le_pow_right (by omega) q))] at hi
  exact Bool.false_ne_true hi
theorem pw2_nat (k : Nat) : pw2 k = ((2 ^ k : Nat) : Int) := by
  induction k with
  | zero => rfl
  | succ k ih => show 2 * pw2 k = _; rw [ih, Nat.pow_succ]; omega
theorem tb_bd {z : Int} {k : Nat} (h : sm z) (hb : ∀ i, 0 ≤ i → tb z i → i < k) : z < pw2 k := by
  obtain ⟨n, rfl, hn⟩ := sm_nat h
  rw [pw2_nat k]
  refine Int.ofNat_lt.2 (Nat.lt_pow_two_of_testBit n (fun i hi => ?_))
  refine Bool.eq_false_iff.2 (fun q => ?_)
  have := hb i (by omega) (by unfold tb; rw [Int.toNat_natCast, Int.toNat_natCast]; exact q)
  omega
/-- the bit that a shift brings down -/
theorem shr_and {z i : Int} (h : sm z) (h0 : 0 ≤ i) (h1 : i ≤ 30) : andI (shrI z i) 1 = iB (tb z i) := by
  obtain ⟨n, rfl, hn⟩ := sm_nat h
  obtain ⟨k, rfl⟩ := Int.eq_ofNat_of_zero_le h0
  rw [shrI_nat hn (by omega)]
  have hb : n / 2 ^ k < 2147483648 := Nat.lt_of_le_of_lt (Nat.div_le_self _ _) hn
  rw [show (1 : Int) = ((1 : Nat) : Int) from rfl, andI_nat hb (by omega)]
  have e : tb (n : Int) (k : Int) ↔ n / 2 ^ k % 2 = 1 := by
    unfold tb
    rw [Int.toNat_natCast, Int.toNat_natCast, Nat.testBit_eq_decide_div_mod_eq, decide_eq_true_eq]
  rw [Nat.and_one_is_mod]
  by_cases q : tb (n : Int) (k : Int)
  · rw [iB_t q]
    have := e.1 q
    omega
  · rw [iB_f q]
    have : ¬ n / 2 ^ k % 2 = 1 := fun r => q (e.2 r)
    omega
theorem tb_succ {z i : Int} (h : 0 ≤ z) (hi : 0 ≤ i) : tb z (i + 1) ↔ tb (z / 2) i := by
  obtain ⟨n, rfl⟩ := Int.eq_ofNat_of_zero_le h
  obtain ⟨k, rfl⟩ := Int.eq_ofNat_of_zero_le hi
  unfold tb
  rw [show ((n : Int) / 2).toNat = n / 2 by omega, show ((k : Int) + 1).toNat = k + 1 by omega, Int.toNat_natCast, Int.toNat_natCast, Nat.testBit_add_one]
theorem tb_low {z : Int} (h : 0 ≤ z) : iB (tb z 0) = z % 2 := by
  obtain ⟨n, rfl⟩ := Int.eq_ofNat_of_zero_le h
  have e : tb (n : Int) 0 ↔ n % 2 = 1 := by
    unfold tb
    rw [Int.toNat_natCast, show (0 : Int).toNat = 0 from rfl, Nat.testBit_zero, decide_eq_true_eq]
  by_cases q : tb (n : Int) 0
  · rw [iB_t q]
    have := e.1 q
    omega
  · rw [iB_f q]
    have : ¬ n % 2 = 1 := fun r => q (e.2 r)
    omega
theorem sum_shift {n : Int} {f : Int → Int} (hn : 0 ≤ n) : sumL (cellsL (n + 1)) f = f 0 + sumL (cellsL n) (fun i => f (i + 1)) := by
  obtain ⟨k, rfl⟩ := Int.eq_ofNat_of_zero_le hn
  induction k with
  | zero =>
    rw [cells_succ (by omega), sumL_snoc]
    simp [cellsL, sumL]
  | succ k ih =>
    rw [cells_succ (by omega), sumL_snoc]
    rw [show ((k + 1 : Nat) : Int) = (k : Int) + 1 by omega, ih (by omega), cells_succ (by omega), sumL_snoc]
    omega
/-- the reference's table of bits -/
def BT (bt : Int → Int) : Prop := bt 0 = 0 ∧ ∀ k, 1 ≤ k → k < 65536 → bt k = bt (k / 2) + k % 2
theorem BT.sum {bt : Int → Int} (h : BT bt) : ∀ n : Nat, n ≤ 16 → ∀ z, 0 ≤ z → z < pw2 n → bt z = sumL (cellsL n) (fun i => iB (tb z i)) := by
  intro n
  induction n with
  | zero =>
    intro _ z h0 h1
    have : z < 1 := h1
    have e : z = 0 := by omega
    subst e
    rw [h.1]
    rfl
  | succ n ih =>
    intro hn z h0 h1
    have h1' : z < 2 * pw2 n := h1
    have hp : pw2 n ≤ pw2 15 := pw2_le (by omega)
    have hp2 : pw2 15 = 32768 := rfl
    rw [show ((n + 1 : Nat) : Int) = (n : Int) + 1 by omega, sum_shift (by omega), tb_low h0]
    have e : sumL (cellsL (n : Int)) (fun i => iB (tb z (i + 1))) = sumL (cellsL n) (fun i => iB (tb (z / 2) i)) := sumL_congr (fun i m => iB_iff (tb_succ h0 (mem_cells.1 m).1))
    rw [e, ← ih (by omega) (z / 2) (by omega) (by omega)]
    by_cases q : z = 0
    · subst q
      have : (0 : Int) / 2 = 0 := rfl
      rw [this, h.1]
      rfl
    · have := h.2 z (by omega) (by omega)
      omega
/-! sets as ways -/
def dec : List Int → Int → (Int → Int)
  | [], _ => fun _ => 0
  | d :: l, k => upZ (dec l (k / 2)) d (k % 2)
theorem sum_pairs {f : Int → Int} (n : Nat) : sumL (cellsL (2 * (n : Int))) f = sumL (cellsL (n : Int)) (fun j => f (2 * j) + f (2 * j + 1)) := by
  induction n with
  | zero => rfl
  | succ n ih =>
    rw [show 2 * (((n + 1 : Nat)) : Int) = 2 * (n : Int) + 1 + 1 by omega, cells_succ (by omega), sumL_snoc, cells_succ (by omega), sumL_snoc, ih]
    rw [show ((n + 1 : Nat) : Int) = (n : Int) + 1 by omega, cells_succ (by omega), sumL_snoc]
    omega
theorem sum_dec {L : List Int} : ∀ {F : (Int → Int) → Int}, sumL (cellsL (pw2 L.length)) (fun k => F (dec L k)) = asum L F := by
  induction L with
  | nil =>
    intro F
    show sumL (cellsL 1) _ = F _
    simp [cellsL, sumL, dec]
  | cons d l ih =>
    intro F
    show sumL (cellsL (2 * pw2 l.length)) _ = asum l _ + asum l _
    obtain ⟨n, hn⟩ := Int.eq_ofNat_of_zero_le (Int.le_of_lt (pw2_pos l.length))
    rw [← ih, ← ih, hn, sum_pairs]
    refine sumL_add (fun j m => ?_)
    have e1 : (2 * j) / 2 = j := by omega
    have e2 : (2 * j) % 2 = 0 := by omega
    have e3 : (2 * j + 1) / 2 = j := by omega
    have e4 : (2 * j + 1) % 2 = 1 := by omega
    show F (upZ (dec l (2 * j / 2)) d (2 * j % 2)) + F (upZ (dec l ((2 * j + 1) / 2)) d ((2 * j + 1) % 2)) = _
    rw [e1, e2, e3, e4]
theorem dec_bn {L : List Int} : ∀ {k : Int}, Bn L (dec L k) := by
  induction L with
  | nil => intro k; exact Bn.zero
  | cons d l ih => intro k; exact ih.up (by omega)
theorem dec_get {L : List Int} (hn : L.Nodup) : ∀ {i : Nat} {k c : Int}, 0 ≤ k → L[i]? = some c → dec L k c = iB (tb k i) := by
  induction L with
  | nil => intro i k c _ h; simp at h
  | cons d l ih =>
    intro i k c hk h
    have hd := List.nodup_cons.1 hn
    cases i with
    | zero =>
      have e : d = c := by simpa using h
      subst e
      show upZ _ d _ d = _
      rw [upZ_s]
      exact (tb_low hk).symm
    | succ i =>
      have h' : l[i]? = some c := by simpa using h
      have ne : c ≠ d := fun e => hd.1 (e ▸ List.mem_of_getElem? h')
      show upZ _ d _ c = _
      rw [upZ_n _ _ ne, ih hd.2 (by omega) h']
      exact iB_iff (by rw [show ((i + 1 : Nat) : Int) = (i : Int) + 1 by omega]; exact (tb_succ hk (by omega)).symm)
