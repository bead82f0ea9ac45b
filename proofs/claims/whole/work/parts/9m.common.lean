theorem lim0 {f : Int → Int64} {v : Int} (hf : NW6 f v) : (f 0).toInt % 2 = v % 2 := by
  have s := VS.cons (g := f) (b := 0) (n := 5)
  have e : VS f 0 (5 + 1) = v := hf.2
  rw [e] at s
  omega
theorem tI_and1 (x : Int64) : (x &&& 1).toInt = x.toInt % 2 := by
  have e : (x &&& 1).toBitVec.toNat = x.toBitVec.toNat % 2 := by
    rw [Int64.toBitVec_and, BitVec.toNat_and]
    have : (1 : Int64).toBitVec.toNat = 1 := by decide
    rw [this, Nat.and_one_is_mod]
  rw [tI_bv e (by omega)]
  have := tI_mod x
  omega
theorem odd1 {x : Int64} : lcI (x &&& 1) 0 = 0 ↔ x.toInt % 2 = 0 := by rw [lc0_zero, tI_and1]
theorem and_or1 (x y : Int64) : (x ||| y) &&& 1 = (x &&& 1) ||| (y &&& 1) := by
  apply Int64.toBitVec_inj.1
  rw [Int64.toBitVec_and, Int64.toBitVec_or, Int64.toBitVec_or, Int64.toBitVec_and, Int64.toBitVec_and]
  apply BitVec.eq_of_getLsbD_eq
  intro i _
  rw [BitVec.getLsbD_and, BitVec.getLsbD_or, BitVec.getLsbD_or, BitVec.getLsbD_and, BitVec.getLsbD_and]
  cases x.toBitVec.getLsbD i <;> cases y.toBitVec.getLsbD i <;> cases (1 : Int64).toBitVec.getLsbD i <;> rfl
theorem odd2 {x y : Int64} : lcI ((x ||| y) &&& 1) 0 = 0 ↔ x.toInt % 2 = 0 ∧ y.toInt % 2 = 0 := by
  rw [lc_zero, and_or1, or_zero]
  have k : ∀ z : Int64, z &&& 1 = 0 ↔ z.toInt % 2 = 0 := fun z => by rw [← tI_and1]; exact ⟨fun h => by rw [h]; rfl, fun h => tI_inj (h.trans rfl)⟩
  rw [k, k]
theorem s_shiftDown57 {post : (Int → Int64) → Prop} {f : Int → Int64} {v : Int} {k : Nat} (hf : NW6 f v) (hk : 1 ≤ k ∧ k ≤ 30) (hp : ∀ f', NW6 f' (v / pw2 k) → post f') : P_X10_shiftDown_57 post f k := (s_shiftDown hf hk hp : P_X10_shiftDown_56 post f k)
theorem s_twosOf57 {post : Int → Prop} {f : Int → Int64} {v : Int} (hf : NW6 f v) (he : v % 2 = 0) (hp : ∀ k : Nat, 1 ≤ k → k ≤ 30 → pw2 k ∣ v → post k) : P_X10_twosOf_57 post f := (s_twosOf hf he hp : P_X10_twosOf_56 post f)
theorem s_isZero57 {post : Int → Prop} {f : Int → Int64} {v : Int} (hf : NW6 f v) (hp : ∀ u : Int, (u = 0 ∨ u = 1) → (u = 1 ↔ v = 0) → post u) : P_X10_isZero_57 post f := (s_isZero hf hp : P_X10_isZero_53 post f)
theorem s_isZero52 {post : Int → Prop} {f : Int → Int64} {v : Int} (hf : NW6 f v) (hp : ∀ u : Int, (u = 0 ∨ u = 1) → (u = 1 ↔ v = 0) → post u) : P_X10_isZero_52 post f := (s_isZero hf hp : P_X10_isZero_53 post f)
/-- is the second less than the first -/
theorem s_isLess5756 {post : Int → Prop} {f g : Int → Int64} {v u : Int} (hf : NW6 f v) (hg : NW6 g u) (hp : ∀ t : Int, (t = 0 ∨ t = 1) → (t = 1 ↔ v < u) → post t) : P_X10_isLess_57_56 post g f := (s_isLess hf hg hp : P_X10_isLess_57_53 post g f)
theorem s_sub5756 {post : (Int → Int64) → Prop} {f g : Int → Int64} {v u : Int} (hf : NW6 f v) (hg : NW6 g u) (hl : u ≤ v) (hp : ∀ f', NW6 f' (v - u) → post f') : P_X10_subtract_57_56 post g f := (s_subtract hf hg hl hp : P_X10_subtract_57_53 post g f)
theorem s_sub5657 {post : (Int → Int64) → Prop} {f g : Int → Int64} {v u : Int} (hf : NW6 f v) (hg : NW6 g u) (hl : u ≤ v) (hp : ∀ f', NW6 f' (v - u) → post f') : P_X10_subtract_56_57 post f g := (s_subtract hf hg hl hp : P_X10_subtract_57_53 post g f)
theorem s_scale56 {post : (Int → Int64) → Prop} {f : Int → Int64} {v k : Int} (hf : NW6 f v) (hk : 0 ≤ k ∧ k ≤ 65536) (hb : v * k < PB 6) (hp : ∀ f', NW6 f' (v * k) → post f') : P_X10_scale_56 post f k := (s_scale54 hf hk hb hp : P_X10_scale_54 post f k)
/-- gcd over integers that are not negative -/
def gz (a b : Int) : Int := ((Nat.gcd a.toNat b.toNat : Nat) : Int)
theorem gz_nat (a b : Nat) : gz a b = ((Nat.gcd a b : Nat) : Int) := rfl
theorem gz_even {a b : Int} {k : Nat} (ha : 0 ≤ a) (ho : b % 2 = 1) (hb : 0 ≤ b) (hd : pw2 k ∣ a) : gz (a / pw2 k) b = gz a b := by
  obtain ⟨c, rfl⟩ := hd
  have p := pw2_pos k
  rw [Int.mul_ediv_cancel_left _ (by omega)]
  have c0 : 0 ≤ c := by
    apply Classical.byContradiction
    intro q
    have : pw2 k * c ≤ pw2 k * (-1) := Int.mul_le_mul_of_nonneg_left (by omega) (Int.le_of_lt p)
    omega
  obtain ⟨cn, rfl⟩ := Int.eq_ofNat_of_zero_le c0
  obtain ⟨bn, rfl⟩ := Int.eq_ofNat_of_zero_le hb
  rw [pw2_nat, ← Int.natCast_mul, gz_nat, gz_nat]
  have cop : Nat.Coprime 2 bn := by
    show Nat.gcd 2 bn = 1
    rw [Nat.gcd_rec, show bn % 2 = 1 by omega]
    rfl
  rw [Nat.Coprime.gcd_mul_left_cancel cn (Nat.Coprime.pow_left k cop)]
theorem gz_comm (a b : Int) : gz a b = gz b a := by unfold gz; rw [Nat.gcd_comm]
theorem gz_sub {a b : Int} (h : b ≤ a) (hb : 0 ≤ b) : gz (a - b) b = gz a b := by
  unfold gz
  rw [show (a - b).toNat = a.toNat - b.toNat by omega, Nat.gcd_sub_self_left (by omega)]
theorem gz_mul {a b k : Int} (ha : 0 ≤ a) (hb : 0 ≤ b) (hk : 0 ≤ k) : gz (a * k) (b * k) = gz a b * k := by
  obtain ⟨an, rfl⟩ := Int.eq_ofNat_of_zero_le ha
  obtain ⟨bn, rfl⟩ := Int.eq_ofNat_of_zero_le hb
  obtain ⟨kn, rfl⟩ := Int.eq_ofNat_of_zero_le hk
  rw [← Int.natCast_mul, ← Int.natCast_mul, gz_nat, gz_nat, Nat.gcd_mul_right]
  rfl
theorem gz_zero {a : Int} (ha : 0 ≤ a) : gz a 0 = a := by
  unfold gz
  show ((Nat.gcd a.toNat 0 : Nat) : Int) = a
  rw [Nat.gcd_zero_right]
  omega
theorem gz_le {a b : Int} (ha : 0 < a) : gz a b ≤ a := by
  have := Nat.gcd_le_left b.toNat (show 0 < a.toNat by omega)
  unfold gz
  omega
theorem gz_pos {a b : Int} (ha : 0 < a) : 0 < gz a b := by
  have := Nat.gcd_pos_of_pos_left b.toNat (show 0 < a.toNat by omega)
  unfold gz
  omega
theorem gz_dvd {a b : Int} (ha : 0 ≤ a) (hb : 0 ≤ b) : gz a b ∣ a ∧ gz a b ∣ b := by
  obtain ⟨an, rfl⟩ := Int.eq_ofNat_of_zero_le ha
  obtain ⟨bn, rfl⟩ := Int.eq_ofNat_of_zero_le hb
  rw [gz_nat]
  exact ⟨Int.natCast_dvd_natCast.2 (Nat.gcd_dvd_left _ _), Int.natCast_dvd_natCast.2 (Nat.gcd_dvd_right _ _)⟩
theorem half_lt {a : Int} {p k : Nat} (h : a < pw2 (p + 1)) (hk : 1 ≤ k) (ha : 0 ≤ a) : a / pw2 k < pw2 p := by
  have e : pw2 (p + 1) = 2 * pw2 p := rfl
  have k2 : 2 ≤ pw2 k := by
    obtain ⟨j, rfl⟩ : ∃ j, k = j + 1 := ⟨k - 1, by omega⟩
    have := pw2_pos j
    show 2 ≤ 2 * pw2 j
    omega
  refine Int.ediv_lt_of_lt_mul (pw2_pos k) ?_
  have : pw2 p * 2 ≤ pw2 p * pw2 k := Int.mul_le_mul_of_nonneg_left k2 (Int.le_of_lt (pw2_pos p))
  omega
theorem div_pos {a : Int} {k : Nat} (h : 0 < a) (hd : pw2 k ∣ a) : 0 < a / pw2 k := by
  obtain ⟨c, rfl⟩ := hd
  have p := pw2_pos k
  rw [Int.mul_ediv_cancel_left _ (by omega)]
  apply Classical.byContradiction
  intro q
  have : pw2 k * c ≤ pw2 k * 0 := Int.mul_le_mul_of_nonneg_left (by omega) (Int.le_of_lt p)
  omega
def bo (a b : Int) : Nat := if a % 2 = 1 ∧ b % 2 = 1 then 1 else 0
theorem bo_le (a b : Int) : bo a b ≤ 1 := by unfold bo; split <;> omega
theorem s_common {post : (Int → Int64) → (Int → Int64) → Prop} {a0 b0 : Int → Int64} {A B : Int} (ha : NW6 a0 A) (hb : NW6 b0 B) (hA : 0 < A) (hB : 0 < B) (hp : ∀ a b, NW6 a (gz A B) → post a b) : P_X10_toCommonDivisor_56_57 post a0 b0 := by
  have e6 : PB 6 = pw2 186 := PB_pw2 6
  unfold P_X10_toCommonDivisor_56_57
  refine ⟨fun n x a b => n = (186 - x).toNat ∧ 0 ≤ x ∧ x ≤ 186 ∧ ∃ u w : Int, NW6 a u ∧ NW6 b w ∧ A = u * pw2 x.toNat ∧ B = w * pw2 x.toNat ∧ 0 < u ∧ 0 < w, ⟨_, rfl, by omega, by omega, A, B, ha, hb, by show A = A * 1; omega, by show B = B * 1; omega, hA, hB⟩, ?_⟩
  rintro n x a b rx ⟨rfl, b1, b2, u, w, hu, hw, eA, eB, u0, w0⟩
  have Ab := ha.b
  refine ⟨x < 186 ∧ ¬ (u % 2 = 0 ∧ w % 2 = 0), ⟨fun y => ?_, fun y v1 e1 v2 e2 => ⟨fun z => ⟨by omega, fun q => z (odd2.2 ?_)⟩, fun z => ?_⟩⟩, ?_⟩
  · have ex : x = 186 := by omega
    subst ex
    exfalso
    have : 1 * pw2 186 ≤ u * pw2 186 := Int.mul_le_mul_of_nonneg_right (by omega) (Int.le_of_lt (pw2_pos _))
    have eA' : A = u * pw2 186 := eA
    omega
  · rw [e1, e2, lim0 hu, lim0 hw]; exact q
  · have z2 := odd2.1 z
    rw [e1, e2, lim0 hu, lim0 hw] at z2
    refine (s_shiftDown (k := 1) hu (by omega) (fun a' ha' => ?_) : P_X10_shiftDown_56 _ a ((1 : Nat) : Int))
    refine (s_shiftDown57 (k := 1) hw (by omega) (fun b' hb' => ?_) : P_X10_shiftDown_57 _ b ((1 : Nat) : Int))
    have pe : pw2 1 = 2 := rfl
    rw [pe] at ha' hb'
    have px : pw2 (x + 1).toNat = 2 * pw2 x.toNat := by rw [show (x + 1).toNat = x.toNat + 1 by omega]; rfl
    have un : u = u / 2 * 2 := by omega
    have wn : w = w / 2 * 2 := by omega
    refine nx (by omega) ⟨_, ?_, rfl, by omega, by omega, u / 2, w / 2, ha', hb', ?_, ?_, by omega, by omega⟩
    · omega
    · rw [px, ← Int.mul_assoc, ← un]; exact eA
    · rw [px, ← Int.mul_assoc, ← wn]; exact eB
  rintro ⟨x186, no⟩
  have hub := hu.b
  have hwb := hw.b
  refine ⟨fun n s a' b' => n = (744 - s).toNat ∧ 0 ≤ s ∧ s ≤ 744 ∧ ∃ u' w' : Int, NW6 a' u' ∧ NW6 b' w' ∧ 0 < u' ∧ 0 ≤ w' ∧ ¬ (u' % 2 = 0 ∧ w' % 2 = 0) ∧ gz u' w' = gz u w ∧ ∃ p q : Nat, u' < pw2 p ∧ w' < pw2 q ∧ s + 2 * p + 2 * q + bo u' w' ≤ 745, ⟨_, rfl, by omega, by omega, u, w, hu, hw, u0, by omega, no, rfl, 186, 186, by omega, by omega, by have := bo_le u w; omega⟩, ?_⟩
  rintro n s a' b' rs ⟨rfl, c1, c2, u', w', hu', hw', u0', w0', no', eg, p, q, pu, pq, pot⟩
  -- a number above 0 has a bit
  have p1 : 1 ≤ p := by
    cases p with
    | zero => exact absurd pu (by show ¬ u' < 1; omega)
    | succ p => omega
  have q1 : 0 < w' → 1 ≤ q := by
    intro h
    cases q with
    | zero => exact absurd pq (by show ¬ w' < 1; omega)
    | succ q => omega
  refine ⟨w' = 0, ⟨fun y => ?_, fun y => ?_⟩, ?_⟩
  · apply Classical.byContradiction
    intro k
    have := q1 (by omega)
    omega
  · refine s_isZero57 hw' (fun t t01 it => ?_)
    intro _
    refine ⟨fun k => it.1 (t01.resolve_left k), fun k v1 e1 => ?_⟩
    have wn : ¬ w' = 0 := fun r => by have := it.2 r; rw [k] at this; exact absurd this (by decide)
    have wp : 0 < w' := by omega
    have q1' := q1 wp
    clear it
    refine ⟨fun a2 b2 => ∃ u2 w2 : Int, NW6 a2 u2 ∧ NW6 b2 w2 ∧ 0 < u2 ∧ 0 ≤ w2 ∧ ¬ (u2 % 2 = 0 ∧ w2 % 2 = 0) ∧ gz u2 w2 = gz u w ∧ ∃ p q : Nat, u2 < pw2 p ∧ w2 < pw2 q ∧ s + 1 + 2 * p + 2 * q + bo u2 w2 ≤ 745, ⟨fun o1 v2 e2 => ⟨fun o2 => ?_, fun o2 => ?_⟩, fun o1 => ?_⟩, ?_⟩
    · -- both odd
      have ou : u' % 2 = 1 := by
        have h : ¬ u' % 2 = 0 := fun r => o1 (odd1.2 (by rw [e1, lim0 hu']; exact r))
        omega
      have ow : w' % 2 = 1 := by
        have h : ¬ w' % 2 = 0 := fun r => o2 (odd1.2 (by rw [e2, lim0 hw']; exact r))
        omega
      have eb : bo u' w' = 1 := if_pos ⟨ou, ow⟩
      refine s_isLess5756 hw' hu' (fun t t01 it => ?_)
      intro _
      refine ⟨fun z => ?_, fun z => ?_⟩
      · have le : u' ≤ w' := by
          apply Classical.byContradiction
          intro r
          have := it.2 (by omega)
          rw [z] at this
          exact absurd this (by decide)
        refine s_sub5756 hw' hu' le (fun b2 hb2 => ?_)
        refine ⟨u', w' - u', hu', hb2, u0', by omega, by omega, ?_, p, q, pu, by omega, ?_⟩
        · rw [gz_comm, gz_sub le (by omega), gz_comm]; exact eg
        · have : bo u' (w' - u') = 0 := if_neg (by omega)
          omega
      · have lt := it.1 (t01.resolve_left z)
        clear it
        refine s_sub5657 hu' hw' (by omega) (fun a2 ha2 => ?_)
        refine ⟨u' - w', w', ha2, hw', by omega, by omega, by omega, ?_, p, q, by omega, pq, ?_⟩
        · rw [gz_sub (by omega) (by omega)]; exact eg
        · have : bo (u' - w') w' = 0 := if_neg (by omega)
          omega
    · have ew : w' % 2 = 0 := by
        have h := odd1.1 o2
        rw [e2, lim0 hw'] at h
        exact h
      refine s_twosOf57 hw' ew (fun k2 k1 k30 kd => ?_)
      intro _
      refine s_shiftDown57 hw' ⟨k1, k30⟩ (fun b2 hb2 => ?_)
      obtain ⟨q', rfl⟩ : ∃ q', q = q' + 1 := ⟨q - 1, by omega⟩
      have dp := div_pos wp kd
      refine ⟨u', w' / pw2 k2, hu', hb2, u0', by omega, fun r => no' ⟨r.1, ew⟩, ?_, p, q', pu, half_lt pq k1 w0', ?_⟩
      · rw [gz_comm, gz_even w0' (by omega) (by omega) kd, gz_comm]; exact eg
      · have := bo_le u' (w' / pw2 k2)
        omega
    · have eu : u' % 2 = 0 := by
        have h := odd1.1 o1
        rw [e1, lim0 hu'] at h
        exact h
      refine s_twosOf hu' eu (fun k2 k1 k30 kd => ?_)
      intro _
      refine s_shiftDown hu' ⟨k1, k30⟩ (fun a2 ha2 => ?_)
      obtain ⟨p', rfl⟩ : ∃ p', p = p' + 1 := ⟨p - 1, by omega⟩
      have dp := div_pos u0' kd
      refine ⟨u' / pw2 k2, w', ha2, hw', dp, w0', fun r => no' ⟨eu, r.2⟩, ?_, p', q, half_lt pu k1 (by omega), pq, ?_⟩
      · rw [gz_even (by omega) (by omega) w0' kd]; exact eg
      · have := bo_le (u' / pw2 k2) w'
        omega
    · rintro a2 b2 ⟨u2, w2, h1, h2, h3, h4, h5, h6, p2, q2, h7, h8, h9⟩
      exact nx (by omega) ⟨_, by omega, rfl, by omega, by omega, u2, w2, h1, h2, h3, h4, h5, h6, p2, q2, h7, h8, h9⟩
  · intro wz
    subst wz
    rw [gz_zero (by omega)] at eg
    subst eg
    have pwx := pw2_pos x.toNat
    have gle : gz u w * pw2 x.toNat = gz A B := by rw [eA, eB, gz_mul (by omega) (by omega) (by omega)]
    have gl := gz_le (a := A) (b := B) hA
    refine ⟨fun n i a2 => n = (x - i).toNat ∧ 0 ≤ i ∧ i ≤ x ∧ NW6 a2 (gz u w * pw2 i.toNat), ⟨_, rfl, by omega, by omega, ?_⟩, ?_⟩
    · show NW6 a' (gz u w * 1)
      rw [Int.mul_one]
      exact hu'
    rintro n i a2 ri ⟨rfl, d1, d2, d3⟩
    refine ⟨fun y => hp a2 b' ?_, fun y => ?_⟩
    · have : i = x := by omega
      subst this
      rw [← gle]
      exact d3
    · have pi : pw2 (i + 1).toNat = 2 * pw2 i.toNat := by rw [show (i + 1).toNat = i.toNat + 1 by omega]; rfl
      have ei : gz u w * pw2 i.toNat * 2 = gz u w * pw2 (i + 1).toNat := by rw [pi, Int.mul_comm 2, Int.mul_assoc]
      have le : gz u w * pw2 (i + 1).toNat ≤ gz u w * pw2 x.toNat := by
        refine Int.mul_le_mul_of_nonneg_left ?_ (by omega)
        have : pw2 x.toNat = pw2 (i + 1).toNat * pw2 (x.toNat - (i + 1).toNat) := by rw [← pw2_add]; congr 1; omega
        rw [this]
        have h1 := pw2_pos (x.toNat - (i + 1).toNat)
        have : pw2 (i + 1).toNat * 1 ≤ pw2 (i + 1).toNat * pw2 (x.toNat - (i + 1).toNat) := Int.mul_le_mul_of_nonneg_left (by omega) (Int.le_of_lt (pw2_pos _))
        omega
      refine s_scale56 (k := 2) d3 (by omega) (by omega) (fun a3 ha3 => ?_)
      refine nx (by omega) ⟨_, by omega, rfl, by omega, by omega, ?_⟩
      rw [← ei]
      exact ha3
