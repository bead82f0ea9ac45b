def Fr2 (g g' : Int → Int64) (r s : Int) : Prop := ∀ q v : Int, ¬ q = r → ¬ q = s → NW6 (rw6 g q) v → NW6 (rw6 g' q) v
theorem s_divideBy {post : (Int → Int64) → Prop} {g : Int → Int64} {a b A D : Int} (ha : 0 ≤ a ∧ a < 450) (hb : 0 ≤ b ∧ b < 450) (n1 : ¬ a = 439) (n2 : ¬ b = 439) (n3 : ¬ b = a) (hA : NW6 (rw6 g a) A) (hB : NW6 (rw6 g b) D) (hD : 0 < D) (hD2 : 2 * D ≤ PB 6) (hp : ∀ g', Fr2 g g' a 439 → NW6 (rw6 g' a) (A / D) → NW6 (rw6 g' 439) (A % D) → post g') : P_X12_divideBy post g a b := by
  have ab := hA.b
  unfold P_X12_divideBy
  refine s_putM (by omega) (by decide) (fun g1 f1 h1 => ?_)
  have top : A / pw2 186 = 0 := by
    have : PB 6 = pw2 186 := PB_pw2 6
    exact Int.ediv_eq_zero_of_lt ab.1 (by omega)
  have topm : A % pw2 186 = A := by
    have : PB 6 = pw2 186 := PB_pw2 6
    exact Int.emod_eq_of_lt ab.1 (by omega)
  refine ⟨fun n x g' => n = (x + 1).toNat ∧ -1 ≤ x ∧ x ≤ 185 ∧ Fr2 g g' a 439 ∧ NW6 (rw6 g' 439) (A / pw2 (x + 1).toNat % D) ∧ NW6 (rw6 g' a) (A / pw2 (x + 1).toNat / D * pw2 (x + 1).toNat + A % pw2 (x + 1).toNat), ⟨_, rfl, by omega, by omega, fun q v q1 q2 hq => f1.row q2 hq, ?_, ?_⟩, ?_⟩
  · show NW6 (rw6 g1 439) (A / pw2 186 % D)
    rw [top]
    exact h1
  · show NW6 (rw6 g1 a) (A / pw2 186 / D * pw2 186 + A % pw2 186)
    rw [top, Int.zero_ediv, Int.zero_mul, topm, Int.zero_add]
    exact f1.row n1 hA
  rintro n x g2 rx ⟨rfl, b1, b2, b3, b4, b5⟩
  refine ⟨fun y => ?_, fun y => ?_⟩
  · have e : x = -1 := by omega
    subst e
    refine hp g2 b3 ?_ ?_
    · have b5' : NW6 (rw6 g2 a) (A / 1 / D * 1 + A % 1) := b5
      rw [Int.ediv_one, Int.mul_one, Int.emod_one, Int.add_zero] at b5'
      exact b5'
    · have b4' : NW6 (rw6 g2 439) (A / 1 % D) := b4
      rw [Int.ediv_one] at b4'
      exact b4'
  have hx : 0 ≤ x := by omega
  have et : x.tdiv 31 = x / 31 := Int.tdiv_eq_ediv_of_nonneg hx
  have em : x.tmod 31 = x % 31 := Int.tmod_eq_emod_of_nonneg hx
  rw [et, em]
  have pp := pw2_pos x.toNat
  have p2 : pw2 (x + 1).toNat = 2 * pw2 x.toNat := by rw [show (x + 1).toNat = x.toNat + 1 by omega]; rfl
  -- the row's bit
  have rowbit : (A / pw2 (x + 1).toNat / D * pw2 (x + 1).toNat + A % pw2 (x + 1).toNat) / pw2 x.toNat % 2 = A / pw2 x.toNat % 2 := by
    have e1 : A / pw2 (x + 1).toNat / D * pw2 (x + 1).toNat + A % pw2 (x + 1).toNat = A + (2 * (A / pw2 (x + 1).toNat / D - A / pw2 (x + 1).toNat)) * pw2 x.toNat := by
      have h := Int.mul_ediv_add_emod A (pw2 (x + 1).toNat)
      rw [Int.mul_comm 2, Int.mul_assoc, ← p2, Int.sub_mul, Int.mul_comm (A / pw2 (x + 1).toNat) (pw2 (x + 1).toNat)]
      omega
    rw [e1, Int.add_mul_ediv_right _ _ (by omega)]
    omega
  have lowb : A % pw2 (x + 1).toNat = A / pw2 x.toNat % 2 * pw2 x.toNat + A % pw2 x.toNat := by
    have h := Int.mul_ediv_add_emod A (pw2 x.toNat)
    have h2 := Int.mul_ediv_add_emod (A / pw2 x.toNat) 2
    have ml := Int.emod_nonneg A (show pw2 x.toNat ≠ 0 by omega)
    have mh := Int.emod_lt_of_pos A pp
    generalize A / pw2 x.toNat = S at *
    generalize A % pw2 x.toNat = w at *
    have e : A = (S % 2 * pw2 x.toNat + w) + (S / 2) * pw2 (x + 1).toNat := by
      rw [p2, ← Int.mul_assoc, Int.mul_comm (S / 2) 2]
      have : S % 2 * pw2 x.toNat + 2 * (S / 2) * pw2 x.toNat = S * pw2 x.toNat := by
        rw [← Int.add_mul]; congr 1; omega
      rw [Int.mul_comm] at h
      omega
    have sb : S % 2 = 0 ∨ S % 2 = 1 := by omega
    rw [e, Int.add_mul_emod_self_right]
    refine Int.emod_eq_of_lt ?_ ?_
    · rcases sb with s | s <;> rw [s] <;> omega
    · rcases sb with s | s <;> rw [s] <;> omega
  generalize eT : A / pw2 (x + 1).toNat = T at *
  have bt : A / pw2 x.toNat = 2 * T + A / pw2 x.toNat % 2 := by
    have : T = A / pw2 x.toNat / 2 := by
      rw [← eT, p2, Int.mul_comm, Int.ediv_ediv_of_nonneg (Int.le_of_lt pp)]
    omega
  have bb : 0 ≤ A / pw2 x.toNat % 2 ∧ A / pw2 x.toNat % 2 ≤ 1 := by omega
  generalize eβ : A / pw2 x.toNat % 2 = β at *
  have td := Int.mul_ediv_add_emod T D
  have tm0 := Int.emod_nonneg T (show D ≠ 0 by omega)
  have tml := Int.emod_lt_of_pos T hD
  refine s_twice (by omega) b4 (by omega) (fun g3 f3 h3 => ?_)
  intro v1 e1
  refine ⟨by omega, fun v2 e2 g4 eg4 => ?_⟩
  have h3a := f3.row n1 b5
  have la := h3a.limb (i := x / 31) (by omega) (by omega)
  have e2' : v2 = rw6 g3 a (x / 31) := e2
  rw [← e2'] at la
  have bit : (shrL v2 (x % 31) &&& 1).toInt = β := by
    rw [tI_bit la.1 (by omega) (by omega), e2', VS.bit h3a.1 hx (by omega), h3a.2, rowbit]
  have l0 := h3.limb (i := 0) (by omega) (by omega)
  have e1' : v1 = rw6 g3 439 0 := e1
  rw [← e1'] at l0
  have t4 : (v1 + (shrL v2 (x % 31) &&& 1)).toInt = v1.toInt + β := by rw [tI_add (by rw [bit]; exact ⟨by omega, by omega⟩), bit]
  have even : v1.toInt % 2 = 0 := by
    rw [e1', lim0 h3]
    omega
  have eg4' : g4 = upZ g3 (6 * 439 + 0) (v1 + (shrL v2 (x % 31) &&& 1)) := eg4
  have h4 : NW6 (rw6 g4 439) (2 * (T % D) + β) := by
    rw [eg4', rw6_up]
    refine ⟨fun i i0 i1 => ?_, ?_⟩
    · rw [Int.zero_add]
      by_cases k : i = 0
      · rw [k, upZ_s, t4]; omega
      · rw [upZ_n _ _ k]; exact h3.limb i0 i1
    · rw [VS.set (by omega) (by omega), h3.2, t4, ← e1']
      show 2 * (T % D) + (v1.toInt + β - v1.toInt) * 1 = _
      omega
  have f34 : FrR g3 g4 439 := by rw [eg4']; exact FrR.up (by omega) (by omega)
  have f24 := f3.trans f34
  have h4a := f24.row n1 b5
  have h4b := f24.row n2 (b3 b D n3 n2 hB)
  have f4 : Fr2 g g4 a 439 := fun q v q1 q2 hq => f24.row q2 (b3 q v q1 q2 hq)
  have hr : (x % 31).toNat ≤ 30 := by omega
  have ePB : pw2 x.toNat = PB (x / 31).toNat * pw2 (x % 31).toNat := by
    rw [PB_pw2, ← pw2_add]
    congr 1
    omega
  -- what a step leaves
  have go : ∀ (g5 : Int → Int64) (T2 z : Int), T2 = 2 * T + β → T2 / D = 2 * (T / D) + z → Fr2 g g5 a 439 → NW6 (rw6 g5 439) (T2 % D) → NW6 (rw6 g5 a) (T / D * pw2 (x + 1).toNat + A % pw2 (x + 1).toNat) → ∀ (w : Int64), w.toInt = (rw6 g5 a (x / 31)).toInt + (z - β) * pw2 (x % 31).toNat → (0 ≤ w.toInt ∧ w.toInt < 2147483648) → ((0 ≤ 6 * a + x / 31 ∧ 6 * a + x / 31 < 2700) ∧ ∀ g6, g6 = upZ g5 (6 * a + x / 31) w → (inR (x + (-1)) ∧ (∀ x4_25 : Int, x4_25 = (x + (-1)) → (∃ n_26 : Nat, n_26 < (x + 1).toNat ∧ (n_26 = (x4_25 + 1).toNat ∧ -1 ≤ x4_25 ∧ x4_25 ≤ 185 ∧ Fr2 g g6 a 439 ∧ NW6 (rw6 g6 439) (A / pw2 (x4_25 + 1).toNat % D) ∧ NW6 (rw6 g6 a) (A / pw2 (x4_25 + 1).toNat / D * pw2 (x4_25 + 1).toNat + A % pw2 (x4_25 + 1).toNat)))))) := by
    intro g5 T2 z eT2 dz f5 r5 a5 w ew wb
    refine ⟨by omega, fun g6 eg6 => ⟨by omega, fun x2 ex2 => ⟨_, ?_, rfl, by omega, by omega, ?_⟩⟩⟩
    · omega
    have f56 : FrR g5 g6 a := by rw [eg6]; exact FrR.up (by omega) (by omega)
    rw [ex2, show x + -1 + 1 = x by omega, bt, ← eT2]
    refine ⟨fun q v q1 q2 hq => f56.row q1 (f5 q v q1 q2 hq), f56.row (fun h => n1 h.symm) r5, ?_⟩
    rw [eg6, rw6_up]
    refine ⟨fun i i0 i1 => ?_, ?_⟩
    · rw [Int.zero_add]
      by_cases k : i = x / 31
      · rw [k, upZ_s]; exact wb
      · rw [upZ_n _ _ k]; exact a5.limb i0 i1
    · rw [VS.set (by omega) (by omega), a5.2, ew, dz, lowb, p2]
      rw [show (rw6 g5 a (x / 31)).toInt + (z - β) * pw2 (x % 31).toNat - (rw6 g5 a (x / 31)).toInt = (z - β) * pw2 (x % 31).toNat by omega, Int.mul_assoc, Int.mul_comm (pw2 (x % 31).toNat), ← ePB, Int.sub_mul, Int.add_mul]
      rw [show T / D * (2 * pw2 x.toNat) = 2 * (T / D) * pw2 x.toNat by rw [Int.mul_comm 2 (T / D), Int.mul_assoc]]
      omega
  have bita : ∀ g5 : Int → Int64, NW6 (rw6 g5 a) (T / D * pw2 (x + 1).toNat + A % pw2 (x + 1).toNat) → (rw6 g5 a (x / 31)).toInt / pw2 (x % 31).toNat % 2 = β := by
    intro g5 h5
    rw [VS.bit h5.1 hx (by omega), h5.2, rowbit]
  have pr := pw2_pos (x % 31).toNat
  refine s_compareB (by omega) hb h4 h4b (fun c ic => ?_)
  intro rc
  refine ⟨fun z => (z = 0 ∧ 2 * (T % D) + β < D) ∨ (z = 1 ∧ D ≤ 2 * (T % D) + β), ⟨fun y => Or.inl ⟨rfl, ic.1 y⟩, fun y => Or.inr ⟨rfl, ?_⟩⟩, fun z rz hz => ?_⟩
  · apply Classical.byContradiction
    intro k
    exact y (ic.2 (by omega))
  clear ic
  refine ⟨fun g5 => NW6 (rw6 g5 439) ((2 * T + β) % D) ∧ NW6 (rw6 g5 a) (T / D * pw2 (x + 1).toNat + A % pw2 (x + 1).toNat) ∧ Fr2 g g5 a 439 ∧ (2 * T + β) / D = 2 * (T / D) + z, ⟨fun z0 => ?_, fun z1 => ?_⟩, ?_⟩
  · have lt : 2 * (T % D) + β < D := by
      rcases hz with h | h
      · exact h.2
      · exact absurd (h.1.symm.trans z0) (by decide)
    have eT2 : 2 * T + β = (2 * (T % D) + β) + 2 * (T / D) * D := by
      rw [Int.mul_assoc, Int.mul_comm (T / D)]; omega
    have d2 : (2 * T + β) / D = 2 * (T / D) := by rw [eT2, Int.add_mul_ediv_right _ _ (by omega), Int.ediv_eq_zero_of_lt (by omega) lt]; omega
    have m2 : (2 * T + β) % D = 2 * (T % D) + β := by rw [eT2, Int.add_mul_emod_self_right, Int.emod_eq_of_lt (by omega) lt]
    rw [d2, m2, z0]
    exact ⟨h4, h4a, f4, by omega⟩
  · have ge : D ≤ 2 * (T % D) + β := by
      rcases hz with h | h
      · exact absurd h.1 z1
      · exact h.2
    have zz : z = 1 := by
      rcases hz with h | h
      · exact absurd h.1 z1
      · exact h.1
    refine s_takeM (by omega) hb (fun h => n2 h.symm) h4 h4b ge (fun g5 f5 h5 => ?_)
    have eT2 : 2 * T + β = (2 * (T % D) + β - D) + (2 * (T / D) + 1) * D := by
      rw [Int.add_mul, Int.mul_assoc, Int.mul_comm (T / D)]; omega
    have d2 : (2 * T + β) / D = 2 * (T / D) + 1 := by rw [eT2, Int.add_mul_ediv_right _ _ (by omega), Int.ediv_eq_zero_of_lt (by omega) (by omega)]; omega
    have m2 : (2 * T + β) % D = 2 * (T % D) + β - D := by rw [eT2, Int.add_mul_emod_self_right, Int.emod_eq_of_lt (by omega) (by omega)]
    rw [d2, m2, zz]
    exact ⟨h5, f5.row n1 h4a, fun q v q1 q2 hq => f5.row q2 (f4 q v q1 q2 hq), rfl⟩
  rintro g5 ⟨r5, a5, f5, d5⟩ bv ebv
  have tb := bita g5 a5
  have lb := a5.limb (i := x / 31) (by omega) (by omega)
  have hy : bv.toInt = pw2 (x % 31).toNat := by rw [ebv]; exact tI_shl1 (by omega) (by omega)
  refine ⟨fun w => w.toInt = (rw6 g5 a (x / 31)).toInt + (z - β) * pw2 (x % 31).toNat ∧ (0 ≤ w.toInt ∧ w.toInt < 2147483648), ⟨fun z0 => ⟨by omega, fun v3 e3 => ?_⟩, fun z1 => ⟨by omega, fun v3 e3 => ?_⟩⟩, fun w hw => go g5 (2 * T + β) z rfl d5 f5 r5 a5 w hw.1 hw.2⟩
  · have e3' : v3 = rw6 g5 a (x / 31) := e3
    rw [← e3'] at lb tb ⊢
    have t := tI_andn lb.1 lb.2 hr hy
    rw [tb] at t
    refine ⟨by rw [t, z0, Int.sub_mul]; omega, ?_⟩
    have dm := Int.mul_ediv_add_emod v3.toInt (pw2 (x % 31).toNat)
    have mn := Int.emod_nonneg v3.toInt (show pw2 (x % 31).toNat ≠ 0 by omega)
    have d0 := Int.ediv_nonneg lb.1 (Int.le_of_lt pr)
    rw [t]
    have b0 : 0 ≤ β * pw2 (x % 31).toNat := Int.mul_nonneg bb.1 (Int.le_of_lt pr)
    refine ⟨?_, by omega⟩
    -- the bit is no more than the number
    have : β * pw2 (x % 31).toNat ≤ v3.toInt / pw2 (x % 31).toNat * pw2 (x % 31).toNat := Int.mul_le_mul_of_nonneg_right (by omega) (Int.le_of_lt pr)
    rw [Int.mul_comm] at dm
    omega
  · have e3' : v3 = rw6 g5 a (x / 31) := e3
    rw [← e3'] at lb tb ⊢
    have zz : z = 1 := by
      rcases hz with h | h
      · exact absurd h.1 z1
      · exact h.1
    have t := tI_or2 lb.1 lb.2 hr hy
    rw [tb] at t
    refine ⟨by rw [t, zz], ?_⟩
    rw [t]
    have b0 : 0 ≤ (1 - β) * pw2 (x % 31).toNat := Int.mul_nonneg (by omega) (Int.le_of_lt pr)
    refine ⟨by omega, ?_⟩
    -- the sum keeps to 31 bits
    rcases (show β = 0 ∨ β = 1 by omega) with h | h
    · rw [h]
      have p31 : pw2 (x % 31).toNat * (2 * pw2 (30 - (x % 31).toNat)) = 2147483648 := by
        have : 2 * pw2 (30 - (x % 31).toNat) = pw2 (30 - (x % 31).toNat + 1) := rfl
        rw [this, ← pw2_add, show (x % 31).toNat + (30 - (x % 31).toNat + 1) = 31 by omega]; rfl
      have dm := Int.mul_ediv_add_emod v3.toInt (pw2 (x % 31).toNat)
      have ml := Int.emod_lt_of_pos v3.toInt pr
      have lt2 : v3.toInt / pw2 (x % 31).toNat < 2 * pw2 (30 - (x % 31).toNat) := by
        refine Int.ediv_lt_of_lt_mul pr ?_
        rw [Int.mul_comm, p31]
        exact lb.2
      have : pw2 (x % 31).toNat * (v3.toInt / pw2 (x % 31).toNat + 2) ≤ pw2 (x % 31).toNat * (2 * pw2 (30 - (x % 31).toNat)) := Int.mul_le_mul_of_nonneg_left (by omega) (by omega)
      rw [Int.mul_add, p31] at this
      omega
    · rw [h]
      omega
theorem gz_mod {a b : Int} (ha : 0 < a) (hb : 0 ≤ b) : gz (b % a) a = gz a b := by
  obtain ⟨an, rfl⟩ := Int.eq_ofNat_of_zero_le (Int.le_of_lt ha)
  obtain ⟨bn, rfl⟩ := Int.eq_ofNat_of_zero_le hb
  rw [← Int.natCast_emod, gz_nat, gz_nat, ← Nat.gcd_rec]
/-- lowest terms in the reference: the rows UP and DOWN -/
theorem s_reduceM {post : (Int → Int64) → Prop} {g : Int → Int64} {U D : Int} (hU : NW6 (rw6 g 436) U) (hD : NW6 (rw6 g 440) D) (D0 : 0 < D) (U2 : 2 * U ≤ PB 6) (D2 : 2 * D ≤ PB 6) (hp : ∀ g', NW6 (rw6 g' 436) (U / gz U D) → NW6 (rw6 g' 440) (D / gz U D) → post g') : P_X12_reduce post g := by
  have Ub := hU.b
  unfold P_X12_reduce
  refine s_copyM (by omega) (by omega) (by omega) hU (fun g1 f1 h1 => ?_)
  refine s_copyM (by omega) (by omega) (by omega) (f1.row (by omega) hD) (fun g2 f2 h2 => ?_)
  refine ⟨fun n g' => ∃ O W : Int, n = O.toNat ∧ NW6 (rw6 g' 437) O ∧ NW6 (rw6 g' 438) W ∧ NW6 (rw6 g' 436) U ∧ NW6 (rw6 g' 440) D ∧ 0 < W ∧ 2 * O ≤ PB 6 ∧ 2 * W ≤ PB 6 ∧ gz O W = gz U D, ⟨_, U, D, rfl, f2.row (by omega) h1, h2, f2.row (by omega) (f1.row (by omega) hU), f2.row (by omega) (f1.row (by omega) hD), D0, U2, D2, rfl⟩, ?_⟩
  rintro n g3 ⟨O, W, rfl, b1, b2, b3, b4, W0, O2, W2, eg⟩
  have Ob := b1.b
  refine s_isNothing (by omega) b1 (fun u u01 iu => ?_)
  intro _
  refine ⟨fun y => ?_, fun y => ?_⟩
  · have O0 := iu.1 (u01.resolve_left y)
    clear iu
    subst O0
    rw [gz_zl W0] at eg
    subst eg
    refine s_divideBy (by omega) (by omega) (by omega) (by omega) (by omega) b3 b2 W0 W2 (fun g4 f4 h4 _ => ?_)
    refine s_divideBy (by omega) (by omega) (by omega) (by omega) (by omega) (f4 440 D (by omega) (by omega) b4) (f4 438 _ (by omega) (by omega) b2) W0 W2 (fun g5 f5 h5 _ => ?_)
    exact hp g5 (f5 436 _ (by omega) (by omega) h4) h5
  · have O0 : ¬ O = 0 := fun r => by have := iu.2 r; rw [y] at this; exact absurd this (by decide)
    clear iu
    refine s_copyM (by omega) (by omega) (by omega) b1 (fun g4 f4 h4 => ?_)
    refine s_divideBy (by omega) (by omega) (by omega) (by omega) (by omega) (f4.row (by omega) b2) (f4.row (by omega) b1) (by omega) O2 (fun g5 f5 _ h5 => ?_)
    refine s_copyM (by omega) (by omega) (by omega) h5 (fun g6 f6 h6 => ?_)
    refine s_copyM (by omega) (by omega) (by omega) (f6.row (by omega) (f5 435 _ (by omega) (by omega) h4)) (fun g7 f7 h7 => ?_)
    have ml := Int.emod_lt_of_pos W (show 0 < O by omega)
    have m0 := Int.emod_nonneg W O0
    have fr : ∀ q v : Int, ¬ q = 435 → ¬ q = 438 → ¬ q = 439 → ¬ q = 437 → NW6 (rw6 g3 q) v → NW6 (rw6 g7 q) v := fun q v q1 q2 q3 q4 h => f7.row q2 (f6.row q4 (f5 q v q2 q3 (f4.row q1 h)))
    refine ⟨_, ?_, W % O, O, rfl, f7.row (by omega) h6, h7, fr _ _ (by omega) (by omega) (by omega) (by omega) b3, fr _ _ (by omega) (by omega) (by omega) (by omega) b4, by omega, by omega, O2, ?_⟩
    · omega
    · rw [gz_mod (by omega) (by omega)]; exact eg
