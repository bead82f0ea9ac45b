/-! products, quotients, comparing -/
theorem VS.split {g : Int → Int64} {b : Int} {m : Nat} : ∀ {n : Nat}, VS g b (m + n) = VS g b m + VS g (b + m) n * PB m := by
  intro n
  induction n with
  | zero => show VS g b m = VS g b m + 0 * PB m; omega
  | succ n ih =>
    show VS g b (m + n) + (g (b + (m + n : Nat))).toInt * PB (m + n) = VS g b m + (VS g (b + m) n + (g (b + m + n)).toInt * PB n) * PB m
    rw [ih, Int.add_mul, PB_add, show b + ((m + n : Nat) : Int) = b + m + n by omega, Int.mul_comm (PB m), ← Int.mul_assoc]
    omega
/-- high limbs of a small number are nothing -/
theorem VS.high {g : Int → Int64} {b : Int} {m n : Nat} (v : VL g b (m + n)) (h : VS g b (m + n) < PB m) : VS g b (m + n) = VS g b m := by
  have s1 := VS.b (n := m) (fun i i0 i1 => v i i0 (by omega))
  have s2 : 0 ≤ VS g (b + m) n := (VS.b (n := n) (fun i i0 i1 => by rw [Int.add_assoc]; exact v (m + i) (by omega) (by omega))).1
  have e := VS.split (g := g) (b := b) (m := m) (n := n)
  have z := carry_end e.symm s1.1 s2 h
  rw [e, z]
  omega
theorem s_addProduct {post : (Int → Int64) → Prop} {c0 f g : Int → Int64} {v u c st : Int} (hf : NW6 f v) (hg : VL g st 6) (hu : VS g st 6 = u) (hc : NW6 c0 c) (hst : 0 ≤ st ∧ st + 6 ≤ 870) (hb : v + u * c < PB 6) (hp : ∀ f', NW6 f' (v + u * c) → post f') : P_X10_addProduct_55_58_54 post c0 f g st := by
  have cb := hc.b
  have ub := VS.b hg
  rw [hu] at ub
  have p6 := PB_pos 6
  unfold P_X10_addProduct_55_58_54
  refine ⟨fun n x f' => n = (6 - x).toNat ∧ 0 ≤ x ∧ x ≤ 6 ∧ NW6 f' (v + VS g st x.toNat * c), ⟨_, rfl, by omega, by omega, by show NW6 f (v + 0 * c); rw [Int.zero_mul, Int.add_zero]; exact hf⟩, ?_⟩
  rintro n x f1 rx ⟨rfl, b1, b2, b3⟩
  refine ⟨fun q => hp f1 ?_, fun q => ⟨by omega, fun a ea => ?_⟩⟩
  · have e : x = 6 := by omega
    subst e
    have b3' : NW6 f1 (v + VS g st 6 * c) := b3
    rw [hu] at b3'
    exact b3'
  have la := hg x b1 (by omega)
  rw [← ea] at la
  have px := PB_pos x.toNat
  have gx : VS g st (x + 1).toNat = VS g st x.toNat + a.toInt * PB x.toNat := by
    rw [show (x + 1).toNat = x.toNat + 1 by omega, ea]
    show VS g st x.toNat + (g (st + (x.toNat : Nat))).toInt * PB x.toNat = _
    rw [show st + ((x.toNat : Nat) : Int) = st + x by omega]
  -- the value that is aimed at stays within the limbs
  have gle : VS g st (x + 1).toNat ≤ u := by
    have e := VS.split (g := g) (b := st) (m := (x + 1).toNat) (n := 6 - (x + 1).toNat)
    rw [show (x + 1).toNat + (6 - (x + 1).toNat) = 6 by omega, hu] at e
    have s2 : 0 ≤ VS g (st + (x + 1).toNat) (6 - (x + 1).toNat) := (VS.b (fun i i0 i1 => by rw [Int.add_assoc]; exact hg _ (by omega) (by omega))).1
    have := Int.mul_nonneg s2 (Int.le_of_lt (PB_pos (x + 1).toNat))
    omega
  have g0 : 0 ≤ VS g st x.toNat := (VS.b (fun i i0 i1 => hg i i0 (by omega))).1
  have tb : v + VS g st (x + 1).toNat * c < PB 6 := by
    have : VS g st (x + 1).toNat * c ≤ u * c := Int.mul_le_mul_of_nonneg_right gle cb.1
    omega
  have eq1 : VS g st (x + 1).toNat * c = VS g st x.toNat * c + a.toInt * PB x.toNat * c := by rw [gx, Int.add_mul]
  have v0 := hf.b.1
  have gc0 : 0 ≤ VS g st x.toNat * c := Int.mul_nonneg g0 cb.1
  refine ⟨fun n k j f' => n = (6 - j).toNat ∧ 0 ≤ j ∧ (j = 0 ∨ x + j ≤ 6) ∧ (0 ≤ k.toInt ∧ k.toInt < 2147483648) ∧ (j = 0 → k.toInt = 0) ∧ (∀ i, 0 ≤ i → i < 6 → 0 ≤ (f' i).toInt ∧ (f' i).toInt < 2147483648) ∧ (∀ i, x + j ≤ i → f' i = f1 i) ∧ VS f' 0 (x + j).toNat + k.toInt * PB (x + j).toNat = VS f1 0 (x + j).toNat + a.toInt * PB x.toNat * VS c0 0 j.toNat, ⟨_, rfl, by omega, Or.inl rfl, by rw [show (0 : Int64).toInt = 0 from rfl]; omega, fun _ => rfl, fun i i0 i1 => b3.limb i0 i1, fun _ _ => rfl, by show VS f1 0 (x + 0).toNat + (0 : Int64).toInt * _ = VS f1 0 (x + 0).toNat + a.toInt * PB x.toNat * 0; rw [show (0 : Int64).toInt = 0 from rfl]; omega⟩, ?_⟩
  rintro n k j f2 rj ⟨rfl, c1, c2, c3, c3', c4, c5, c6⟩
  have fin : (a.toInt = 0 ∨ (¬ a.toInt = 0 ∧ x + j = 6)) → (inR (x + 1) ∧ (∀ x4_22 : Int, x4_22 = (x + 1) → (∃ n_23 : Nat, n_23 < (6 - x).toNat ∧ (n_23 = (6 - x4_22).toNat ∧ 0 ≤ x4_22 ∧ x4_22 ≤ 6 ∧ NW6 f2 (v + VS g st x4_22.toNat * c))))) := by
    intro hh
    have vl2 : VL f2 0 6 := fun i i0 i1 => by rw [Int.zero_add]; exact c4 i i0 i1
    refine nx (by omega) ⟨_, ?_, rfl, by omega, by omega, vl2, ?_⟩
    · omega
    · rcases hh with hh | ⟨hh, ej⟩
      · -- nothing was added
        have e1 : VS f2 0 6 = VS f1 0 6 := by
          have m : (x + j).toNat ≤ 6 := by omega
          have s := VS.split (g := f2) (b := 0) (m := (x + j).toNat) (n := 6 - (x + j).toNat)
          have s' := VS.split (g := f1) (b := 0) (m := (x + j).toNat) (n := 6 - (x + j).toNat)
          rw [show (x + j).toNat + (6 - (x + j).toNat) = 6 by omega] at s s'
          have t : VS f2 (0 + (x + j).toNat) (6 - (x + j).toNat) = VS f1 (0 + (x + j).toNat) (6 - (x + j).toNat) := VS.congr (fun i i0 i1 => c5 _ (by omega))
          rw [hh, Int.zero_mul, Int.zero_mul, Int.add_zero] at c6
          have sb2 := (VS.b (n := (x + j).toNat) (fun i i0 i1 => vl2 i i0 (by omega))).1
          have sb1 := (VS.b (n := (x + j).toNat) (fun i i0 i1 => b3.1 i i0 (by omega))).2
          have k0 := carry_end c6 sb2 c3.1 sb1
          rw [k0] at c6
          rw [s, s', t]
          omega
        rw [e1, b3.2, eq1, hh]
        omega
      · rw [ej] at c6
        have c6' : VS f2 0 6 + k.toInt * PB 6 = VS f1 0 6 + a.toInt * PB x.toNat * VS c0 0 j.toNat := c6
        -- the high limbs of the other factor are nothing
        have ja : 6 = j.toNat + x.toNat := by omega
        have clow : VS c0 0 6 = VS c0 0 j.toNat := by
          have hsm : VS c0 0 (j.toNat + x.toNat) < PB j.toNat := by
            rw [← ja, hc.2]
            apply Classical.byContradiction
            intro ge
            have l1 : PB j.toNat ≤ c := by omega
            have l2 : 1 * PB x.toNat ≤ a.toInt * PB x.toNat := Int.mul_le_mul_of_nonneg_right (by omega) (Int.le_of_lt px)
            have l3 : PB x.toNat * PB j.toNat ≤ a.toInt * PB x.toNat * c := Int.mul_le_mul (by omega) l1 (Int.le_of_lt (PB_pos _)) (by omega)
            rw [← PB_add, show x.toNat + j.toNat = 6 by omega] at l3
            omega
          have := VS.high (g := c0) (b := 0) (m := j.toNat) (n := x.toNat) (by rw [← ja]; exact hc.1) hsm
          rw [← ja] at this
          exact this
        rw [← clow, hc.2, b3.2] at c6'
        have s := (VS.b vl2).1
        have hlt : v + VS g st x.toNat * c + a.toInt * PB x.toNat * c < PB 6 := by omega
        have k0 := carry_end c6' s c3.1 hlt
        rw [k0] at c6'
        rw [eq1]
        omega
  refine ⟨_, ⟨fun y => fin (Or.inl (lc0_zero.1 y)), fun y => ⟨by omega, fun y2 => ?_, fun y2 => ⟨by omega, fun v1 e1 => ⟨by omega, fun v2 e2 k2 ek2 => ?_⟩⟩⟩⟩, fun jj => jj⟩
  · have an : ¬ a.toInt = 0 := fun r => y (lc0_zero.2 r)
    refine fin (Or.inr ⟨an, by omega⟩)
  · have an : ¬ a.toInt = 0 := fun r => y (lc0_zero.2 r)
    have l1 := c4 (x + j) (by omega) (by omega)
    rw [← e1] at l1
    have l2 := hc.limb c1 (by omega)
    rw [← e2] at l2
    have m0 : 0 ≤ a.toInt * v2.toInt := Int.mul_nonneg la.1 l2.1
    have m1 : a.toInt * v2.toInt ≤ 2147483647 * 2147483647 := Int.mul_le_mul (by omega) (by omega) l2.1 (by decide)
    have t1 : (a * v2).toInt = a.toInt * v2.toInt := tI_mul ⟨by omega, by omega⟩
    have t1' : (v1 + a * v2).toInt = v1.toInt + a.toInt * v2.toInt := by rw [tI_add (by rw [t1]; exact ⟨by omega, by omega⟩), t1]
    have t2 : k2.toInt = k.toInt + (v1.toInt + a.toInt * v2.toInt) := by rw [ek2, tI_add (by rw [t1']; exact ⟨by omega, by omega⟩), t1']
    refine ⟨by omega, fun f3 ef k3 e3 => nx (by omega) ⟨_, ?_, rfl, by omega, Or.inr (by omega), ?_, fun r => by omega, fun i i0 i1 => ?_, fun i i0 => ?_, ?_⟩⟩
    · omega
    · rw [e3, tI_ushr31 (by omega)]; omega
    · rw [ef]
      by_cases e : i = x + j
      · rw [e, upZ_s, tI_and31]; omega
      · rw [upZ_n _ _ e]; exact c4 i i0 i1
    · rw [ef, upZ_n _ _ (by omega)]; exact c5 i (by omega)
    · rw [show x + (j + 1) = x + j + 1 by omega, e3, tI_ushr31 (by omega), ef, VS.next (by omega) (tI_and31 k2), VS.old (by omega), VS.old c1, t2, Int.add_mul, Int.add_mul, ← c5 (x + j) (Int.le_refl _), ← e1, ← e2, Int.mul_add]
      rw [show (x + j).toNat = x.toNat + j.toNat by omega] at c6 ⊢
      rw [PB_add] at c6 ⊢
      rw [show a.toInt * PB x.toNat * (v2.toInt * PB j.toNat) = a.toInt * v2.toInt * (PB x.toNat * PB j.toNat) by rw [Int.mul_assoc, Int.mul_assoc, ← Int.mul_assoc (PB x.toNat), Int.mul_comm (PB x.toNat) v2.toInt, Int.mul_assoc v2.toInt]]
      omega
theorem s_shrink54 {post : (Int → Int64) → Prop} {f : Int → Int64} {v k : Int} (hf : NW6 f v) (hk : 1 ≤ k ∧ k ≤ 65536) (hp : ∀ f', NW6 f' (v / k) → post f') : P_X10_shrink_54 post f k := by
  have tk := tI_of (z := k) ⟨by omega, by omega⟩
  have kp : 0 < (Int64.ofInt k).toInt := by rw [tk]; omega
  have kz : ¬ Int64.ofInt k = 0 := fun e => by rw [e] at kp; exact absurd kp (by decide)
  unfold P_X10_shrink_54
  refine ⟨fun _ => ?_, fun y => by omega⟩
  refine ⟨fun n r x f' => n = (x + 1).toNat ∧ -1 ≤ x ∧ x ≤ 5 ∧ (0 ≤ r.toInt ∧ r.toInt < k) ∧ (∀ i, x < i → i < 6 → 0 ≤ (f' i).toInt ∧ (f' i).toInt < 2147483648) ∧ (∀ i, i ≤ x → f' i = f i) ∧ VS f' (x + 1) (5 - x).toNat * k + r.toInt = VS f (x + 1) (5 - x).toNat, ⟨_, rfl, by omega, by omega, by rw [show (0 : Int64).toInt = 0 from rfl]; omega, fun i _ _ => by omega, fun _ _ => rfl, by show (0 : Int) * k + (0 : Int64).toInt = 0; rw [show (0 : Int64).toInt = 0 from rfl]; omega⟩, ?_⟩
  rintro n r x f' rx ⟨rfl, b1, b2, b3, b4, b5, b6⟩
  refine ⟨fun q => hp f' ?_, fun q => ⟨by omega, fun a ea r2 er2 => ?_⟩⟩
  · have e : x = -1 := by omega
    subst e
    have vl : VL f' 0 6 := fun i i0 i1 => by rw [Int.zero_add]; exact b4 i (by omega) i1
    have b6' : VS f' 0 6 * k + r.toInt = v := by rw [← hf.2]; exact b6
    refine ⟨vl, ?_⟩
    rw [← b6', Int.add_comm, Int.add_mul_ediv_right _ _ (by omega), Int.ediv_eq_zero_of_lt b3.1 b3.2]
    omega
  · rw [b5 x (Int.le_refl _)] at ea
    have la := hf.limb (i := x) (by omega) (by omega)
    rw [← ea] at la
    have t2 : r2.toInt = r.toInt * 2147483648 + a.toInt := by rw [er2]; exact tI_shl_or ⟨b3.1, by omega⟩ la
    have rp : 0 ≤ r2.toInt := by omega
    have d := tI_div rp kp
    have m := tI_rem rp kp
    rw [tk] at d m
    have de := Int.mul_ediv_add_emod r2.toInt k
    have m0 := Int.emod_nonneg r2.toInt (show k ≠ 0 by omega)
    have ml := Int.emod_lt_of_pos r2.toInt (show 0 < k by omega)
    have dl : r2.toInt / k < 2147483648 := by
      refine Int.ediv_lt_of_lt_mul (by omega) ?_
      have : r.toInt * 2147483648 ≤ (k - 1) * 2147483648 := Int.mul_le_mul_of_nonneg_right (by omega) (by decide)
      omega
    have dn : 0 ≤ r2.toInt / k := Int.ediv_nonneg rp (by omega)
    refine ⟨kz, by omega, fun f2 ef => ⟨kz, fun r3 er3 => ⟨by omega, fun x2 ex2 => ⟨_, ?_, rfl, by omega, by omega, ?_, fun i i0 i1 => ?_, fun i i0 => ?_, ?_⟩⟩⟩⟩
    · omega
    · rw [er3, m]; omega
    · rw [ef]
      by_cases e : i = x
      · rw [e, upZ_s, d]; omega
      · rw [upZ_n _ _ e]; exact b4 i (by omega) i1
    · rw [ef, upZ_n _ _ (by omega)]; exact b5 i (by omega)
    · rw [ex2, show x + -1 + 1 = x by omega, show (5 - (x + -1)).toNat = (5 - x).toNat + 1 by omega, VS.cons, VS.cons, ef, upZ_s, VS.up (by omega), er3, m, d, ← ea, ← b6, Int.add_mul]
      rw [show VS f' (x + 1) (5 - x).toNat * 2147483648 * k = VS f' (x + 1) (5 - x).toNat * k * 2147483648 by rw [Int.mul_assoc, Int.mul_comm 2147483648 k, ← Int.mul_assoc]]
      rw [Int.mul_comm k] at de
      omega
theorem s_remainder {post : Int64 → Prop} {f : Int → Int64} {v k : Int} (hf : NW6 f v) (hk : 1 ≤ k ∧ k < 2147483648) (hp : ∀ r : Int64, r.toInt = v % k → post r) : P_X10_remainder_53 post f k := by
  have tk := tI_of (z := k) ⟨by omega, by omega⟩
  have kp : 0 < (Int64.ofInt k).toInt := by rw [tk]; omega
  have kz : ¬ Int64.ofInt k = 0 := fun e => by rw [e] at kp; exact absurd kp (by decide)
  unfold P_X10_remainder_53
  refine ⟨fun n r x => n = (x + 1).toNat ∧ -1 ≤ x ∧ x ≤ 5 ∧ r.toInt = VS f (x + 1) (5 - x).toNat % k, ⟨_, rfl, by omega, by omega, rfl⟩, ?_⟩
  rintro n r x rx ⟨rfl, b1, b2, b3⟩
  refine ⟨x = -1, ⟨fun y => by omega, fun y => ⟨fun y2 => by omega, fun y2 => ⟨by omega, fun a ea => ⟨kz, fun r2 er2 => ⟨by omega, fun x2 ex2 => ⟨_, ?_, rfl, by omega, by omega, ?_⟩⟩⟩⟩⟩⟩, fun e => hp r ?_⟩
  · omega
  · have la := hf.limb (i := x) (by omega) (by omega)
    rw [← ea] at la
    have m0 := Int.emod_nonneg (VS f (x + 1) (5 - x).toNat) (show k ≠ 0 by omega)
    have ml := Int.emod_lt_of_pos (VS f (x + 1) (5 - x).toNat) (show 0 < k by omega)
    have t2 : (shlL r 31 ||| a).toInt = r.toInt * 2147483648 + a.toInt := tI_shl_or ⟨by omega, by omega⟩ la
    have m := tI_rem (x := shlL r 31 ||| a) (y := Int64.ofInt k) (by omega) kp
    rw [tk, t2] at m
    rw [er2, m, ex2, show x + -1 + 1 = x by omega, show (5 - (x + -1)).toNat = (5 - x).toNat + 1 by omega, VS.cons, ← ea, b3]
    rw [Int.add_comm a.toInt, Int.add_emod, Int.mul_emod, Int.emod_emod, ← Int.mul_emod, ← Int.add_emod]
  · subst e
    rw [b3, ← hf.2]
    rfl
theorem or_zero {x y : Int64} : (x ||| y) = 0 ↔ x = 0 ∧ y = 0 := by
  constructor
  · intro h
    have k : ∀ i, x.toBitVec.getLsbD i = false ∧ y.toBitVec.getLsbD i = false := by
      intro i
      have e := congrArg (fun z : Int64 => z.toBitVec.getLsbD i) h
      simp only [Int64.toBitVec_or, BitVec.getLsbD_or] at e
      have z : (0 : Int64).toBitVec.getLsbD i = false := by show (BitVec.ofNat 64 0).getLsbD i = false; exact BitVec.getLsbD_zero
      rw [z] at e
      exact Bool.or_eq_false_iff.1 e
    refine ⟨Int64.toBitVec_inj.1 (BitVec.eq_of_getLsbD_eq (fun i _ => ?_)), Int64.toBitVec_inj.1 (BitVec.eq_of_getLsbD_eq (fun i _ => ?_))⟩
    · rw [(k i).1]; show false = (BitVec.ofNat 64 0).getLsbD i; rw [BitVec.getLsbD_zero]
    · rw [(k i).2]; show false = (BitVec.ofNat 64 0).getLsbD i; rw [BitVec.getLsbD_zero]
  · rintro ⟨rfl, rfl⟩
    rfl
theorem VS.nil {g : Int → Int64} {b : Int} : ∀ {n : Nat}, VL g b n → VS g b n = 0 → ∀ i : Int, 0 ≤ i → i < n → g (b + i) = 0 := by
  intro n v e i i0 i1
  have z : VL (fun _ => 0) b n := fun i _ _ => by rw [show (0 : Int64).toInt = 0 from rfl]; omega
  have ez : VS (fun _ => 0) b n = 0 := VS.zero (fun _ _ _ => rfl)
  exact VS.inj v z (by rw [e, ez]) i i0 i1
theorem s_isZero {post : Int → Prop} {f : Int → Int64} {v : Int} (hf : NW6 f v) (hp : ∀ u : Int, (u = 0 ∨ u = 1) → (u = 1 ↔ v = 0) → post u) : P_X10_isZero_53 post f := by
  unfold P_X10_isZero_53
  refine ⟨fun n o x => n = (6 - x).toNat ∧ 0 ≤ x ∧ x ≤ 6 ∧ (o = 0 ↔ ∀ i, 0 ≤ i → i < x → f i = 0), ⟨_, rfl, by omega, by omega, ⟨fun _ i _ _ => by omega, fun _ => rfl⟩⟩, ?_⟩
  rintro n o x rx ⟨rfl, b1, b2, b3⟩
  refine ⟨fun q => ?_, fun q => ⟨by omega, fun a ea o2 eo => nx (by omega) ⟨_, ?_, rfl, by omega, by omega, ?_⟩⟩⟩
  · have ex : x = 6 := by omega
    subst ex
    have key : o = 0 ↔ v = 0 := by
      rw [b3]
      constructor
      · intro h
        rw [← hf.2]
        exact VS.zero (fun i i0 i1 => by rw [Int.zero_add]; exact h i i0 i1)
      · intro h i i0 i1
        have := VS.nil hf.1 (by rw [hf.2]; exact h) i i0 i1
        rw [Int.zero_add] at this
        exact this
    exact exJi ⟨fun y _ => ⟨Or.inl rfl, hp 0 (Or.inl rfl) ⟨fun r => absurd r (by decide), fun r => absurd (lc_zero.2 (key.2 r)) y⟩⟩, fun y _ => ⟨Or.inr rfl, hp 1 (Or.inr rfl) ⟨fun _ => key.1 (lc_zero.1 y), fun _ => rfl⟩⟩⟩
  · omega
  · rw [eo, or_zero, b3, ea]
    constructor
    · rintro ⟨h1, h2⟩ i i0 i1
      by_cases e : i = x
      · rw [e]; exact h2
      · exact h1 i i0 (by omega)
    · intro h
      exact ⟨fun i i0 i1 => h i i0 (by omega), h x b1 (by omega)⟩
/-- the highest limb that differs decides -/
theorem VS.lt {f g : Int → Int64} {x : Int} (hf : VL f 0 6) (hg : VL g 0 6) (h0 : 0 ≤ x) (h1 : x < 6) (he : ∀ i, x < i → i < 6 → f i = g i) (hl : (f x).toInt < (g x).toInt) : VS f 0 6 < VS g 0 6 := by
  have s := VS.split (g := f) (b := 0) (m := (x + 1).toNat) (n := 6 - (x + 1).toNat)
  have s' := VS.split (g := g) (b := 0) (m := (x + 1).toNat) (n := 6 - (x + 1).toNat)
  rw [show (x + 1).toNat + (6 - (x + 1).toNat) = 6 by omega] at s s'
  have t : VS f (0 + (x + 1).toNat) (6 - (x + 1).toNat) = VS g (0 + (x + 1).toNat) (6 - (x + 1).toNat) := VS.congr (fun i i0 i1 => he _ (by omega) (by omega))
  have o := VS.old (f := f) h0
  have o' := VS.old (f := g) h0
  have sb := (VS.b (n := x.toNat) (fun i i0 i1 => hf i i0 (by omega))).2
  have sb' := (VS.b (n := x.toNat) (fun i i0 i1 => hg i i0 (by omega))).1
  have : ((f x).toInt + 1) * PB x.toNat ≤ (g x).toInt * PB x.toNat := Int.mul_le_mul_of_nonneg_right (by omega) (Int.le_of_lt (PB_pos _))
  rw [Int.add_mul, Int.one_mul] at this
  rw [s, s', t, o, o']
  omega
theorem lt_tI {x y : Int64} : x < y ↔ x.toInt < y.toInt := Int64.lt_iff_toInt_lt
theorem s_isLess {post : Int → Prop} {f g : Int → Int64} {v u : Int} (hf : NW6 f v) (hg : NW6 g u) (hp : ∀ t : Int, (t = 0 ∨ t = 1) → (t = 1 ↔ v < u) → post t) : P_X10_isLess_57_53 post g f := by
  unfold P_X10_isLess_57_53
  refine ⟨fun n x => n = (x + 1).toNat ∧ -1 ≤ x ∧ x ≤ 5 ∧ ∀ i, x < i → i < 6 → f i = g i, ⟨_, rfl, by omega, by omega, fun i _ _ => by omega⟩, ?_⟩
  rintro n x rx ⟨rfl, b1, b2, b3⟩
  refine ⟨fun q => hp 0 (Or.inl rfl) ⟨fun r => absurd r (by decide), fun r => ?_⟩, fun q => ⟨by omega, fun a ea => ⟨by omega, fun b eb => ⟨fun y => ⟨by omega, fun x2 ex2 => ⟨_, ?_, rfl, by omega, by omega, fun i i0 i1 => ?_⟩⟩, fun y => ⟨by omega, fun a2 ea2 => ⟨by omega, fun b2' eb2 => ?_⟩⟩⟩⟩⟩⟩
  · have e : VS f 0 6 = VS g 0 6 := VS.congr (fun i i0 i1 => b3 _ (by omega) (by omega))
    rw [hf.2, hg.2] at e
    omega
  · omega
  · by_cases e : i = x
    · rw [e, ← ea, ← eb]; exact lc_zero.1 y
    · exact b3 i (by omega) i1
  · rw [← ea] at ea2
    rw [← eb] at eb2
    rw [ea2, eb2]
    have ne : ¬ a = b := fun r => y (lc_zero.2 r)
    have nt : ¬ a.toInt = b.toInt := fun r => ne (tI_inj r)
    have key : 0 ≤ lcI a b ↔ b.toInt < a.toInt := by
      unfold lcI
      by_cases k : b < a
      · rw [if_pos k]; exact ⟨fun _ => lt_tI.1 k, fun _ => by decide⟩
      · rw [if_neg k, if_neg ne]; exact ⟨fun r => absurd r (by decide), fun r => absurd (lt_tI.2 r) k⟩
    refine exJi ⟨fun r _ => ⟨Or.inl rfl, hp 0 (Or.inl rfl) ⟨fun s => absurd s (by decide), fun s => ?_⟩⟩, fun r _ => ⟨Or.inr rfl, hp 1 (Or.inr rfl) ⟨fun _ => ?_, fun _ => rfl⟩⟩⟩
    · have := VS.lt hg.1 hf.1 (x := x) (by omega) (by omega) (fun i i0 i1 => (b3 i i0 i1).symm) (by rw [← ea, ← eb]; exact key.1 r)
      rw [hf.2, hg.2] at this
      omega
    · have nl : ¬ b.toInt < a.toInt := fun s => r (key.2 s)
      have := VS.lt hf.1 hg.1 (x := x) (by omega) (by omega) b3 (by rw [← ea, ← eb]; omega)
      rw [hf.2, hg.2] at this
      exact this
theorem s_subtract {post : (Int → Int64) → Prop} {f g : Int → Int64} {v u : Int} (hf : NW6 f v) (hg : NW6 g u) (hl : u ≤ v) (hp : ∀ f', NW6 f' (v - u) → post f') : P_X10_subtract_57_53 post g f := by
  unfold P_X10_subtract_57_53
  refine ⟨fun n c x f' => n = (6 - x).toNat ∧ 0 ≤ x ∧ x ≤ 6 ∧ (-1 ≤ c.toInt ∧ c.toInt ≤ 0) ∧ (∀ i, 0 ≤ i → i < x → 0 ≤ (f' i).toInt ∧ (f' i).toInt < 2147483648) ∧ (∀ i, x ≤ i → f' i = f i) ∧ VS f' 0 x.toNat + c.toInt * PB x.toNat = VS f 0 x.toNat - VS g 0 x.toNat, ⟨_, rfl, by omega, by omega, by rw [show (0 : Int64).toInt = 0 from rfl]; omega, fun i _ _ => by omega, fun _ _ => rfl, by show (0 : Int) + (0 : Int64).toInt * 1 = 0 - 0; rw [show (0 : Int64).toInt = 0 from rfl]; omega⟩, ?_⟩
  rintro n c x f' rx ⟨rfl, b1, b2, b3, b4, b5, b6⟩
  refine ⟨fun q => hp f' ?_, fun q => ⟨by omega, fun v1 e1 => ⟨by omega, fun v2 e2 c2 ec2 => ?_⟩⟩⟩
  · have e : x = 6 := by omega
    subst e
    have vl : VL f' 0 6 := fun i i0 i1 => by rw [Int.zero_add]; exact b4 i i0 i1
    have s := VS.b vl
    have b6' : VS f' 0 6 + c.toInt * PB 6 = v - u := by rw [← hf.2, ← hg.2]; exact b6
    have c0 : c.toInt = 0 := by
      rcases (show c.toInt = -1 ∨ c.toInt = 0 by omega) with r | r
      · rw [r] at b6'; omega
      · exact r
    rw [c0] at b6'
    exact ⟨vl, by omega⟩
  · have lx := hf.limb b1 (by omega)
    rw [b5 x (Int.le_refl _)] at e1
    rw [← e1] at lx
    have ly := hg.limb b1 (by omega)
    rw [← e2] at ly
    have t1 : (v1 - v2).toInt = v1.toInt - v2.toInt := tI_sub ⟨by omega, by omega⟩
    have t2 : c2.toInt = c.toInt + (v1.toInt - v2.toInt) := by rw [ec2, tI_add (by rw [t1]; exact ⟨by omega, by omega⟩), t1]
    refine ⟨by omega, fun f2 ef c3 e3 => nx (by omega) ⟨_, ?_, rfl, by omega, by omega, ?_, fun i i0 i1 => ?_, fun i i0 => ?_, ?_⟩⟩
    · omega
    · rw [e3, tI_shr31]; omega
    · rw [ef]
      by_cases e : i = x
      · rw [e, upZ_s, tI_and31]; omega
      · rw [upZ_n _ _ e]; exact b4 i i0 (by omega)
    · rw [ef, upZ_n _ _ (by omega)]; exact b5 i (by omega)
    · rw [e3, tI_shr31, ef, VS.next b1 (tI_and31 c2), VS.old b1, VS.old b1, t2, Int.add_mul, Int.sub_mul, ← e1, ← e2]
      omega
