/-! the reference's numbers, a row each -/
def rw6 (g : Int → Int64) (r : Int) : Int → Int64 := fun i => g (6 * r + i)
def FrR (g g' : Int → Int64) (r : Int) : Prop := ∀ j : Int, (j < 6 * r ∨ 6 * r + 6 ≤ j) → g' j = g j
theorem FrR.refl {g : Int → Int64} {r : Int} : FrR g g r := fun _ _ => rfl
theorem FrR.trans {g g' g'' : Int → Int64} {r : Int} (h : FrR g g' r) (h' : FrR g' g'' r) : FrR g g'' r := fun j hj => (h' j hj).trans (h j hj)
theorem FrR.up {g : Int → Int64} {r i : Int} {v : Int64} (h0 : 0 ≤ i) (h1 : i < 6) : FrR g (upZ g (6 * r + i) v) r := fun j hj => upZ_n g v (by omega)
theorem FrR.row {g g' : Int → Int64} {r s v : Int} (h : FrR g g' r) (hs : ¬ s = r) (hn : NW6 (rw6 g s) v) : NW6 (rw6 g' s) v := NW6.congr (fun i i0 i1 => (h (6 * s + i) (by omega)).symm) hn
theorem rw6_up {g : Int → Int64} {r l : Int} {v : Int64} : rw6 (upZ g (6 * r + l) v) r = upZ (rw6 g r) l v := by
  funext i
  unfold rw6 upZ
  by_cases h : i = l
  · rw [if_pos h, if_pos (by omega)]
  · rw [if_neg h, if_neg (by omega)]
theorem s_putM {post : (Int → Int64) → Prop} {g : Int → Int64} {r : Int} {v : Int64} (hr : 0 ≤ r ∧ r < 450) (hv : 0 ≤ v.toInt ∧ v.toInt < 2147483648) (hp : ∀ g', FrR g g' r → NW6 (rw6 g' r) v.toInt → post g') : P_X12_put post g r v := by
  unfold P_X12_put
  refine ⟨fun n x g' => n = (6 - x).toNat ∧ 0 ≤ x ∧ x ≤ 6 ∧ FrR g g' r ∧ ∀ i, 0 ≤ i → i < x → g' (6 * r + i) = if i = 0 then v else 0, ⟨_, rfl, by omega, by omega, FrR.refl, fun i _ _ => by omega⟩, ?_⟩
  rintro n x g' rx ⟨rfl, b1, b2, b3, b4⟩
  refine ⟨fun q => hp g' b3 ?_, fun q => ⟨fun z => z = if x = 0 then v else 0, ⟨fun y => (if_neg y).symm, fun y => (if_pos y).symm⟩, ?_⟩⟩
  · refine ⟨fun i i0 i1 => ?_, ?_⟩
    · rw [Int.zero_add]
      unfold rw6
      rw [b4 i i0 (by omega)]
      by_cases z : i = 0
      · rw [if_pos z]; exact hv
      · rw [if_neg z, show (0 : Int64).toInt = 0 from rfl]; omega
    · rw [VS.cons, VS.zero (fun i i0 i1 => by unfold rw6; rw [b4 _ (by omega) (by omega), if_neg (by omega)])]
      unfold rw6
      rw [b4 0 (by omega) (by omega), if_pos rfl]
      omega
  · rintro z rfl
    refine ⟨by omega, fun g2 eg => nx (by omega) ⟨_, ?_, rfl, by omega, by omega, ?_, fun i i0 i1 => ?_⟩⟩
    · omega
    · rw [eg]; exact b3.trans (FrR.up b1 (by omega))
    · rw [eg]
      by_cases e : i = x
      · rw [e, upZ_s]
      · rw [upZ_n _ _ (by omega)]; exact b4 i i0 (by omega)
theorem s_copyM {post : (Int → Int64) → Prop} {g : Int → Int64} {r s v : Int} (hr : 0 ≤ r ∧ r < 450) (hs : 0 ≤ s ∧ s < 450) (hn : ¬ r = s) (hv : NW6 (rw6 g r) v) (hp : ∀ g', FrR g g' s → NW6 (rw6 g' s) v → post g') : P_X12_copy post g r s := by
  unfold P_X12_copy
  refine ⟨fun n x g' => n = (6 - x).toNat ∧ 0 ≤ x ∧ x ≤ 6 ∧ FrR g g' s ∧ ∀ i, 0 ≤ i → i < x → g' (6 * s + i) = g (6 * r + i), ⟨_, rfl, by omega, by omega, FrR.refl, fun i _ _ => by omega⟩, ?_⟩
  rintro n x g' rx ⟨rfl, b1, b2, b3, b4⟩
  refine ⟨fun q => hp g' b3 (NW6.congr (fun i i0 i1 => (b4 i i0 (by omega)).symm) hv), fun q => ⟨by omega, fun v1 e1 => ⟨by omega, fun g2 eg => nx (by omega) ⟨_, ?_, rfl, by omega, by omega, ?_, fun i i0 i1 => ?_⟩⟩⟩⟩
  · omega
  · rw [eg]; exact b3.trans (FrR.up b1 (by omega))
  · rw [eg]
    by_cases e : i = x
    · rw [e, upZ_s, e1]; exact b3 _ (by omega)
    · rw [upZ_n _ _ (by omega)]; exact b4 i i0 (by omega)
/-- settling: the value stays, the limbs come into their bounds -/
theorem s_settleB {post : (Int → Int64) → Prop} {g : Int → Int64} {r v : Int} (hr : 0 ≤ r ∧ r < 450) (hb : ∀ i, 0 ≤ i → i < 6 → -4611686018427387904 ≤ (g (6 * r + i)).toInt ∧ (g (6 * r + i)).toInt ≤ 4611686018427387904) (hv : VS (rw6 g r) 0 6 = v) (h0 : 0 ≤ v) (h1 : v < PB 6) (hp : ∀ g', FrR g g' r → NW6 (rw6 g' r) v → post g') : P_X12_settle post g r := by
  unfold P_X12_settle
  refine ⟨fun n x g' => n = (5 - x).toNat ∧ 0 ≤ x ∧ x ≤ 5 ∧ FrR g g' r ∧ (∀ i, 0 ≤ i → i < x → 0 ≤ (g' (6 * r + i)).toInt ∧ (g' (6 * r + i)).toInt < 2147483648) ∧ (-4611686022722355200 ≤ (g' (6 * r + x)).toInt ∧ (g' (6 * r + x)).toInt ≤ 4611686022722355200) ∧ (∀ i, x < i → i < 6 → g' (6 * r + i) = g (6 * r + i)) ∧ VS (rw6 g' r) 0 6 = v, ⟨_, rfl, by omega, by omega, FrR.refl, fun i _ _ => by omega, by have := hb 0 (by omega) (by omega); omega, fun _ _ _ => rfl, hv⟩, ?_⟩
  rintro n x g' rx ⟨rfl, b1, b2, b3, b4, b5, b6, b7⟩
  refine ⟨fun q => hp g' b3 ⟨?_, b7⟩, fun q => ⟨by omega, fun v1 e1 => ⟨by omega, fun v2 e2 => ⟨by omega, fun g2 eg2 => ⟨by omega, fun v3 e3 => ⟨by omega, fun g3 eg3 => ?_⟩⟩⟩⟩⟩⟩
  · have ex : x = 5 := by omega
    subst ex
    have lo : VL (rw6 g' r) 0 5 := fun i i0 i1 => by rw [Int.zero_add]; exact b4 i i0 i1
    have lb := VS.b lo
    have s : VS (rw6 g' r) 0 6 = VS (rw6 g' r) 0 5 + (rw6 g' r (0 + (5 : Nat))).toInt * PB 5 := rfl
    rw [b7] at s
    have e6 : PB 6 = PB 5 * 2147483648 := rfl
    have p5 := PB_pos 5
    intro i i0 i1
    rw [Int.zero_add]
    by_cases h : i = 5
    · subst h
      have s' : v = VS (rw6 g' r) 0 5 + (rw6 g' r 5).toInt * PB 5 := s
      generalize (rw6 g' r 5).toInt = t at *
      refine ⟨?_, ?_⟩
      · apply Classical.byContradiction
        intro k
        have : t * PB 5 ≤ (-1) * PB 5 := Int.mul_le_mul_of_nonneg_right (by omega) (Int.le_of_lt p5)
        omega
      · apply Classical.byContradiction
        intro k
        have : 2147483648 * PB 5 ≤ t * PB 5 := Int.mul_le_mul_of_nonneg_right (by omega) (Int.le_of_lt p5)
        omega
    · exact b4 i i0 (by omega)
  · rw [show 6 * r + x + 1 = 6 * r + (x + 1) by omega] at e1 eg2
    rw [eg2, upZ_n _ _ (by omega), ← e2] at e3
    rw [b6 _ (by omega) (by omega)] at e1
    have l1 := hb (x + 1) (by omega) (by omega)
    rw [← e1] at l1
    rw [← e2] at b5
    have t1 : (shrL v2 31).toInt = v2.toInt / 2147483648 := tI_shr31 v2
    have t2 : (v1 + shrL v2 31).toInt = v1.toInt + v2.toInt / 2147483648 := by rw [tI_add (by rw [t1]; exact ⟨by omega, by omega⟩), t1]
    have t3 : (v3 &&& 2147483647).toInt = v2.toInt % 2147483648 := by rw [e3, tI_and31]
    refine nx (by omega) ⟨_, ?_, rfl, by omega, by omega, ?_, fun i i0 i1 => ?_, ?_, fun i i0 i1 => ?_, ?_⟩
    · omega
    · rw [eg3, eg2]; exact b3.trans ((FrR.up (by omega) (by omega)).trans (FrR.up (by omega) (by omega)))
    · rw [eg3]
      by_cases e : i = x
      · rw [e, upZ_s, t3]; omega
      · rw [upZ_n _ _ (by omega), eg2, upZ_n _ _ (by omega)]; exact b4 i i0 (by omega)
    · rw [eg3, upZ_n _ _ (by omega), eg2, upZ_s, t2]; omega
    · rw [eg3, upZ_n _ _ (by omega), eg2, upZ_n _ _ (by omega)]; exact b6 i (by omega) i1
    · rw [eg3, rw6_up, eg2, rw6_up, VS.set b1 (by omega), VS.set (by omega) (by omega), b7, t2, t3, upZ_n _ _ (by omega)]
      have a1 : (rw6 g' r (x + 1)).toInt = v1.toInt := by rw [e1]; unfold rw6; rw [b6 _ (by omega) (by omega)]
      have a2 : (rw6 g' r x).toInt = v2.toInt := by rw [e2]; rfl
      rw [a1, a2, show v1.toInt + v2.toInt / 2147483648 - v1.toInt = v2.toInt / 2147483648 by omega, show (x + 1).toNat = x.toNat + 1 by omega]
      show v + v2.toInt / 2147483648 * (PB x.toNat * 2147483648) + (v2.toInt % 2147483648 - v2.toInt) * PB x.toNat = v
      have := carry (c := v2.toInt) (P := PB x.toNat) rfl rfl
      rw [Int.sub_mul]
      omega
theorem VS.lin {f f' h : Int → Int64} {t : Int} : ∀ {n : Nat}, (∀ i : Int, 0 ≤ i → i < n → (f' i).toInt = (f i).toInt + t * (h i).toInt) → VS f' 0 n = VS f 0 n + t * VS h 0 n := by
  intro n
  induction n with
  | zero => intro _; show (0 : Int) = 0 + t * 0; omega
  | succ n ih =>
    intro k
    show VS f' 0 n + (f' (0 + n)).toInt * PB n = VS f 0 n + (f (0 + n)).toInt * PB n + t * (VS h 0 n + (h (0 + n)).toInt * PB n)
    rw [ih (fun i i0 i1 => k i i0 (by omega)), Int.zero_add, k n (by omega) (by omega), Int.add_mul, Int.mul_add, ← Int.mul_assoc]
    omega
theorem s_addM {post : (Int → Int64) → Prop} {g : Int → Int64} {r s v u : Int} {t : Int64} (hr : 0 ≤ r ∧ r < 450) (hs : 0 ≤ s ∧ s < 450) (hn : ¬ r = s) (hv : NW6 (rw6 g r) v) (hu : NW6 (rw6 g s) u) (ht : 0 ≤ t.toInt ∧ t.toInt ≤ 1073741824) (hb : v + t.toInt * u < PB 6) (hp : ∀ g', FrR g g' r → NW6 (rw6 g' r) (v + t.toInt * u) → post g') : P_X12_add post g r s t := by
  have ub := hu.b
  have vb := hv.b
  unfold P_X12_add
  refine ⟨fun n x g' => n = (6 - x).toNat ∧ 0 ≤ x ∧ x ≤ 6 ∧ FrR g g' r ∧ (∀ i, 0 ≤ i → i < x → (g' (6 * r + i)).toInt = (g (6 * r + i)).toInt + t.toInt * (g (6 * s + i)).toInt) ∧ (∀ i, x ≤ i → i < 6 → g' (6 * r + i) = g (6 * r + i)), ⟨_, rfl, by omega, by omega, FrR.refl, fun i _ _ => by omega, fun _ _ _ => rfl⟩, ?_⟩
  rintro n x g' rx ⟨rfl, b1, b2, b3, b4, b5⟩
  have lim : ∀ i, 0 ≤ i → i < 6 → 0 ≤ (g (6 * r + i)).toInt + t.toInt * (g (6 * s + i)).toInt ∧ (g (6 * r + i)).toInt + t.toInt * (g (6 * s + i)).toInt ≤ 4611686018427387904 := by
    intro i i0 i1
    have l1 : 0 ≤ (g (6 * r + i)).toInt ∧ (g (6 * r + i)).toInt < 2147483648 := hv.limb i0 i1
    have l2 : 0 ≤ (g (6 * s + i)).toInt ∧ (g (6 * s + i)).toInt < 2147483648 := hu.limb i0 i1
    have m0 : 0 ≤ t.toInt * (g (6 * s + i)).toInt := Int.mul_nonneg ht.1 l2.1
    have m1 : t.toInt * (g (6 * s + i)).toInt ≤ 1073741824 * 2147483647 := Int.mul_le_mul ht.2 (by omega) l2.1 (by decide)
    omega
  refine ⟨fun q => ?_, fun q => ⟨by omega, fun v1 e1 => ⟨by omega, fun v2 e2 => ⟨by omega, fun g2 eg => nx (by omega) ⟨_, ?_, rfl, by omega, by omega, ?_, fun i i0 i1 => ?_, fun i i0 i1 => ?_⟩⟩⟩⟩⟩
  · have m0 : 0 ≤ t.toInt * u := Int.mul_nonneg ht.1 ub.1
    refine s_settleB (v := v + t.toInt * u) hr (fun i i0 i1 => ?_) ?_ (by omega) hb (fun g3 f3 h3 => hp g3 (b3.trans f3) h3)
    · rw [b4 i i0 (by omega)]
      have := lim i i0 i1
      omega
    · rw [VS.lin (f' := rw6 g' r) (n := 6) (f := rw6 g r) (h := rw6 g s) (t := t.toInt) (fun i i0 i1 => b4 i i0 (by omega)), hv.2, hu.2]
  · omega
  · rw [eg]; exact b3.trans (FrR.up b1 (by omega))
  · rw [eg]
    by_cases e : i = x
    · rw [b3 _ (by omega)] at e2
      rw [b5 x (by omega) (by omega)] at e1
      have l2 : 0 ≤ (g (6 * s + x)).toInt ∧ (g (6 * s + x)).toInt < 2147483648 := hu.limb b1 (by omega)
      have m0 : 0 ≤ t.toInt * (g (6 * s + x)).toInt := Int.mul_nonneg ht.1 l2.1
      have l := lim x b1 (by omega)
      have l1 : 0 ≤ (g (6 * r + x)).toInt ∧ (g (6 * r + x)).toInt < 2147483648 := hv.limb b1 (by omega)
      have t1 : (t * v2).toInt = t.toInt * (g (6 * s + x)).toInt := by rw [tI_mul (by rw [e2]; exact ⟨by omega, by omega⟩), e2]
      rw [e, upZ_s, tI_add (by rw [t1, e1]; exact ⟨by omega, by omega⟩), t1, e1]
    · rw [upZ_n _ _ (by omega)]; exact b4 i i0 (by omega)
  · rw [eg, upZ_n _ _ (by omega)]; exact b5 i (by omega) i1
theorem s_takeM {post : (Int → Int64) → Prop} {g : Int → Int64} {r s v u : Int} (hr : 0 ≤ r ∧ r < 450) (hs : 0 ≤ s ∧ s < 450) (hn : ¬ r = s) (hv : NW6 (rw6 g r) v) (hu : NW6 (rw6 g s) u) (hl : u ≤ v) (hp : ∀ g', FrR g g' r → NW6 (rw6 g' r) (v - u) → post g') : P_X12_take post g r s := by
  have ub := hu.b
  have vb := hv.b
  unfold P_X12_take
  refine ⟨fun n x g' => n = (6 - x).toNat ∧ 0 ≤ x ∧ x ≤ 6 ∧ FrR g g' r ∧ (∀ i, 0 ≤ i → i < x → (g' (6 * r + i)).toInt = (g (6 * r + i)).toInt + (-1) * (g (6 * s + i)).toInt) ∧ (∀ i, x ≤ i → i < 6 → g' (6 * r + i) = g (6 * r + i)), ⟨_, rfl, by omega, by omega, FrR.refl, fun i _ _ => by omega, fun _ _ _ => rfl⟩, ?_⟩
  rintro n x g' rx ⟨rfl, b1, b2, b3, b4, b5⟩
  have lim : ∀ i, 0 ≤ i → i < 6 → (0 ≤ (g (6 * r + i)).toInt ∧ (g (6 * r + i)).toInt < 2147483648) ∧ (0 ≤ (g (6 * s + i)).toInt ∧ (g (6 * s + i)).toInt < 2147483648) := fun i i0 i1 => ⟨hv.limb i0 i1, hu.limb i0 i1⟩
  refine ⟨fun q => ?_, fun q => ⟨by omega, fun v1 e1 => ⟨by omega, fun v2 e2 => ⟨by omega, fun g2 eg => nx (by omega) ⟨_, ?_, rfl, by omega, by omega, ?_, fun i i0 i1 => ?_, fun i i0 i1 => ?_⟩⟩⟩⟩⟩
  · refine s_settleB (v := v - u) hr (fun i i0 i1 => ?_) ?_ (by omega) (by omega) (fun g3 f3 h3 => hp g3 (b3.trans f3) h3)
    · rw [b4 i i0 (by omega)]
      have := lim i i0 i1
      omega
    · rw [VS.lin (f' := rw6 g' r) (n := 6) (f := rw6 g r) (h := rw6 g s) (t := -1) (fun i i0 i1 => b4 i i0 (by omega)), hv.2, hu.2]
      omega
  · omega
  · rw [eg]; exact b3.trans (FrR.up b1 (by omega))
  · rw [eg]
    by_cases e : i = x
    · rw [b3 _ (by omega)] at e2
      rw [b5 x (by omega) (by omega)] at e1
      have l := lim x b1 (by omega)
      rw [e, upZ_s, tI_sub (by rw [e1, e2]; exact ⟨by omega, by omega⟩), e1, e2]
      omega
    · rw [upZ_n _ _ (by omega)]; exact b4 i i0 (by omega)
  · rw [eg, upZ_n _ _ (by omega)]; exact b5 i (by omega) i1
theorem s_twice {post : (Int → Int64) → Prop} {g : Int → Int64} {r v : Int} (hr : 0 ≤ r ∧ r < 450) (hv : NW6 (rw6 g r) v) (hb : 2 * v < PB 6) (hp : ∀ g', FrR g g' r → NW6 (rw6 g' r) (2 * v) → post g') : P_X12_twice post g r := by
  have vb := hv.b
  unfold P_X12_twice
  refine ⟨fun n x g' => n = (6 - x).toNat ∧ 0 ≤ x ∧ x ≤ 6 ∧ FrR g g' r ∧ (∀ i, 0 ≤ i → i < x → (g' (6 * r + i)).toInt = (g (6 * r + i)).toInt + 1 * (g (6 * r + i)).toInt) ∧ (∀ i, x ≤ i → i < 6 → g' (6 * r + i) = g (6 * r + i)), ⟨_, rfl, by omega, by omega, FrR.refl, fun i _ _ => by omega, fun _ _ _ => rfl⟩, ?_⟩
  rintro n x g' rx ⟨rfl, b1, b2, b3, b4, b5⟩
  have lim : ∀ i, 0 ≤ i → i < 6 → (0 ≤ (g (6 * r + i)).toInt ∧ (g (6 * r + i)).toInt < 2147483648) := fun i i0 i1 => hv.limb i0 i1
  refine ⟨fun q => ?_, fun q => ⟨by omega, fun v1 e1 => ⟨by omega, fun g2 eg => nx (by omega) ⟨_, ?_, rfl, by omega, by omega, ?_, fun i i0 i1 => ?_, fun i i0 i1 => ?_⟩⟩⟩⟩
  · refine s_settleB (v := 2 * v) hr (fun i i0 i1 => ?_) ?_ (by omega) (by omega) (fun g3 f3 h3 => hp g3 (b3.trans f3) h3)
    · rw [b4 i i0 (by omega)]
      have := lim i i0 i1
      omega
    · rw [VS.lin (f' := rw6 g' r) (n := 6) (f := rw6 g r) (h := rw6 g r) (t := 1) (fun i i0 i1 => b4 i i0 (by omega)), hv.2]
      omega
  · omega
  · rw [eg]; exact b3.trans (FrR.up b1 (by omega))
  · rw [eg]
    by_cases e : i = x
    · rw [b5 x (by omega) (by omega)] at e1
      have l := lim x b1 (by omega)
      have two : (2 : Int64).toInt = 2 := rfl
      rw [e, upZ_s, tI_mul (by rw [e1, two]; exact ⟨by omega, by omega⟩), e1, two]
      omega
    · rw [upZ_n _ _ (by omega)]; exact b4 i i0 (by omega)
  · rw [eg, upZ_n _ _ (by omega)]; exact b5 i (by omega) i1
theorem s_compareB {post : Int → Prop} {g : Int → Int64} {r s v u : Int} (hr : 0 ≤ r ∧ r < 450) (hs : 0 ≤ s ∧ s < 450) (hv : NW6 (rw6 g r) v) (hu : NW6 (rw6 g s) u) (hp : ∀ c : Int, (c < 0 ↔ v < u) → post c) : P_X12_compare post g r s := by
  unfold P_X12_compare
  refine ⟨fun n c x => n = (6 - x).toNat ∧ 0 ≤ x ∧ x ≤ 6 ∧ ((c = -1 ∧ VS (rw6 g r) 0 x.toNat < VS (rw6 g s) 0 x.toNat) ∨ (c = 0 ∧ VS (rw6 g r) 0 x.toNat = VS (rw6 g s) 0 x.toNat) ∨ (c = 1 ∧ VS (rw6 g s) 0 x.toNat < VS (rw6 g r) 0 x.toNat)), ⟨_, rfl, by omega, by omega, Or.inr (Or.inl ⟨rfl, rfl⟩)⟩, ?_⟩
  rintro n c x rc rx ⟨rfl, b1, b2, b3⟩
  refine ⟨fun q => hp c ?_, fun q => ⟨by omega, fun v1 e1 => ⟨by omega, fun v2 e2 d ed => ?_⟩⟩⟩
  · have ex : x = 6 := by omega
    subst ex
    have h1 : VS (rw6 g r) 0 (6 : Int).toNat = v := hv.2
    have h2 : VS (rw6 g s) 0 (6 : Int).toNat = u := hu.2
    rw [h1, h2] at b3
    omega
  · have l1 : 0 ≤ (g (6 * r + x)).toInt ∧ (g (6 * r + x)).toInt < 2147483648 := hv.limb b1 (by omega)
    have l2 : 0 ≤ (g (6 * s + x)).toInt ∧ (g (6 * s + x)).toInt < 2147483648 := hu.limb b1 (by omega)
    have td : d.toInt = (rw6 g r x).toInt - (rw6 g s x).toInt := by rw [ed, tI_sub (by rw [e1, e2]; exact ⟨by omega, by omega⟩), e1, e2]; rfl
    have o1 := VS.old (f := rw6 g r) b1
    have o2 := VS.old (f := rw6 g s) b1
    have s1 := VS.b (n := x.toNat) (fun i i0 i1 => hv.1 i i0 (by omega))
    have s2 := VS.b (n := x.toNat) (fun i i0 i1 => hu.1 i i0 (by omega))
    have pp := PB_pos x.toNat
    generalize (rw6 g r x).toInt = p at *
    generalize (rw6 g s x).toInt = w at *
    have key : ∀ z : Int, ((z = -1 ∧ p < w) ∨ (z = c ∧ p = w) ∨ (z = 1 ∧ w < p)) → ((z = -1 ∧ VS (rw6 g r) 0 (x + 1).toNat < VS (rw6 g s) 0 (x + 1).toNat) ∨ (z = 0 ∧ VS (rw6 g r) 0 (x + 1).toNat = VS (rw6 g s) 0 (x + 1).toNat) ∨ (z = 1 ∧ VS (rw6 g s) 0 (x + 1).toNat < VS (rw6 g r) 0 (x + 1).toNat)) := by
      rintro z (⟨rfl, h⟩ | ⟨rfl, h⟩ | ⟨rfl, h⟩)
      · have : (p + 1) * PB x.toNat ≤ w * PB x.toNat := Int.mul_le_mul_of_nonneg_right (by omega) (Int.le_of_lt pp)
        rw [Int.add_mul] at this
        refine Or.inl ⟨rfl, ?_⟩
        omega
      · subst h
        rw [o1, o2]
        omega
      · have : (w + 1) * PB x.toNat ≤ p * PB x.toNat := Int.mul_le_mul_of_nonneg_right (by omega) (Int.le_of_lt pp)
        rw [Int.add_mul] at this
        refine Or.inr (Or.inr ⟨rfl, ?_⟩)
        omega
    refine ⟨fun z => (z = -1 ∧ p < w) ∨ (z = c ∧ p = w) ∨ (z = 1 ∧ w < p), ⟨fun y => ⟨fun y2 => ?_, fun y2 => ?_⟩, fun y => ?_⟩, fun z rz hz => nx (by omega) ⟨_, ?_, rfl, by omega, by omega, key z hz⟩⟩
    · have h1 := lc0_nn.1 y
      have h2 : ¬ 0 < d.toInt := fun r => lc0_pos.2 r y2
      exact Or.inr (Or.inl ⟨rfl, by omega⟩)
    · have h2 := lc0_pos.1 y2
      exact Or.inr (Or.inr ⟨rfl, by omega⟩)
    · have h2 : ¬ 0 ≤ d.toInt := fun r => y (lc0_nn.2 r)
      exact Or.inl ⟨rfl, by omega⟩
    · omega
theorem s_isNothing {post : Int → Prop} {g : Int → Int64} {r v : Int} (hr : 0 ≤ r ∧ r < 450) (hv : NW6 (rw6 g r) v) (hp : ∀ u : Int, (u = 0 ∨ u = 1) → (u = 1 ↔ v = 0) → post u) : P_X12_isNothing post g r := by
  unfold P_X12_isNothing
  refine ⟨fun n o x => n = (6 - x).toNat ∧ 0 ≤ x ∧ x ≤ 6 ∧ (o = 0 ∨ o = 1) ∧ (o = 1 ↔ VS (rw6 g r) 0 x.toNat = 0), ⟨_, rfl, by omega, by omega, Or.inr rfl, ⟨fun _ => rfl, fun _ => rfl⟩⟩, ?_⟩
  rintro n o x ro rx ⟨rfl, b1, b2, b3, b4⟩
  refine ⟨fun q => ⟨b3, hp o b3 ?_⟩, fun q => ?_⟩
  · have ex : x = 6 := by omega
    subst ex
    have h1 : VS (rw6 g r) 0 (6 : Int).toNat = v := hv.2
    rw [h1] at b4
    exact b4
  · have l1 : 0 ≤ (rw6 g r x).toInt ∧ (rw6 g r x).toInt < 2147483648 := hv.limb b1 (by omega)
    have o1 := VS.old (f := rw6 g r) b1
    have s1 := VS.b (n := x.toNat) (fun i i0 i1 => hv.1 i i0 (by omega))
    have pp := PB_pos x.toNat
    have m0 : 0 ≤ (rw6 g r x).toInt * PB x.toNat := Int.mul_nonneg l1.1 (Int.le_of_lt pp)
    have key : ∀ z : Int, (z = 0 ∨ z = 1) → (z = 1 ↔ VS (rw6 g r) 0 x.toNat = 0 ∧ (rw6 g r x).toInt = 0) → (z = 1 ↔ VS (rw6 g r) 0 (x + 1).toNat = 0) := by
      intro z _ hz
      rw [hz, o1]
      constructor
      · rintro ⟨h1, h2⟩
        rw [h1, h2]
        omega
      · intro h
        refine ⟨by omega, ?_⟩
        apply Classical.byContradiction
        intro k
        have : 1 * PB x.toNat ≤ (rw6 g r x).toInt * PB x.toNat := Int.mul_le_mul_of_nonneg_right (by omega) (Int.le_of_lt pp)
        omega
    refine ⟨fun z => (z = 0 ∨ z = 1) ∧ (z = 1 ↔ VS (rw6 g r) 0 x.toNat = 0 ∧ (rw6 g r x).toInt = 0), ⟨¬ (VS (rw6 g r) 0 x.toNat = 0 ∧ (rw6 g r x).toInt = 0), ⟨fun y k => ?_, fun y => ⟨by omega, fun w ew => ⟨fun y2 k => ?_, fun y2 => ⟨Or.inr rfl, ?_⟩⟩⟩⟩, fun k => ⟨Or.inl rfl, ⟨fun q => absurd q (by decide), fun q => absurd q k⟩⟩⟩, fun z rz hz => nx (by omega) ⟨_, ?_, rfl, by omega, by omega, hz.1, key z hz.1 hz.2⟩⟩
    · have := b4.2 k.1
      rw [y] at this
      exact absurd this (by decide)
    · refine y2 (lc0_zero.2 ?_)
      rw [ew]
      exact k.2
    · have h1 := b4.1 (b3.resolve_left y)
      have h2 := lc0_zero.1 y2
      rw [ew] at h2
      exact ⟨fun _ => ⟨h1, h2⟩, fun _ => rfl⟩
    · omega
