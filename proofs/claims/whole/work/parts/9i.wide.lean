/-! the class's wide numbers -/
theorem PB_add (m n : Nat) : PB (m + n) = PB m * PB n := by
  induction n with
  | zero => show PB m = PB m * 1; omega
  | succ n ih => show PB (m + n) * 2147483648 = PB m * (PB n * 2147483648); rw [ih, Int.mul_assoc]
theorem VS.cons {g : Int → Int64} {b : Int} : ∀ {n : Nat}, VS g b (n + 1) = (g b).toInt + VS g (b + 1) n * 2147483648 := by
  intro n
  induction n with
  | zero => show 0 + (g (b + (0 : Nat))).toInt * 1 = (g b).toInt + 0 * 2147483648; rw [show b + ((0 : Nat) : Int) = b by omega]; omega
  | succ n ih =>
    show VS g b (n + 1) + (g (b + (n + 1 : Nat))).toInt * (PB n * 2147483648) = (g b).toInt + (VS g (b + 1) n + (g (b + 1 + n)).toInt * PB n) * 2147483648
    rw [ih, Int.add_mul, show b + ((n + 1 : Nat) : Int) = b + 1 + n by omega, ← Int.mul_assoc]
    omega
def NW6 (f : Int → Int64) (v : Int) : Prop := VL f 0 6 ∧ VS f 0 6 = v
theorem NW6.b {f : Int → Int64} {v : Int} (h : NW6 f v) : 0 ≤ v ∧ v < PB 6 := by rw [← h.2]; exact VS.b h.1
theorem NW6.limb {f : Int → Int64} {v i : Int} (h : NW6 f v) (h0 : 0 ≤ i) (h1 : i < 6) : 0 ≤ (f i).toInt ∧ (f i).toInt < 2147483648 := by
  have := h.1 i h0 h1
  rw [Int.zero_add] at this
  exact this
theorem s_fill6 {post : (Int → Int64) → Prop} {a : Int → Int64} {v : Int64} (hp : ∀ b : Int → Int64, (∀ j, 0 ≤ j → j < 6 → b j = v) → post b) : P_J7_fill_d0a16_55 post a v := by
  unfold P_J7_fill_d0a16_55
  refine ⟨fun n x b => n = (6 - x).toNat ∧ 0 ≤ x ∧ x ≤ 6 ∧ ∀ j, 0 ≤ j → j < x → b j = v, ⟨_, rfl, by omega, by omega, fun j _ _ => by omega⟩, ?_⟩
  rintro n x b rx ⟨rfl, b1, b2, b3⟩
  refine ⟨fun q => hp b (fun j j0 j1 => b3 j j0 (by omega)), fun q => ⟨by omega, fun b' eb => nx (by omega) ⟨_, ?_, rfl, by omega, by omega, fun j j0 j1 => ?_⟩⟩⟩
  · omega
  · rw [eb]
    by_cases z : j = x
    · rw [z, upZ_s]
    · rw [upZ_n _ _ z]; exact b3 j j0 (by omega)
theorem VS.zero {f : Int → Int64} {b : Int} : ∀ {n : Nat}, (∀ i : Int, 0 ≤ i → i < n → f (b + i) = 0) → VS f b n = 0 := by
  intro n
  induction n with
  | zero => intro _; rfl
  | succ n ih =>
    intro h
    show VS f b n + (f (b + n)).toInt * PB n = 0
    rw [ih (fun i i0 i1 => h i i0 (by omega)), h n (by omega) (by omega)]
    show 0 + (0 : Int64).toInt * PB n = 0
    rw [show (0 : Int64).toInt = 0 from rfl]
    omega
theorem NW6.zero {f : Int → Int64} (h : ∀ j, 0 ≤ j → j < 6 → f j = 0) : NW6 f 0 := by
  refine ⟨fun i i0 i1 => ?_, VS.zero (fun i i0 i1 => by rw [Int.zero_add]; exact h i i0 i1)⟩
  rw [Int.zero_add, h i i0 i1, show (0 : Int64).toInt = 0 from rfl]
  omega
theorem NW6.small {f : Int → Int64} {k : Int} (h0 : 0 ≤ k) (h1 : k < 2147483648) (hz : ∀ j, 0 ≤ j → j < 6 → f j = 0) : NW6 (upZ f 0 (Int64.ofInt k)) k := by
  have tk := tI_of (z := k) ⟨by omega, by omega⟩
  refine ⟨fun i i0 i1 => ?_, ?_⟩
  · rw [Int.zero_add]
    by_cases e : i = 0
    · rw [e, upZ_s, tk]; omega
    · rw [upZ_n _ _ e, hz i i0 i1, show (0 : Int64).toInt = 0 from rfl]; omega
  · rw [VS.cons, upZ_s, tk, VS.up (by omega), VS.zero (fun i i0 i1 => hz _ (by omega) (by omega))]
    omega
theorem s_set54 {post : (Int → Int64) → Prop} {a : Int → Int64} {k : Int} (h0 : 0 ≤ k) (h1 : k < 2147483648) (hp : ∀ b, NW6 b k → post b) : P_X10_set_54 post a k := by
  unfold P_X10_set_54
  exact s_fill6 (fun b hb c ec => by rw [ec]; exact hp _ (NW6.small h0 h1 hb))
/-- one more limb, with a carry -/
theorem VS.next {f : Int → Int64} {x c : Int} {v : Int64} (h0 : 0 ≤ x) (ev : v.toInt = c % 2147483648) : VS (upZ f x v) 0 (x + 1).toNat + c / 2147483648 * PB (x + 1).toNat = VS f 0 x.toNat + c * PB x.toNat := by
  rw [show (x + 1).toNat = x.toNat + 1 by omega]
  show VS (upZ f x v) 0 x.toNat + (upZ f x v (0 + (x.toNat : Nat))).toInt * PB x.toNat + c / 2147483648 * (PB x.toNat * 2147483648) = _
  rw [VS.up (by omega), show (0 : Int) + ((x.toNat : Nat) : Int) = x by omega, upZ_s, ev]
  have := carry (c := c) (P := PB x.toNat) rfl rfl
  omega
theorem VS.old {f : Int → Int64} {x : Int} (h0 : 0 ≤ x) : VS f 0 (x + 1).toNat = VS f 0 x.toNat + (f x).toInt * PB x.toNat := by
  rw [show (x + 1).toNat = x.toNat + 1 by omega]
  show VS f 0 x.toNat + (f (0 + (x.toNat : Nat))).toInt * PB x.toNat = _
  rw [show (0 : Int) + ((x.toNat : Nat) : Int) = x by omega]
theorem s_scale54 {post : (Int → Int64) → Prop} {f : Int → Int64} {v k : Int} (hf : NW6 f v) (hk : 0 ≤ k ∧ k ≤ 65536) (hb : v * k < PB 6) (hp : ∀ f', NW6 f' (v * k) → post f') : P_X10_scale_54 post f k := by
  have tk := tI_of (z := k) ⟨by omega, by omega⟩
  unfold P_X10_scale_54
  refine ⟨fun n c x f' => n = (6 - x).toNat ∧ 0 ≤ x ∧ x ≤ 6 ∧ (0 ≤ c.toInt ∧ c.toInt ≤ k) ∧ (∀ i, 0 ≤ i → i < x → 0 ≤ (f' i).toInt ∧ (f' i).toInt < 2147483648) ∧ (∀ i, x ≤ i → f' i = f i) ∧ VS f' 0 x.toNat + c.toInt * PB x.toNat = VS f 0 x.toNat * k, ⟨_, rfl, by omega, by omega, by rw [show (0 : Int64).toInt = 0 from rfl]; omega, fun i _ _ => by omega, fun _ _ => rfl, by show (0 : Int) + (0 : Int64).toInt * 1 = 0 * k; rw [show (0 : Int64).toInt = 0 from rfl]; omega⟩, ?_⟩
  rintro n c x f' rx ⟨rfl, b1, b2, b3, b4, b5, b6⟩
  refine ⟨fun q => hp f' ?_, fun q => ⟨by omega, fun v1 e1 c2 e2 => ?_⟩⟩
  · have e : x = 6 := by omega
    subst e
    have vl : VL f' 0 6 := fun i i0 i1 => by rw [Int.zero_add]; exact b4 i i0 i1
    have s := VS.b vl
    have b6' : VS f' 0 6 + c.toInt * PB 6 = v * k := by rw [← hf.2]; exact b6
    have c0 := carry_end b6' s.1 b3.1 hb
    rw [c0] at b6'
    exact ⟨vl, by omega⟩
  · have lx := hf.limb b1 (by omega)
    rw [b5 x (Int.le_refl _)] at e1
    rw [← e1] at lx
    have m0 : 0 ≤ v1.toInt * k := Int.mul_nonneg lx.1 hk.1
    have m1 : v1.toInt * k ≤ 2147483647 * k := Int.mul_le_mul_of_nonneg_right (by omega) hk.1
    have t1 : (v1 * Int64.ofInt k).toInt = v1.toInt * k := by rw [tI_mul (by rw [tk]; exact ⟨by omega, by omega⟩), tk]
    have t2 : c2.toInt = c.toInt + v1.toInt * k := by rw [e2, tI_add (by rw [t1]; exact ⟨by omega, by omega⟩), t1]
    refine ⟨by omega, fun f2 ef c3 e3 => nx (by omega) ⟨_, ?_, rfl, by omega, by omega, ?_, fun i i0 i1 => ?_, fun i i0 => ?_, ?_⟩⟩
    · omega
    · rw [e3, tI_ushr31 (by omega)]; omega
    · rw [ef]
      by_cases e : i = x
      · rw [e, upZ_s, tI_and31]; omega
      · rw [upZ_n _ _ e]; exact b4 i i0 (by omega)
    · rw [ef, upZ_n _ _ (by omega)]; exact b5 i (by omega)
    · rw [e3, tI_ushr31 (by omega), ef, VS.next b1 (tI_and31 c2), VS.old b1, t2, Int.add_mul, Int.add_mul, ← b6, ← e1]
      rw [show v1.toInt * PB x.toNat * k = v1.toInt * k * PB x.toNat by rw [Int.mul_assoc, Int.mul_comm (PB x.toNat), ← Int.mul_assoc]]
      omega
theorem s_addScaled {post : (Int → Int64) → Prop} {f g : Int → Int64} {v u k st : Int} (hf : NW6 f v) (hg : VL g st 6) (hu : VS g st 6 = u) (hk : 0 ≤ k ∧ k ≤ 65536) (hst : 0 ≤ st ∧ st + 6 ≤ 870) (hb : v + u * k < PB 6) (hp : ∀ f', NW6 f' (v + u * k) → post f') : P_X10_addScaled_59_58 post g f st k := by
  have tk := tI_of (z := k) ⟨by omega, by omega⟩
  unfold P_X10_addScaled_59_58
  refine ⟨fun n c x f' => n = (6 - x).toNat ∧ 0 ≤ x ∧ x ≤ 6 ∧ (0 ≤ c.toInt ∧ c.toInt ≤ k + 1) ∧ (∀ i, 0 ≤ i → i < x → 0 ≤ (f' i).toInt ∧ (f' i).toInt < 2147483648) ∧ (∀ i, x ≤ i → f' i = f i) ∧ VS f' 0 x.toNat + c.toInt * PB x.toNat = VS f 0 x.toNat + VS g st x.toNat * k, ⟨_, rfl, by omega, by omega, by rw [show (0 : Int64).toInt = 0 from rfl]; omega, fun i _ _ => by omega, fun _ _ => rfl, by show (0 : Int) + (0 : Int64).toInt * 1 = 0 + 0 * k; rw [show (0 : Int64).toInt = 0 from rfl]; omega⟩, ?_⟩
  rintro n c x f' rx ⟨rfl, b1, b2, b3, b4, b5, b6⟩
  refine ⟨fun q => hp f' ?_, fun q => ⟨by omega, fun v1 e1 => ⟨by omega, fun v2 e2 c2 ec2 => ?_⟩⟩⟩
  · have e : x = 6 := by omega
    subst e
    have vl : VL f' 0 6 := fun i i0 i1 => by rw [Int.zero_add]; exact b4 i i0 i1
    have s := VS.b vl
    have b6' : VS f' 0 6 + c.toInt * PB 6 = v + u * k := by rw [← hf.2, ← hu]; exact b6
    have c0 := carry_end b6' s.1 b3.1 hb
    rw [c0] at b6'
    exact ⟨vl, by omega⟩
  · have lx := hf.limb b1 (by omega)
    rw [b5 x (Int.le_refl _)] at e1
    rw [← e1] at lx
    have ly := hg x b1 (by omega)
    rw [← e2] at ly
    have m0 : 0 ≤ v2.toInt * k := Int.mul_nonneg ly.1 hk.1
    have m1 : v2.toInt * k ≤ 2147483647 * k := Int.mul_le_mul_of_nonneg_right (by omega) hk.1
    have t1 : (v2 * Int64.ofInt k).toInt = v2.toInt * k := by rw [tI_mul (by rw [tk]; exact ⟨by omega, by omega⟩), tk]
    have t1' : (v1 + v2 * Int64.ofInt k).toInt = v1.toInt + v2.toInt * k := by rw [tI_add (by rw [t1]; exact ⟨by omega, by omega⟩), t1]
    have t2 : c2.toInt = c.toInt + (v1.toInt + v2.toInt * k) := by rw [ec2, tI_add (by rw [t1']; exact ⟨by omega, by omega⟩), t1']
    refine ⟨by omega, fun f2 ef c3 e3 => nx (by omega) ⟨_, ?_, rfl, by omega, by omega, ?_, fun i i0 i1 => ?_, fun i i0 => ?_, ?_⟩⟩
    · omega
    · rw [e3, tI_ushr31 (by omega)]; omega
    · rw [ef]
      by_cases e : i = x
      · rw [e, upZ_s, tI_and31]; omega
      · rw [upZ_n _ _ e]; exact b4 i i0 (by omega)
    · rw [ef, upZ_n _ _ (by omega)]; exact b5 i (by omega)
    · have og : VS g st (x + 1).toNat = VS g st x.toNat + v2.toInt * PB x.toNat := by
        rw [show (x + 1).toNat = x.toNat + 1 by omega, e2]
        show VS g st x.toNat + (g (st + (x.toNat : Nat))).toInt * PB x.toNat = _
        rw [show st + ((x.toNat : Nat) : Int) = st + x by omega]
      rw [e3, tI_ushr31 (by omega), ef, VS.next b1 (tI_and31 c2), VS.old b1, og, t2, Int.add_mul, Int.add_mul, Int.add_mul, ← e1]
      rw [show v2.toInt * PB x.toNat * k = v2.toInt * k * PB x.toNat by rw [Int.mul_assoc, Int.mul_comm (PB x.toNat), ← Int.mul_assoc]]
      omega
theorem s_addScaled6 {post : (Int → Int64) → Prop} {f g : Int → Int64} {v u k : Int} (hf : NW6 f v) (hg : NW6 g u) (hk : 0 ≤ k ∧ k ≤ 65536) (hb : v + u * k < PB 6) (hp : ∀ f', NW6 f' (v + u * k) → post f') : P_X10_addScaled_52_55 post f g 0 k := by
  have tk := tI_of (z := k) ⟨by omega, by omega⟩
  unfold P_X10_addScaled_52_55
  refine ⟨fun n c x f' => n = (6 - x).toNat ∧ 0 ≤ x ∧ x ≤ 6 ∧ (0 ≤ c.toInt ∧ c.toInt ≤ k + 1) ∧ (∀ i, 0 ≤ i → i < x → 0 ≤ (f' i).toInt ∧ (f' i).toInt < 2147483648) ∧ (∀ i, x ≤ i → f' i = f i) ∧ VS f' 0 x.toNat + c.toInt * PB x.toNat = VS f 0 x.toNat + VS g 0 x.toNat * k, ⟨_, rfl, by omega, by omega, by rw [show (0 : Int64).toInt = 0 from rfl]; omega, fun i _ _ => by omega, fun _ _ => rfl, by show (0 : Int) + (0 : Int64).toInt * 1 = 0 + 0 * k; rw [show (0 : Int64).toInt = 0 from rfl]; omega⟩, ?_⟩
  rintro n c x f' rx ⟨rfl, b1, b2, b3, b4, b5, b6⟩
  refine ⟨fun q => hp f' ?_, fun q => ⟨by omega, fun v1 e1 => ⟨by omega, fun v2 e2 c2 ec2 => ?_⟩⟩⟩
  · have e : x = 6 := by omega
    subst e
    have vl : VL f' 0 6 := fun i i0 i1 => by rw [Int.zero_add]; exact b4 i i0 i1
    have s := VS.b vl
    have b6' : VS f' 0 6 + c.toInt * PB 6 = v + u * k := by rw [← hf.2, ← hg.2]; exact b6
    have c0 := carry_end b6' s.1 b3.1 hb
    rw [c0] at b6'
    exact ⟨vl, by omega⟩
  · have lx := hf.limb b1 (by omega)
    rw [b5 x (Int.le_refl _)] at e1
    rw [← e1] at lx
    rw [Int.zero_add] at e2
    have ly := hg.limb b1 (by omega)
    rw [← e2] at ly
    have m0 : 0 ≤ v2.toInt * k := Int.mul_nonneg ly.1 hk.1
    have m1 : v2.toInt * k ≤ 2147483647 * k := Int.mul_le_mul_of_nonneg_right (by omega) hk.1
    have t1 : (v2 * Int64.ofInt k).toInt = v2.toInt * k := by rw [tI_mul (by rw [tk]; exact ⟨by omega, by omega⟩), tk]
    have t1' : (v1 + v2 * Int64.ofInt k).toInt = v1.toInt + v2.toInt * k := by rw [tI_add (by rw [t1]; exact ⟨by omega, by omega⟩), t1]
    have t2 : c2.toInt = c.toInt + (v1.toInt + v2.toInt * k) := by rw [ec2, tI_add (by rw [t1']; exact ⟨by omega, by omega⟩), t1']
    refine ⟨by omega, fun f2 ef c3 e3 => nx (by omega) ⟨_, ?_, rfl, by omega, by omega, ?_, fun i i0 i1 => ?_, fun i i0 => ?_, ?_⟩⟩
    · omega
    · rw [e3, tI_ushr31 (by omega)]; omega
    · rw [ef]
      by_cases e : i = x
      · rw [e, upZ_s, tI_and31]; omega
      · rw [upZ_n _ _ e]; exact b4 i i0 (by omega)
    · rw [ef, upZ_n _ _ (by omega)]; exact b5 i (by omega)
    · rw [e3, tI_ushr31 (by omega), ef, VS.next b1 (tI_and31 c2), VS.old b1, VS.old b1, t2, Int.add_mul, Int.add_mul, Int.add_mul, ← e1, ← e2]
      rw [show v2.toInt * PB x.toNat * k = v2.toInt * k * PB x.toNat by rw [Int.mul_assoc, Int.mul_comm (PB x.toNat), ← Int.mul_assoc]]
      omega
