/-! the class's fraction in lowest terms -/
theorem NW6.congr {f g : Int → Int64} {v : Int} (h : ∀ i : Int, 0 ≤ i → i < 6 → f i = g i) (hf : NW6 f v) : NW6 g v := by
  refine ⟨fun i i0 i1 => ?_, ?_⟩
  · have := hf.1 i i0 i1
    rw [Int.zero_add] at this ⊢
    rw [← h i i0 i1]
    exact this
  · rw [← hf.2]
    exact VS.congr (fun i i0 i1 => by rw [Int.zero_add]; exact (h i i0 i1).symm)
theorem NW6.cp {f g : Int → Int64} {v : Int} (hf : NW6 f v) : NW6 (cpZ f g 0 0 6) v := NW6.congr (fun i i0 i1 => by unfold cpZ; rw [if_pos (by omega)]; congr 1; omega) hf
theorem s_divide53 {post : (Int → Int64) → (Int → Int64) → Prop} {a d q0 r0 : Int → Int64} {A D : Int} (ha : NW6 a A) (hd : NW6 d D) (hD : 0 < D) (hD2 : 2 * D ≤ PB 6) (hp : ∀ q r, NW6 q (A / D) → post q r) : P_X10_divide_53_56_55_57 post a q0 d r0 := (s_divide ha hd hD hD2 hp : P_X10_divide_52_53_55_57 post a d q0 r0)
theorem s_divide52 {post : (Int → Int64) → (Int → Int64) → Prop} {a d q0 r0 : Int → Int64} {A D : Int} (ha : NW6 a A) (hd : NW6 d D) (hD : 0 < D) (hD2 : 2 * D ≤ PB 6) (hp : ∀ q r, NW6 q (A / D) → post q r) : P_X10_divide_52_56_55_57 post a q0 d r0 := (s_divide ha hd hD hD2 hp : P_X10_divide_52_53_55_57 post a d q0 r0)
theorem s_set53 {post : (Int → Int64) → Prop} {a : Int → Int64} {k : Int} (h0 : 0 ≤ k) (h1 : k < 2147483648) (hp : ∀ b, NW6 b k → post b) : P_X10_set_53 post a k := (s_set54 h0 h1 hp : P_X10_set_54 post a k)
theorem gz_zl {a : Int} (h : 0 < a) : gz 0 a = a := by rw [gz_comm, gz_zero (by omega)]
theorem s_reduce {post : (Int → Int64) → (Int → Int64) → (Int → Int64) → (Int → Int64) → (Int → Int64) → Prop} {m a t d s : Int → Int64} {M A : Int} (hm : NW6 m M) (ha : NW6 a A) (hA : 0 < A) (hM2 : 2 * M ≤ PB 6) (hp : ∀ m' a' t' d' s', NW6 m' (M / gz M A) → NW6 a' (A / gz M A) → post m' a' t' d' s') : P_X5_reduce post m a t d s := by
  have mb := hm.b
  unfold P_X5_reduce
  refine s_isZero52 hm (fun u u01 iu => ?_)
  intro _
  refine ⟨fun y => ⟨by omega, fun d1 ed => ⟨by omega, fun s1 es => ?_⟩⟩, fun y => ?_⟩
  · have M0 : ¬ M = 0 := fun r => by have := iu.2 r; rw [y] at this; exact absurd this (by decide)
    clear iu
    have hd1 : NW6 d1 M := by rw [ed]; exact hm.cp
    have hs1 : NW6 s1 A := by rw [es]; exact ha.cp
    have gp := gz_pos (a := M) (b := A) (by omega)
    have gl := gz_le (a := M) (b := A) (by omega)
    refine s_common hd1 hs1 (by omega) hA (fun d2 s2 hd2 => ?_)
    unfold P_X5_divideExactly_52
    refine s_divide52 hm hd2 gp (by omega) (fun q r hq => ?_)
    refine ⟨by omega, fun m1 em => ?_⟩
    unfold P_X5_divideExactly_53
    refine s_divide53 ha hd2 gp (by omega) (fun q2 r2 hq2 => ?_)
    refine ⟨by omega, fun a1 ea => hp _ _ _ _ _ ?_ ?_⟩
    · rw [em]; exact hq.cp
    · rw [ea]; exact hq2.cp
  · have M0 := iu.1 (u01.resolve_left y)
    clear iu
    subst M0
    refine s_set53 (by omega) (by omega) (fun a1 ha1 => hp _ _ _ _ _ ?_ ?_)
    · rw [Int.zero_ediv]; exact hm
    · rw [gz_zl hA, Int.ediv_self (by omega)]; exact ha1
theorem s_scale52 {post : (Int → Int64) → Prop} {f : Int → Int64} {v k : Int} (hf : NW6 f v) (hk : 0 ≤ k ∧ k ≤ 65536) (hb : v * k < PB 6) (hp : ∀ f', NW6 f' (v * k) → post f') : P_X10_scale_52 post f k := (s_scale54 hf hk hb hp : P_X10_scale_54 post f k)
theorem s_scale53 {post : (Int → Int64) → Prop} {f : Int → Int64} {v k : Int} (hf : NW6 f v) (hk : 0 ≤ k ∧ k ≤ 65536) (hb : v * k < PB 6) (hp : ∀ f', NW6 f' (v * k) → post f') : P_X10_scale_53 post f k := (s_scale54 hf hk hb hp : P_X10_scale_54 post f k)
theorem l2I_tI {x : Int64} (h0 : 0 ≤ x.toInt) (h1 : x.toInt < 2147483648) : l2I x = x.toInt := by
  unfold l2I
  rw [Int64.toInt_toInt32]
  rw [Int.bmod_def]
  have e : ((2 ^ 32 : Nat) : Int) = 4294967296 := by decide
  rw [e]
  omega
theorem s_ofThousand {post : Int → (Int → Int64) → (Int → Int64) → (Int → Int64) → Prop} {m a t s : Int → Int64} {M A : Int} (hm : NW6 m M) (ha : NW6 a A) (hA : 0 < A) (hA2 : 2 * A ≤ PB 6) (hM : M * 1000 < PB 6) (hMA : M ≤ A) (hp : ∀ m' t' s', post (M * 1000 / A) m' t' s') : P_X5_ofThousand post m a t s := by
  have mb := hm.b
  unfold P_X5_ofThousand
  refine s_scale52 hm (by omega) hM (fun m1 hm1 => ?_)
  refine s_divide hm1 ha hA hA2 (fun q r hq => ?_)
  intro v ev
  have e : (q 0).toInt = M * 1000 / A := by
    rw [VS.limb hq.1 (by omega) (by omega), hq.2]
    show M * 1000 / A / 1 % 2147483648 = _
    have h0 : 0 ≤ M * 1000 / A := Int.ediv_nonneg (by omega) (by omega)
    have h1 : M * 1000 / A < 1001 := Int.ediv_lt_of_lt_mul hA (by omega)
    rw [Int.ediv_one, Int.emod_eq_of_lt h0 (by omega)]
  have l := hq.limb (i := 0) (by omega) (by omega)
  rw [ev, l2I_tI l.1 l.2, e]
  exact hp _ _ _
