/-! the class's series -/
theorem rw6_V {g : Int → Int64} {k v st : Int} (h : NW6 (rw6 g k) v) (e : st = k * 6) : VL g st 6 ∧ VS g st 6 = v := by
  have e2 : st = 6 * k := by omega
  subst e2
  refine ⟨fun i i0 i1 => ?_, ?_⟩
  · have := h.1 i i0 i1
    rw [Int.zero_add] at this
    exact this
  · rw [← h.2]
    exact VS.congr (fun i i0 i1 => by rw [Int.zero_add]; rfl)
def SerOK (limbs : Int → Int64) (low high : Int) (f : Int → Int) : Prop := (0 ≤ low ∧ low ≤ high + 1 ∧ high ≤ 144 ∧ low ≤ 145) ∧ (∀ k, low ≤ k → k ≤ high → NW6 (rw6 limbs k) (f k)) ∧ (∀ k, k < low ∨ high < k → f k = 0)
theorem rw6_cp {f g : Int → Int64} {k : Int} {v : Int} {dp : Int} (hf : NW6 f v) (e : dp = k * 6) : NW6 (rw6 (cpZ f g 0 dp 6) k) v := NW6.congr (fun i i0 i1 => by
  unfold rw6 cpZ
  rw [if_pos (by omega)]
  congr 1
  omega) hf
theorem rw6_cpn {f g : Int → Int64} {k j : Int} {v : Int} {dp : Int} (hf : NW6 (rw6 g j) v) (e : dp = k * 6) (hn : ¬ j = k) : NW6 (rw6 (cpZ f g 0 dp 6) j) v := NW6.congr (fun i i0 i1 => by
  unfold rw6 cpZ
  rw [if_neg (by omega)]) hf
theorem s_beginX {post : (Int) → (Int) → (Int → Int64) → (Int → Int64) → Prop} {lo hi : Int} {lb sm : Int → Int64} (hp : ∀ lb' sm', SerOK lb' 0 0 (fun k => if k = 0 then 1 else 0) → post 0 0 lb' sm') : P_X8_begin_9 post lo hi lb sm := by
  unfold P_X8_begin_9
  refine (s_set54 (by omega) (by omega) (fun sm1 h1 => ?_) : P_X10_set_54 _ sm 1)
  refine ⟨by omega, fun lb1 e1 => hp lb1 sm1 ⟨by omega, fun k k0 k1 => ?_, fun k hk => if_neg (by omega)⟩⟩
  have : k = 0 := by omega
  subst this
  rw [e1]
  show NW6 _ 1
  exact rw6_cp h1 rfl
theorem s_copyY {post : (Int) → (Int) → (Int → Int64) → Prop} {lo hi lo2 hi2 : Int} {lb lb2 : Int → Int64} {f : Int → Int} (hs : SerOK lb lo hi f) (hp : ∀ lb', SerOK lb' lo hi f → post lo hi lb') : P_X8_copy_10_9 post lo hi lo2 hi2 lb lb2 := by
  obtain ⟨⟨s1, s2, s3, s4⟩, s5, s6⟩ := hs
  unfold P_X8_copy_10_9
  refine ⟨by omega, fun x0 e0 => ⟨fun n x g => n = ((hi + 1) * 6 - x).toNat ∧ lo * 6 ≤ x ∧ x ≤ (hi + 1) * 6 ∧ ∀ j, lo * 6 ≤ j → j < x → g j = lb j, ⟨_, rfl, by omega, by omega, fun j _ _ => by omega⟩, ?_⟩⟩
  rintro n x g rx ⟨rfl, b1, b2, b3⟩
  refine ⟨by omega, fun q => hp g ⟨⟨s1, s2, s3, s4⟩, fun k k0 k1 => NW6.congr (fun i i0 i1 => (b3 _ (by omega) (by omega)).symm) (s5 k k0 k1), s6⟩, fun q => ⟨by omega, fun v ev => ⟨by omega, fun g2 eg => nx (by omega) ⟨_, ?_, rfl, by omega, by omega, fun j j0 j1 => ?_⟩⟩⟩⟩
  · omega
  · rw [eg]
    by_cases e : j = x
    · rw [e, upZ_s, ev]
    · rw [upZ_n _ _ e]; exact b3 j j0 (by omega)
theorem sumL_cells_snoc {n : Int} {f : Int → Int} (h : 0 ≤ n) : sumL (cellsL (n + 1)) f = sumL (cellsL n) f + f n := by
  rw [cells_succ h, sumL_append]
  congr 1
  show f n + 0 = f n
  omega
theorem sum_ext {y n : Int} {f : Int → Int} (h0 : 0 ≤ y) (h1 : y ≤ n) (hz : ∀ i, y ≤ i → i < n → f i = 0) : sumL (cellsL n) f = sumL (cellsL y) f := by
  obtain ⟨d, ed⟩ := Int.eq_ofNat_of_zero_le (show 0 ≤ n - y by omega)
  have : ∀ d : Nat, y + d ≤ n → sumL (cellsL (y + d)) f = sumL (cellsL y) f := by
    intro d
    induction d with
    | zero => intro _; rw [show y + ((0 : Nat) : Int) = y by omega]
    | succ d ih =>
      intro hd
      rw [show y + ((d + 1 : Nat) : Int) = (y + d) + 1 by omega, sumL_cells_snoc (by omega), ih (by omega), hz _ (by omega) (by omega)]
      omega
  have e := this d (by omega)
  rw [show y + (d : Int) = n by omega] at e
  exact e
theorem sum_part {y n : Int} {f : Int → Int} (h0 : 0 ≤ y) (h1 : y ≤ n) (hz : ∀ i, 0 ≤ f i) : sumL (cellsL y) f ≤ sumL (cellsL n) f := by
  obtain ⟨d, ed⟩ := Int.eq_ofNat_of_zero_le (show 0 ≤ n - y by omega)
  have : ∀ d : Nat, sumL (cellsL y) f ≤ sumL (cellsL (y + d)) f := by
    intro d
    induction d with
    | zero => rw [show y + ((0 : Nat) : Int) = y by omega]; exact Int.le_refl _
    | succ d ih =>
      rw [show y + ((d + 1 : Nat) : Int) = (y + d) + 1 by omega, sumL_cells_snoc (by omega)]
      have := hz (y + d)
      omega
  have e := this d
  rw [show y + (d : Int) = n by omega] at e
  exact e
/-- one part more -/
def cvF (f g : Int → Int) (most : Int) : Int → Int := fun k => sumL (cellsL (most + 1)) (fun m => f (k - m) * g m)
theorem s_fill59 {post : (Int → Int64) → Prop} {a : Int → Int64} {v : Int64} (hp : ∀ b : Int → Int64, (∀ j, 0 ≤ j → j < 6 → b j = v) → post b) : P_J7_fill_d0a16_59 post a v := (s_fill6 hp : P_J7_fill_d0a16_55 post a v)
theorem s_fill61 {post : (Int → Int64) → Prop} {a : Int → Int64} {v : Int64} (hp : ∀ b : Int → Int64, (∀ j, 0 ≤ j → j < 6 → b j = v) → post b) : P_J7_fill_d0a16_61 post a v := (s_fill6 hp : P_J7_fill_d0a16_55 post a v)
theorem s_addScaledY {post : (Int → Int64) → Prop} {f g : Int → Int64} {v u k st : Int} (hf : NW6 f v) (hg : VL g st 6) (hu : VS g st 6 = u) (hk : 0 ≤ k ∧ k ≤ 65536) (hst : 0 ≤ st ∧ st + 6 ≤ 870) (hb : v + u * k < PB 6) (hp : ∀ f', NW6 f' (v + u * k) → post f') : P_X10_addScaled_61_60 post g f st k := (s_addScaled hf hg hu hk hst hb hp : P_X10_addScaled_59_58 post g f st k)
theorem exJi2 {p : Int → Prop} {A : (Int → Prop) → Prop} (h : A p) : ∃ J : Int → Prop, A J ∧ ∀ z : Int, inR z → J z → p z := ⟨p, h, fun _ _ q => q⟩
theorem s_multiplyX {post : (Int) → (Int) → (Int → Int64) → (Int → Int64) → Prop} {lo hi : Int} {ta : Int → Int} {lb sm : Int → Int64} {st most : Int} {f g : Int → Int} (hs : SerOK lb lo hi f) (hf : ∀ k, 0 ≤ f k) (hg : ∀ m, 0 ≤ g m ∧ g m ≤ 65536) (hta : ∀ m, 0 ≤ m → m ≤ most → ta (st + m) = g m) (hm : 0 ≤ most ∧ most ≤ 144) (hst : 0 ≤ st ∧ st + most < 288) (h144 : hi + most ≤ 144) (hb : ∀ k, cvF f g most k < PB 6)
    (hp : ∀ lo' hi' lb' sm', SerOK lb' lo' hi' (cvF f g most) → hi' ≤ hi + most → post lo' hi' lb' sm') : P_X8_multiply_9_33 post lo hi ta lb sm st most := by
  obtain ⟨⟨s1, s2, s3, s4⟩, s5, s6⟩ := hs
  unfold P_X8_multiply_9_33
  refine ⟨fun n le tp x => n = (most + 1 - x).toNat ∧ 0 ≤ x ∧ x ≤ most + 1 ∧ ((le = -1 ∧ tp = -1 ∧ ∀ m, 0 ≤ m → m < x → g m = 0) ∨ (0 ≤ le ∧ le ≤ tp ∧ tp < x ∧ ∀ m, 0 ≤ m → m < x → (m < le ∨ tp < m) → g m = 0)), ⟨_, rfl, by omega, by omega, Or.inl ⟨rfl, rfl, fun m _ _ => by omega⟩⟩, ?_⟩
  rintro n le tp x rle rtp rx ⟨rfl, b1, b2, b3⟩
  refine ⟨fun q => ?_, fun q => ⟨by omega, fun v ev _ => ⟨fun a b => (a = -1 ∧ b = -1 ∧ ∀ m, 0 ≤ m → m < x + 1 → g m = 0) ∨ (0 ≤ a ∧ a ≤ b ∧ b < x + 1 ∧ ∀ m, 0 ≤ m → m < x + 1 → (m < a ∨ b < m) → g m = 0), ⟨fun z => ?_, fun z => ?_⟩, fun a b _ _ hab => nx (by omega) ⟨_, ?_, rfl, by omega, by omega, hab⟩⟩⟩⟩
  · have ex : x = most + 1 := by omega
    subst ex
    refine ⟨∀ m, 0 ≤ m → m ≤ most → g m = 0, ⟨fun y => ?_, fun y => ⟨by omega, fun y2 t0 et0 => ?_, fun y2 => ?_⟩⟩, fun jj => ⟨by omega, fun hi1 ehi => hp lo hi1 lb sm ⟨by omega, fun k k0 k1 => by omega, fun k _ => ?_⟩ (by omega)⟩⟩
    · rcases b3 with ⟨_, _, h⟩ | h
      · exact fun m m0 m1 => h m m0 (by omega)
      · omega
    · -- from the highest on
      have b4 : 0 ≤ le ∧ le ≤ tp ∧ tp < most + 1 ∧ ∀ m, 0 ≤ m → m < most + 1 → (m < le ∨ tp < m) → g m = 0 := by
        rcases b3 with h | h
        · exact absurd h.1 y
        · exact h
      clear b3
      obtain ⟨c1, c2, c3, c4⟩ := b4
      have fz : ∀ k, (k < lo + le ∨ hi + tp < k) → cvF f g most k = 0 := by
        intro k hk
        refine sumL_z (fun m hm => ?_)
        have := mem_cells.1 hm
        by_cases r : m < le ∨ tp < m
        · rw [c4 m this.1 this.2 r, Int.mul_zero]
        · rw [s6 (k - m) (by omega), Int.zero_mul]
      refine ⟨fun n t lb' sm' => n = (t + 1 - lo).toNat ∧ lo - 1 ≤ t ∧ lo + le - 1 ≤ t ∧ t ≤ hi + tp ∧ (∀ k, t < k → k ≤ hi + tp → NW6 (rw6 lb' k) (cvF f g most k)) ∧ (∀ k, lo ≤ k → k ≤ hi → k ≤ t → NW6 (rw6 lb' k) (f k)), ⟨_, rfl, by omega, by omega, by omega, fun k _ _ => by omega, fun k k0 k1 _ => s5 k k0 k1⟩, ?_⟩
      rintro n t lb' sm' rt ⟨rfl, d1, d2, d3, d4, d5⟩
      refine ⟨by omega, fun y3 lo2 elo hi2 ehi => hp lo2 hi2 lb' sm' ⟨by omega, fun k k0 k1 => d4 k (by omega) (by omega), fun k hk => fz k (by omega)⟩ (by omega), fun y3 => ?_⟩
      refine s_fill59 (fun sm2 hsm2 => ?_)
      refine ⟨by omega, by split <;> omega, fun m0 em0 => ?_⟩
      have em1 : le ≤ m0 ∧ t - hi ≤ m0 ∧ (m0 = le ∨ m0 = t - hi) := by rw [em0]; split <;> omega
      clear em0
      refine ⟨fun n y sm3 => n = (tp + 1 - y).toNat ∧ m0 ≤ y ∧ y ≤ tp + 1 ∧ NW6 sm3 (sumL (cellsL y) (fun m => f (t - m) * g m)), ⟨_, rfl, by omega, by omega, ?_⟩, ?_⟩
      · rw [sumL_z (fun m hm => ?_)]
        · exact NW6.zero hsm2
        · have := mem_cells.1 hm
          by_cases r : m < le ∨ tp < m
          · rw [c4 m this.1 (by omega) r, Int.mul_zero]
          · rw [s6 (t - m) (by omega), Int.zero_mul]
      rintro n y sm3 ry ⟨rfl, e1, e2, e3⟩
      refine ⟨NW6 sm3 (cvF f g most t), ⟨fun z => ?_, fun z => ⟨by omega, fun z2 => ?_, fun z2 => ⟨by omega, fun v ev _ => ⟨by omega, ?_⟩⟩⟩⟩, fun jj => ⟨by omega, by omega, fun lb2 elb => ⟨by omega, fun t2 et2 => ⟨_, ?_, rfl, by omega, by omega, by omega, fun k k0 k1 => ?_, fun k k0 k1 k2 => ?_⟩⟩⟩⟩
      · have : cvF f g most t = sumL (cellsL y) (fun m => f (t - m) * g m) := sum_ext (by omega) (by omega) (fun i i0 i1 => by rw [c4 i (by omega) i1 (by omega), Int.mul_zero])
        rw [this]; exact e3
      · have : cvF f g most t = sumL (cellsL y) (fun m => f (t - m) * g m) := sum_ext (by omega) (by omega) (fun i i0 i1 => by rw [s6 (t - i) (by omega), Int.zero_mul])
        rw [this]; exact e3
      · rw [hta y (by omega) (by omega)] at ev
        have row := rw6_V (st := (t - y) * 6) (d5 (t - y) (by omega) (by omega) (by omega)) rfl
        have gy := hg y
        have nn : ∀ i, 0 ≤ f (t - i) * g i := fun i => Int.mul_nonneg (hf _) (hg i).1
        have part := sum_part (y := y + 1) (n := most + 1) (by omega) (by omega) nn
        have ht := hb t
        have sn := sumL_cells_snoc (n := y) (f := fun m => f (t - m) * g m) (by omega)
        have cvd : cvF f g most t = sumL (cellsL (most + 1)) (fun m => f (t - m) * g m) := rfl
        rw [cvd] at ht
        rw [ev]
        refine s_addScaled e3 row.1 row.2 gy (by omega) ?_ (fun sm4 h4 => nx (by omega) ⟨_, ?_, rfl, by omega, by omega, ?_⟩)
        · have : sumL (cellsL y) (fun m => f (t - m) * g m) + f (t - y) * g y ≤ sumL (cellsL (most + 1)) (fun m => f (t - m) * g m) := by rw [← sn]; exact part
          omega
        · omega
        · rw [sn]; exact h4
      · omega
      · rw [elb]
        by_cases e : k = t
        · rw [e]; exact rw6_cp jj rfl
        · exact rw6_cpn (d4 k (by omega) k1) rfl e
      · rw [elb]
        exact rw6_cpn (d5 k k0 k1 (by omega)) rfl (by omega)
    · omega
    · exact sumL_z (fun m hm => by
        have := mem_cells.1 hm
        rw [jj m this.1 (by omega), Int.mul_zero])
  · rw [hta x b1 (by omega)] at ev
    have gz : g x = 0 := by omega
    rcases b3 with ⟨h1, h2, h3⟩ | ⟨h1, h2, h3, h4⟩
    · refine Or.inl ⟨h1, h2, fun m m0 m1 => ?_⟩
      by_cases e : m = x
      · rw [e]; exact gz
      · exact h3 m m0 (by omega)
    · refine Or.inr ⟨h1, h2, by omega, fun m m0 m1 m2 => ?_⟩
      by_cases e : m = x
      · rw [e]; exact gz
      · exact h4 m m0 (by omega) m2
  · refine exJi2 ⟨fun z2 => ?_, fun z2 => ?_⟩
    · rcases b3 with ⟨h1, h2, h3⟩ | ⟨h1, h2, h3, h4⟩
      · exact absurd h1 z2
      · exact Or.inr ⟨h1, by omega, by omega, fun m m0 m1 m2 => h4 m m0 (by omega) (by omega)⟩
    · rcases b3 with ⟨h1, h2, h3⟩ | ⟨h1, h2, h3, h4⟩
      · exact Or.inr ⟨b1, Int.le_refl _, by omega, fun m m0 m1 m2 => h3 m m0 (by omega)⟩
      · omega
  · omega
theorem s_multiplyY {post : (Int) → (Int) → (Int → Int64) → (Int → Int64) → Prop} {lo hi : Int} {ta : Int → Int} {lb sm : Int → Int64} {st most : Int} {f g : Int → Int} (hs : SerOK lb lo hi f) (hf : ∀ k, 0 ≤ f k) (hg : ∀ m, 0 ≤ g m ∧ g m ≤ 65536) (hta : ∀ m, 0 ≤ m → m ≤ most → ta (st + m) = g m) (hm : 0 ≤ most ∧ most ≤ 144) (hst : 0 ≤ st ∧ st + most < 17) (h144 : hi + most ≤ 144) (hb : ∀ k, cvF f g most k < PB 6)
    (hp : ∀ lo' hi' lb' sm', SerOK lb' lo' hi' (cvF f g most) → hi' ≤ hi + most → post lo' hi' lb' sm') : P_X8_multiply_10_34 post lo hi ta lb sm st most := by
  obtain ⟨⟨s1, s2, s3, s4⟩, s5, s6⟩ := hs
  unfold P_X8_multiply_10_34
  refine ⟨fun n le tp x => n = (most + 1 - x).toNat ∧ 0 ≤ x ∧ x ≤ most + 1 ∧ ((le = -1 ∧ tp = -1 ∧ ∀ m, 0 ≤ m → m < x → g m = 0) ∨ (0 ≤ le ∧ le ≤ tp ∧ tp < x ∧ ∀ m, 0 ≤ m → m < x → (m < le ∨ tp < m) → g m = 0)), ⟨_, rfl, by omega, by omega, Or.inl ⟨rfl, rfl, fun m _ _ => by omega⟩⟩, ?_⟩
  rintro n le tp x rle rtp rx ⟨rfl, b1, b2, b3⟩
  refine ⟨fun q => ?_, fun q => ⟨by omega, fun v ev _ => ⟨fun a b => (a = -1 ∧ b = -1 ∧ ∀ m, 0 ≤ m → m < x + 1 → g m = 0) ∨ (0 ≤ a ∧ a ≤ b ∧ b < x + 1 ∧ ∀ m, 0 ≤ m → m < x + 1 → (m < a ∨ b < m) → g m = 0), ⟨fun z => ?_, fun z => ?_⟩, fun a b _ _ hab => nx (by omega) ⟨_, ?_, rfl, by omega, by omega, hab⟩⟩⟩⟩
  · have ex : x = most + 1 := by omega
    subst ex
    refine ⟨∀ m, 0 ≤ m → m ≤ most → g m = 0, ⟨fun y => ?_, fun y => ⟨by omega, fun y2 t0 et0 => ?_, fun y2 => ?_⟩⟩, fun jj => ⟨by omega, fun hi1 ehi => hp lo hi1 lb sm ⟨by omega, fun k k0 k1 => by omega, fun k _ => ?_⟩ (by omega)⟩⟩
    · rcases b3 with ⟨_, _, h⟩ | h
      · exact fun m m0 m1 => h m m0 (by omega)
      · omega
    · -- from the highest on
      have b4 : 0 ≤ le ∧ le ≤ tp ∧ tp < most + 1 ∧ ∀ m, 0 ≤ m → m < most + 1 → (m < le ∨ tp < m) → g m = 0 := by
        rcases b3 with h | h
        · exact absurd h.1 y
        · exact h
      clear b3
      obtain ⟨c1, c2, c3, c4⟩ := b4
      have fz : ∀ k, (k < lo + le ∨ hi + tp < k) → cvF f g most k = 0 := by
        intro k hk
        refine sumL_z (fun m hm => ?_)
        have := mem_cells.1 hm
        by_cases r : m < le ∨ tp < m
        · rw [c4 m this.1 this.2 r, Int.mul_zero]
        · rw [s6 (k - m) (by omega), Int.zero_mul]
      refine ⟨fun n t lb' sm' => n = (t + 1 - lo).toNat ∧ lo - 1 ≤ t ∧ lo + le - 1 ≤ t ∧ t ≤ hi + tp ∧ (∀ k, t < k → k ≤ hi + tp → NW6 (rw6 lb' k) (cvF f g most k)) ∧ (∀ k, lo ≤ k → k ≤ hi → k ≤ t → NW6 (rw6 lb' k) (f k)), ⟨_, rfl, by omega, by omega, by omega, fun k _ _ => by omega, fun k k0 k1 _ => s5 k k0 k1⟩, ?_⟩
      rintro n t lb' sm' rt ⟨rfl, d1, d2, d3, d4, d5⟩
      refine ⟨by omega, fun y3 lo2 elo hi2 ehi => hp lo2 hi2 lb' sm' ⟨by omega, fun k k0 k1 => d4 k (by omega) (by omega), fun k hk => fz k (by omega)⟩ (by omega), fun y3 => ?_⟩
      refine s_fill61 (fun sm2 hsm2 => ?_)
      refine ⟨by omega, by split <;> omega, fun m0 em0 => ?_⟩
      have em1 : le ≤ m0 ∧ t - hi ≤ m0 ∧ (m0 = le ∨ m0 = t - hi) := by rw [em0]; split <;> omega
      clear em0
      refine ⟨fun n y sm3 => n = (tp + 1 - y).toNat ∧ m0 ≤ y ∧ y ≤ tp + 1 ∧ NW6 sm3 (sumL (cellsL y) (fun m => f (t - m) * g m)), ⟨_, rfl, by omega, by omega, ?_⟩, ?_⟩
      · rw [sumL_z (fun m hm => ?_)]
        · exact NW6.zero hsm2
        · have := mem_cells.1 hm
          by_cases r : m < le ∨ tp < m
          · rw [c4 m this.1 (by omega) r, Int.mul_zero]
          · rw [s6 (t - m) (by omega), Int.zero_mul]
      rintro n y sm3 ry ⟨rfl, e1, e2, e3⟩
      refine ⟨NW6 sm3 (cvF f g most t), ⟨fun z => ?_, fun z => ⟨by omega, fun z2 => ?_, fun z2 => ⟨by omega, fun v ev _ => ⟨by omega, ?_⟩⟩⟩⟩, fun jj => ⟨by omega, by omega, fun lb2 elb => ⟨by omega, fun t2 et2 => ⟨_, ?_, rfl, by omega, by omega, by omega, fun k k0 k1 => ?_, fun k k0 k1 k2 => ?_⟩⟩⟩⟩
      · have : cvF f g most t = sumL (cellsL y) (fun m => f (t - m) * g m) := sum_ext (by omega) (by omega) (fun i i0 i1 => by rw [c4 i (by omega) i1 (by omega), Int.mul_zero])
        rw [this]; exact e3
      · have : cvF f g most t = sumL (cellsL y) (fun m => f (t - m) * g m) := sum_ext (by omega) (by omega) (fun i i0 i1 => by rw [s6 (t - i) (by omega), Int.zero_mul])
        rw [this]; exact e3
      · rw [hta y (by omega) (by omega)] at ev
        have row := rw6_V (st := (t - y) * 6) (d5 (t - y) (by omega) (by omega) (by omega)) rfl
        have gy := hg y
        have nn : ∀ i, 0 ≤ f (t - i) * g i := fun i => Int.mul_nonneg (hf _) (hg i).1
        have part := sum_part (y := y + 1) (n := most + 1) (by omega) (by omega) nn
        have ht := hb t
        have sn := sumL_cells_snoc (n := y) (f := fun m => f (t - m) * g m) (by omega)
        have cvd : cvF f g most t = sumL (cellsL (most + 1)) (fun m => f (t - m) * g m) := rfl
        rw [cvd] at ht
        rw [ev]
        refine s_addScaledY e3 row.1 row.2 gy (by omega) ?_ (fun sm4 h4 => nx (by omega) ⟨_, ?_, rfl, by omega, by omega, ?_⟩)
        · have : sumL (cellsL y) (fun m => f (t - m) * g m) + f (t - y) * g y ≤ sumL (cellsL (most + 1)) (fun m => f (t - m) * g m) := by rw [← sn]; exact part
          omega
        · omega
        · rw [sn]; exact h4
      · omega
      · rw [elb]
        by_cases e : k = t
        · rw [e]; exact rw6_cp jj rfl
        · exact rw6_cpn (d4 k (by omega) k1) rfl e
      · rw [elb]
        exact rw6_cpn (d5 k k0 k1 (by omega)) rfl (by omega)
    · omega
    · exact sumL_z (fun m hm => by
        have := mem_cells.1 hm
        rw [jj m this.1 (by omega), Int.mul_zero])
  · rw [hta x b1 (by omega)] at ev
    have gz : g x = 0 := by omega
    rcases b3 with ⟨h1, h2, h3⟩ | ⟨h1, h2, h3, h4⟩
    · refine Or.inl ⟨h1, h2, fun m m0 m1 => ?_⟩
      by_cases e : m = x
      · rw [e]; exact gz
      · exact h3 m m0 (by omega)
    · refine Or.inr ⟨h1, h2, by omega, fun m m0 m1 m2 => ?_⟩
      by_cases e : m = x
      · rw [e]; exact gz
      · exact h4 m m0 (by omega) m2
  · refine exJi2 ⟨fun z2 => ?_, fun z2 => ?_⟩
    · rcases b3 with ⟨h1, h2, h3⟩ | ⟨h1, h2, h3, h4⟩
      · exact absurd h1 z2
      · exact Or.inr ⟨h1, by omega, by omega, fun m m0 m1 m2 => h4 m m0 (by omega) (by omega)⟩
    · rcases b3 with ⟨h1, h2, h3⟩ | ⟨h1, h2, h3, h4⟩
      · exact Or.inr ⟨b1, Int.le_refl _, by omega, fun m m0 m1 m2 => h3 m m0 (by omega)⟩
      · omega
  · omega
