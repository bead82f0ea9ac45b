/-! sets of sums in three words -/
theorem ushrL_bv {x : Int64} {k : Int} (h : 0 ≤ k ∧ k < 64) : (ushrL x k).toBitVec = x.toBitVec >>> k.toNat := by
  obtain ⟨n, rfl⟩ : ∃ n : Nat, k = n := ⟨k.toNat, by omega⟩
  unfold ushrL
  have e : ∀ n : Nat, n < 64 → ((iI n).toInt64.toUInt64 &&& Int64.toUInt64 63) = UInt64.ofNat n := by decide +kernel
  rw [e n (by omega)]
  show (x.toUInt64 >>> UInt64.ofNat n).toBitVec = _
  rw [UInt64.toBitVec_shiftRight]
  have e2 : ∀ n : Nat, n < 64 → ((UInt64.ofNat n).toBitVec % 64).toNat = n := by decide +kernel
  rw [BitVec.ushiftRight_eq', e2 n (by omega)]
  rfl
def SB (S : Int → Int64) (t : Int) : Prop := (S (t / 64)).toBitVec.getLsbD (t % 64).toNat = true
theorem SB_at {S : Int → Int64} {i j : Int} (hj : 0 ≤ j ∧ j < 64) : SB S (64 * i + j) ↔ (S i).toBitVec.getLsbD j.toNat = true := by
  unfold SB
  rw [show (64 * i + j) / 64 = i by omega, show (64 * i + j) % 64 = j by omega]
theorem or_bv {x y : Int64} {k : Nat} : (x ||| y).toBitVec.getLsbD k = true ↔ x.toBitVec.getLsbD k = true ∨ y.toBitVec.getLsbD k = true := by
  rw [Int64.toBitVec_or, BitVec.getLsbD_or, Bool.or_eq_true]
theorem shl_bit {x : Int64} {m j : Int} (hm : 0 ≤ m ∧ m < 64) (hj : 0 ≤ j ∧ j < 64) : (shlL x m).toBitVec.getLsbD j.toNat = true ↔ m ≤ j ∧ x.toBitVec.getLsbD (j - m).toNat = true := by
  rw [shlL_bv hm, BitVec.getLsbD_shiftLeft]
  simp only [Bool.and_eq_true, decide_eq_true_eq, Bool.not_eq_true', decide_eq_false_iff_not]
  rw [show (j - m).toNat = j.toNat - m.toNat by omega]
  constructor
  · rintro ⟨⟨h1, h2⟩, h3⟩
    exact ⟨by omega, h3⟩
  · rintro ⟨h1, h3⟩
    exact ⟨⟨by omega, by omega⟩, h3⟩
theorem ushr_bit {x : Int64} {k j : Int} (hk : 0 ≤ k ∧ k < 64) (hj : 0 ≤ j ∧ j < 64) : (ushrL x k).toBitVec.getLsbD j.toNat = true ↔ x.toBitVec.getLsbD (k + j).toNat = true := by
  rw [ushrL_bv hk, BitVec.getLsbD_ushiftRight, show (k + j).toNat = k.toNat + j.toNat by omega]
theorem bv_over {x : Int64} {k : Nat} (h : 64 ≤ k) : ¬ x.toBitVec.getLsbD k = true := by
  rw [BitVec.getLsbD_of_ge _ _ h]
  exact Bool.false_ne_true
/-- one word of a shifted set -/
theorem word_step {S : Int → Int64} {i m j : Int} (hi : 0 ≤ i) (hm : 0 ≤ m ∧ m ≤ 16) (hj : 0 ≤ j ∧ j < 64) : (m ≤ 64 * i + j ∧ SB S (64 * i + j - m)) ↔ ((shlL (S i) m).toBitVec.getLsbD j.toNat = true ∨ (0 < i ∧ 0 < m ∧ (ushrL (S (i - 1)) (64 - m)).toBitVec.getLsbD j.toNat = true)) := by
  rw [shl_bit ⟨by omega, by omega⟩ hj]
  by_cases k : m ≤ j
  · rw [show 64 * i + j - m = 64 * i + (j - m) by omega, SB_at ⟨by omega, by omega⟩]
    constructor
    · rintro ⟨-, y⟩
      exact Or.inl ⟨k, y⟩
    · rintro (y | ⟨y1, y2, y3⟩)
      · exact ⟨by omega, y.2⟩
      · rw [ushr_bit ⟨by omega, by omega⟩ hj] at y3
        exact absurd y3 (bv_over (by omega))
  · by_cases k2 : 0 < i
    · rw [show 64 * i + j - m = 64 * (i - 1) + (64 - m + j) by omega, SB_at ⟨by omega, by omega⟩, ushr_bit ⟨by omega, by omega⟩ hj]
      constructor
      · rintro ⟨-, y⟩
        exact Or.inr ⟨k2, by omega, y⟩
      · rintro (y | ⟨y1, y2, y3⟩)
        · omega
        · exact ⟨by omega, y3⟩
    · constructor
      · rintro ⟨y, -⟩
        omega
      · rintro (y | y)
        · omega
        · omega
theorem s_fill43 {post : (Int → Int64) → Prop} {a : Int → Int64} {v : Int64} (hp : ∀ b : Int → Int64, (∀ j, 0 ≤ j → j < 3 → b j = v) → post b) : P_J7_fill_d0a16_43 post a v := by
  unfold P_J7_fill_d0a16_43
  refine ⟨fun n x b => n = (3 - x).toNat ∧ 0 ≤ x ∧ x ≤ 3 ∧ ∀ j, 0 ≤ j → j < x → b j = v, ⟨_, rfl, by omega, by omega, fun j _ _ => by omega⟩, ?_⟩
  rintro n x b rx ⟨rfl, b1, b2, b3⟩
  refine ⟨fun q => hp b (fun j j0 j1 => b3 j j0 (by omega)), fun q => ⟨by omega, fun b' eb => nx (by omega) ⟨_, ?_, rfl, by omega, by omega, fun j j0 j1 => ?_⟩⟩⟩
  · omega
  · rw [eb]
    by_cases z : j = x
    · rw [z, upZ_s]
    · rw [upZ_n _ _ z]; exact b3 j j0 (by omega)
theorem SB_split {S : Int → Int64} {t : Int} : ∃ i j, t = 64 * i + j ∧ 0 ≤ j ∧ j < 64 ∧ i = t / 64 := ⟨t / 64, t % 64, by omega, by omega, by omega, rfl⟩
theorem s_addSet {S nS : Int → Int64} {z : Int} {post : (Int → Int64) → (Int → Int64) → Prop} (hz : sm z)
    (hp : ∀ S' nS' : Int → Int64, (∀ t, 0 ≤ t → t < 192 → (SB S' t ↔ ∃ m, 0 ≤ m ∧ m ≤ 16 ∧ tb z m ∧ m ≤ t ∧ SB S (t - m))) → post S' nS') : P_X6_addSet post S nS z := by
  unfold P_X6_addSet
  refine s_fill43 (fun b0 hb0 => ?_)
  refine ⟨fun n x b => n = (17 - x).toNat ∧ 0 ≤ x ∧ x ≤ 17 ∧ ∀ t, 0 ≤ t → t < 192 → (SB b t ↔ ∃ m, 0 ≤ m ∧ m < x ∧ tb z m ∧ m ≤ t ∧ SB S (t - m)), ⟨_, rfl, by omega, by omega, fun t t0 t1 => ?_⟩, ?_⟩
  · refine ⟨fun y => ?_, fun ⟨m, y⟩ => by omega⟩
    unfold SB at y
    rw [hb0 _ (by omega) (by omega)] at y
    have : (0 : Int64).toBitVec.getLsbD (t % 64).toNat = false := by
      show (BitVec.ofNat 64 0).getLsbD _ = false
      exact BitVec.getLsbD_zero
    rw [this] at y
    exact absurd y Bool.false_ne_true
  rintro n x b rx ⟨rfl, b1, b2, b3⟩
  refine ⟨fun q => ⟨by omega, fun S' eS => hp S' b (fun t t0 t1 => ?_)⟩, fun q => ?_⟩
  · have : SB S' t ↔ SB b t := by
      unfold SB
      rw [eS]
      unfold cpZ
      rw [if_pos (by omega), show 0 + (t / 64 - 0) = t / 64 by omega]
    rw [this, b3 t t0 t1]
    constructor
    · rintro ⟨m, y1, y2, y3⟩
      exact ⟨m, y1, by omega, y3⟩
    · rintro ⟨m, y1, y2, y3⟩
      exact ⟨m, y1, by omega, y3⟩
  · have sa := shr_and (z := z) (i := x) hz b1 (by omega)
    rw [sa]
    have don : ∀ b' : Int → Int64, (∀ t, 0 ≤ t → t < 192 → (SB b' t ↔ SB b t ∨ (tb z x ∧ x ≤ t ∧ SB S (t - x)))) → (inR (x + 1) ∧ (∀ x2_16 : Int, x2_16 = (x + 1) → (∃ n_17 : Nat, n_17 < (17 - x).toNat ∧ (n_17 = (17 - x2_16).toNat ∧ 0 ≤ x2_16 ∧ x2_16 ≤ 17 ∧ ∀ t, 0 ≤ t → t < 192 → (SB b' t ↔ ∃ m, 0 ≤ m ∧ m < x2_16 ∧ tb z m ∧ m ≤ t ∧ SB S (t - m)))))) := by
      intro b' hb'
      refine nx (by omega) ⟨_, ?_, rfl, by omega, by omega, fun t t0 t1 => ?_⟩
      · omega
      · rw [hb' t t0 t1, b3 t t0 t1]
        constructor
        · rintro (⟨m, y1, y2, y3⟩ | y)
          · exact ⟨m, y1, by omega, y3⟩
          · exact ⟨x, b1, by omega, y⟩
        · rintro ⟨m, y1, y2, y3⟩
          by_cases e : m = x
          · subst e
            exact Or.inr y3
          · exact Or.inl ⟨m, y1, by omega, y3⟩
    refine ⟨_, ⟨fun q1 => ?_, fun q1 => don b (fun t t0 t1 => ⟨Or.inl, fun y => y.elim id (fun y => ?_)⟩)⟩, fun _ jj => jj⟩
    rotate_left
    · rw [iB_t y.1] at q1
      omega
    have hx : tb z x := by
      apply Classical.byContradiction
      intro k
      rw [iB_f k] at q1
      exact q1 rfl
    refine ⟨fun n i b' => n = (3 - i).toNat ∧ 0 ≤ i ∧ i ≤ 3 ∧ ∀ t, 0 ≤ t → t < 192 → (SB b' t ↔ SB b t ∨ (t / 64 < i ∧ x ≤ t ∧ SB S (t - x))), ⟨_, rfl, by omega, by omega, fun t t0 t1 => ⟨Or.inl, fun y => y.elim id (fun y => by omega)⟩⟩, ?_⟩
    rintro n i b1' ri ⟨rfl, c1, c2, c3⟩
    refine ⟨fun q2 => don b1' (fun t t0 t1 => ?_), fun q2 => ⟨by omega, fun v ev => ⟨by omega, fun v2 ev2 => ⟨by omega, fun b2' eb2 => ?_⟩⟩⟩⟩
    · rw [c3 t t0 t1]
      exact or_congr Iff.rfl ⟨fun y => ⟨hx, y.2⟩, fun y => ⟨by omega, y.2⟩⟩
    · have fin : ∀ b4 : Int → Int64, (∀ k, k ≠ i → b4 k = b1' k) → (∀ j, 0 ≤ j → j < 64 → ((b4 i).toBitVec.getLsbD j.toNat = true ↔ (b1' i).toBitVec.getLsbD j.toNat = true ∨ (x ≤ 64 * i + j ∧ SB S (64 * i + j - x)))) → (inR (i + 1) ∧ (∀ x3_37 : Int, x3_37 = (i + 1) → (∃ n_38 : Nat, n_38 < (3 - i).toNat ∧ (n_38 = (3 - x3_37).toNat ∧ 0 ≤ x3_37 ∧ x3_37 ≤ 3 ∧ ∀ t, 0 ≤ t → t < 192 → (SB b4 t ↔ SB b t ∨ (t / 64 < x3_37 ∧ x ≤ t ∧ SB S (t - x))))))) := by
        intro b4 k1 k2
        refine nx (by omega) ⟨_, ?_, rfl, by omega, by omega, fun t t0 t1 => ?_⟩
        · omega
        · obtain ⟨i', j, et, j0, j1, ei⟩ := SB_split (S := S) (t := t)
          by_cases e : i' = i
          · rw [et, e, SB_at ⟨j0, j1⟩, k2 j j0 j1, ← SB_at (S := b1') ⟨j0, j1⟩, ← e, ← et, c3 t t0 t1]
            constructor
            · rintro ((y | y) | y)
              · exact Or.inl y
              · omega
              · exact Or.inr ⟨by omega, y⟩
            · rintro (y | y)
              · exact Or.inl (Or.inl y)
              · exact Or.inr y.2
          · have : SB b4 t ↔ SB b1' t := by
              unfold SB
              rw [k1 _ (by omega)]
            rw [this, c3 t t0 t1]
            exact or_congr Iff.rfl ⟨fun y => ⟨by omega, y.2⟩, fun y => ⟨by omega, y.2⟩⟩
      have ws := fun j j0 j1 => word_step (S := S) (i := i) (m := x) (j := j) c1 ⟨b1, by omega⟩ ⟨j0, j1⟩
      have only : (i ≤ 0 ∨ x ≤ 0) → _ := fun hh => fin b2' (fun k hk => by rw [eb2, upZ_n _ _ hk]) (fun j j0 j1 => by
        rw [eb2, upZ_s, or_bv, ws j j0 j1, ev, ev2]
        exact or_congr Iff.rfl ⟨Or.inl, fun y => y.elim id (fun y => by omega)⟩)
      refine ⟨_, ⟨fun q3 => only (Or.inl q3), fun q3 => ⟨fun q4 => only (Or.inr q4), fun q4 => ⟨by omega, fun v3 ev3 => ⟨by omega, fun v4 ev4 => ⟨by omega, fun b3' eb3 => fin b3' (fun k hk => by rw [eb3, upZ_n _ _ hk, eb2, upZ_n _ _ hk]) (fun j j0 j1 => ?_)⟩⟩⟩⟩⟩, fun _ jj => jj⟩
      rw [eb3, upZ_s, or_bv, ev3, eb2, upZ_s, or_bv, ws j j0 j1, ev, ev2, ev4, or_assoc]
      exact or_congr Iff.rfl (or_congr Iff.rfl ⟨fun y => ⟨by omega, by omega, y⟩, fun y => y.2.2⟩)
theorem lc_zero {x y : Int64} : lcI x y = 0 ↔ x = y := by
  unfold lcI
  constructor
  · intro h
    split at h
    · exact absurd h (by decide)
    · split at h
      · assumption
      · exact absurd h (by decide)
  · intro h
    rw [if_neg (by rw [h]; exact Int64.lt_irrefl), if_pos h]
theorem and1_zero {x : Int64} : x &&& 1 = 0 ↔ ¬ x.toBitVec.getLsbD 0 = true := by
  rw [← Int64.toBitVec_inj, Int64.toBitVec_and]
  show x.toBitVec &&& 1#64 = 0#64 ↔ _
  constructor
  · intro h k
    have := congrArg (fun v => v.getLsbD 0) h
    simp only [BitVec.getLsbD_and, k, BitVec.getLsbD_zero] at this
    exact absurd this (by decide)
  · intro h
    apply BitVec.eq_of_getLsbD_eq
    intro i hi
    rw [BitVec.getLsbD_and, BitVec.getLsbD_zero]
    by_cases e : i = 0
    · subst e
      rw [Bool.eq_false_iff.2 h]
      rfl
    · have : (1#64).getLsbD i = false := by
        rw [BitVec.getLsbD_one]
        simp [e]
      rw [this, Bool.and_false]
theorem s_hasSum {S : Int → Int64} {t : Int} {post : Int → Prop} (hp : ∀ v : Int, (v = 0 ∨ v = 1) → (v = 1 ↔ (0 ≤ t ∧ t ≤ 144) ∧ SB S t) → post v) : P_X6_hasSum post S t := by
  unfold P_X6_hasSum
  have no : (¬ ((0 ≤ t ∧ t ≤ 144) ∧ SB S t)) → inR 0 → ((0 : Int) = 0 ∨ (0 : Int) = 1) ∧ post 0 := fun k _ => ⟨Or.inl rfl, hp 0 (Or.inl rfl) ⟨fun y => absurd y (by decide), fun y => absurd y k⟩⟩
  refine exJi (exJ0 ⟨fun z => no (fun y => by omega), fun z => ⟨fun z1 => no (fun y => by omega), fun z1 => ?_⟩⟩)
  have e1 : t.tdiv 64 = t / 64 := Int.tdiv_eq_ediv_of_nonneg (by omega)
  have e2 : t.tmod 64 = t % 64 := Int.tmod_eq_emod_of_nonneg (by omega)
  rw [e1, e2]
  have key : ∀ v : Int64, v = S (t / 64) → (lcI (ushrL v (t % 64) &&& 1) 0 = 0 ↔ ¬ SB S t) := by
    intro v ev
    rw [lc_zero, and1_zero, show (0 : Nat) = (0 : Int).toNat from rfl, ushr_bit ⟨by omega, by omega⟩ ⟨by omega, by omega⟩, ev]
    unfold SB
    rw [show t % 64 + 0 = t % 64 by omega]
  refine ⟨by omega, fun v ev => ⟨fun z2 => no (fun y => (key v ev).1 z2 y.2), fun z2 _ => ⟨Or.inr rfl, hp 1 (Or.inr rfl) ⟨fun _ => ⟨⟨by omega, by omega⟩, ?_⟩, fun _ => rfl⟩⟩⟩⟩
  apply Classical.byContradiction
  intro k
  exact z2 ((key v ev).2 k)
theorem full_bits {k : Nat} (h : k < 64) : (-1 : Int64).toBitVec.getLsbD k = true := by
  have : (-1 : Int64).toBitVec = BitVec.allOnes 64 := by decide
  rw [this, BitVec.getLsbD_allOnes]
  exact decide_eq_true h
theorem low_bits {b j : Int} (hb : 0 < b ∧ b < 64) (hj : 0 ≤ j ∧ j < 64) : (shlL 1 b - 1).toBitVec.getLsbD j.toNat = true ↔ j < b := by
  obtain ⟨n, rfl⟩ : ∃ n : Nat, b = n := ⟨b.toNat, by omega⟩
  obtain ⟨m, rfl⟩ : ∃ m : Nat, j = m := ⟨j.toNat, by omega⟩
  have : ∀ n : Nat, n < 64 → 0 < n → ∀ m : Nat, m < 64 → ((shlL 1 n - 1).toBitVec.getLsbD m = true ↔ m < n) := by decide +kernel
  rw [Int.toNat_natCast, this n (by omega) (by omega) m (by omega)]
  omega
