/-! the reference multiplies and sums up -/
def Tab (g : Int → Int64) (b : Int) (f : Int → Int) : Prop := ∀ k, 0 ≤ k → k < 145 → NW6 (rw6 g (b + k)) (f k)
def FrG (g g' : Int → Int64) (lo hi : Int) : Prop := ∀ q v : Int, (q < lo ∨ hi ≤ q) → NW6 (rw6 g q) v → NW6 (rw6 g' q) v
theorem FrG.refl {g : Int → Int64} {lo hi : Int} : FrG g g lo hi := fun _ _ _ h => h
theorem FrG.trans {g g' g'' : Int → Int64} {lo hi : Int} (h : FrG g g' lo hi) (h' : FrG g' g'' lo hi) : FrG g g'' lo hi := fun q v hq hn => h' q v hq (h q v hq hn)
theorem FrR.fr {g g' : Int → Int64} {r lo hi : Int} (h : FrR g g' r) (h0 : lo ≤ r) (h1 : r < hi) : FrG g g' lo hi := fun q _ hq hn => h.row (by omega) hn
theorem FrG.tab {g g' : Int → Int64} {lo hi b : Int} {f : Int → Int} (h : FrG g g' lo hi) (hb : b + 145 ≤ lo ∨ hi ≤ b) (t : Tab g b f) : Tab g' b f := fun k k0 k1 => h _ _ (by omega) (t k k0 k1)
def f10 : Int → Int := fun k => if k = 0 then 1 else 0
theorem s_chooseM {post : (Int → Int64) → Prop} {g : Int → Int64} {n : Nat} (hn : n ≤ 144) (hp : ∀ g', FrG g g' 290 435 → Tab g' 290 (bn n) → post g') : P_X12_choose post g n := by
  have p144 := pw144
  unfold P_X12_choose
  refine ⟨fun m x g' => m = (145 - x).toNat ∧ 0 ≤ x ∧ x ≤ 145 ∧ FrG g g' 290 435 ∧ ∀ k, 0 ≤ k → k < x → NW6 (rw6 g' (290 + k)) (f10 k), ⟨_, rfl, by omega, by omega, FrG.refl, fun k _ _ => by omega⟩, ?_⟩
  rintro m x g1 rx ⟨rfl, b1, b2, b3, b4⟩
  refine ⟨fun y => ?_, fun y => ⟨fun z => z.toInt = f10 x ∧ (0 ≤ z.toInt ∧ z.toInt < 2147483648), ⟨fun z => ⟨by unfold f10; rw [if_neg z]; rfl, by decide⟩, fun z => ⟨by unfold f10; rw [if_pos z]; rfl, by decide⟩⟩, fun z hz => ⟨by omega, ?_⟩⟩⟩
  · refine ⟨fun m i g' => m = ((n : Int) - i).toNat ∧ 0 ≤ i ∧ i ≤ n ∧ FrG g g' 290 435 ∧ Tab g' 290 (bn i.toNat), ⟨_, rfl, by omega, by omega, b3, fun k k0 k1 => b4 k k0 (by omega)⟩, ?_⟩
    rintro m i g2 ri ⟨rfl, c1, c2, c3, c4⟩
    refine ⟨fun z => hp g2 c3 ?_, fun z => ?_⟩
    · rw [show n = i.toNat by omega]; exact c4
    · have pi : pw2 i.toNat ≤ pw2 144 := pw2_le (by omega)
      refine ⟨fun m x g' => m = x.toNat ∧ 0 ≤ x ∧ x ≤ 144 ∧ FrG g g' 290 435 ∧ (∀ k, x < k → k < 145 → NW6 (rw6 g' (290 + k)) (bn (i.toNat + 1) k)) ∧ (∀ k, 0 ≤ k → k ≤ x → NW6 (rw6 g' (290 + k)) (bn i.toNat k)), ⟨_, rfl, by omega, by omega, c3, fun k _ _ => by omega, fun k k0 k1 => c4 k k0 (by omega)⟩, ?_⟩
      rintro m x g3 rx ⟨rfl, d1, d2, d3, d4, d5⟩
      refine ⟨fun u => nx (by omega) ⟨_, ?_, rfl, by omega, by omega, d3, fun k k0 k1 => ?_⟩, fun u => ⟨by omega, by omega, ?_⟩⟩
      · omega
      · rw [show (i + 1).toNat = i.toNat + 1 by omega]
        by_cases e : k = 0
        · have := d5 0 (by omega) (by omega)
          subst e
          show NW6 _ (bn i.toNat 0 + bn i.toNat (0 - 1))
          rw [bn_neg (show (0 : Int) - 1 < 0 by omega), show bn i.toNat 0 + 0 = bn i.toNat 0 from Int.add_zero _]
          exact this
        · exact d4 k (by omega) k1
      · have h1 := d5 x (by omega) (by omega)
        have h2 := d5 (x - 1) (by omega) (by omega)
        rw [show 290 + (x - 1) = 290 + x - 1 by omega] at h2
        have l1 := bn_le (n := i.toNat) (k := x)
        have l2 := bn_le (n := i.toNat) (k := x - 1)
        have one : (1 : Int64).toInt = 1 := rfl
        have pp := pw2_pos 144
        refine s_addM (by omega) (by omega) (by omega) h1 h2 (by decide) (by rw [one]; omega) (fun g4 f4 h4 => ⟨by omega, fun x2 ex2 => ⟨_, ?_, rfl, by omega, by omega, d3.trans (f4.fr (by omega) (by omega)), fun k k0 k1 => ?_, fun k k0 k1 => ?_⟩⟩)
        · omega
        · by_cases e : k = x
          · rw [e]
            rw [one, Int.one_mul] at h4
            exact h4
          · exact f4.row (by omega) (d4 k (by omega) k1)
        · exact f4.row (by omega) (d5 k k0 (by omega))
  · refine s_putM (by omega) hz.2 (fun g2 f2 h2 => nx (by omega) ⟨_, ?_, rfl, by omega, by omega, b3.trans (f2.fr (by omega) (by omega)), fun k k0 k1 => ?_⟩)
    · omega
    · by_cases e : k = x
      · rw [e, ← hz.1]; exact h2
      · exact f2.row (by omega) (b4 k k0 (by omega))
theorem s_withinM {v a b : Int} {post : Int → Prop} (hp : ∀ u : Int, (u = 0 ∨ u = 1) → (u = 1 ↔ a ≤ v ∧ v ≤ b) → post u) : P_X12_within post v a b := by
  unfold P_X12_within
  repeat' (first | refine exJi ?_ | refine exJ0 ?_ | refine And.intro ?_ ?_ | intro _)
  all_goals first | omega | exact hp _ (by omega) (by omega)
theorem s_sumUpM {post : (Int → Int64) → Prop} {g : Int → Int64} {r left X : Int} {n : Nat} {f : Int → Int} (hr : 435 ≤ r ∧ r < 450) (hl : -1000 ≤ left ∧ left ≤ 1000) (hn : n ≤ 144) (ht : Tab g 0 f) (hf : ∀ k, 0 ≤ f k ∧ f k ≤ X) (hX : 0 ≤ X) (hXn : X * pw2 n ≤ pw2 144) (hp : ∀ g', Tab g' 0 f → (∀ q v, 435 ≤ q → ¬ q = r → NW6 (rw6 g q) v → NW6 (rw6 g' q) v) → NW6 (rw6 g' r) (SU f left n) → post g') : P_X12_sumUp post g r left n := by
  have p144 := pw144
  have pp := pw2_pos 144
  have sb := SU_le (left := left) (n := n) hf hX
  have nn : ∀ k, 0 ≤ f k * bn n (left - k) := fun k => Int.mul_nonneg (hf k).1 bn_nn
  unfold P_X12_sumUp
  refine s_chooseM hn (fun g1 f1 t1 => ?_)
  refine s_putM (by omega) (by decide) (fun g2 f2 h2 => ?_)
  have t2 : Tab g2 290 (bn n) := fun k k0 k1 => f2.row (by omega) (t1 k k0 k1)
  have p2 : Tab g2 0 f := fun k k0 k1 => f2.row (by omega) (f1 _ _ (by omega) (ht k k0 k1))
  have o2 : ∀ q v, 435 ≤ q → ¬ q = r → NW6 (rw6 g q) v → NW6 (rw6 g2 q) v := fun q v q0 q1 hq => f2.row q1 (f1 q v (by omega) hq)
  refine ⟨fun m x g' => m = (145 - x).toNat ∧ 0 ≤ x ∧ x ≤ 145 ∧ FrR g2 g' r ∧ NW6 (rw6 g' r) (sumL (cellsL x) (fun k => f k * bn n (left - k))), ⟨_, rfl, by omega, by omega, FrR.refl, h2⟩, ?_⟩
  rintro m x g3 rx ⟨rfl, b1, b2, b3, b4⟩
  refine ⟨fun y => hp g3 (fun k k0 k1 => b3.row (by omega) (p2 k k0 k1)) (fun q v q0 q1 hq => b3.row q1 (o2 q v q0 q1 hq)) ?_, fun y => ⟨by omega, ?_⟩⟩
  · have : x = 145 := by omega
    subst this
    exact b4
  · refine s_withinM (fun u u01 iu => ?_)
    intro _
    have sn := sumL_cells_snoc (n := x) (f := fun k => f k * bn n (left - k)) b1
    have part := sum_part (y := x + 1) (n := 145) (by omega) (by omega) nn
    have sud : SU f left n = sumL (cellsL 145) (fun k => f k * bn n (left - k)) := rfl
    refine ⟨fun g4 => FrR g2 g4 r ∧ NW6 (rw6 g4 r) (sumL (cellsL (x + 1)) (fun k => f k * bn n (left - k))), ⟨fun z => ⟨b3, ?_⟩, fun z => ⟨by omega, ?_, ?_⟩⟩, fun g4 hg4 => nx (by omega) ⟨_, by omega, rfl, by omega, by omega, hg4.1, hg4.2⟩⟩
    · have nw : ¬ (0 ≤ left - x ∧ left - x ≤ n) := fun q => by have := iu.2 q; rw [z] at this; exact absurd this (by decide)
      have bz : bn n (left - x) = 0 := by
        by_cases q : left - x < 0
        · exact bn_neg q
        · exact bn_big (by omega)
      rw [sn, bz, Int.mul_zero, Int.add_zero]
      exact b4
    · have iw := iu.1 (u01.resolve_left z)
      omega
    · have iw := iu.1 (u01.resolve_left z)
      clear iu
      have hc := b3.row (by omega) (t2 (left - x) (by omega) (by omega))
      rw [show 290 + (left - x) = 290 + left - x by omega] at hc
      refine s_addProductM (by omega) (by omega) (by omega) (by omega) (by omega) b4 (b3.row (by omega) (p2 x b1 (by omega))) hc ?_ (fun g4 f4 h4 => ⟨b3.trans f4, ?_⟩)
      · have : sumL (cellsL x) (fun k => f k * bn n (left - k)) + f x * bn n (left - x) ≤ SU f left n := by rw [sud, ← sn]; exact part
        omega
      · rw [sn]; exact h4
