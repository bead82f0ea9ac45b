/-- the rows below x alone -/
def cut (f : Int → Int) (x : Int) : Int → Int := fun k => if k < x then f k else 0
theorem cv_succ {f g : Int → Int} {x most j : Int} (hm : 0 ≤ most) : cvF (cut f (x + 1)) g most j = cvF (cut f x) g most j + if x ≤ j ∧ j ≤ x + most then f x * g (j - x) else 0 := by
  unfold cvF
  by_cases h : x ≤ j ∧ j ≤ x + most
  · rw [if_pos h]
    have e := sum_at (n := most + 1) (k := j - x) (f := fun m => f (j - m) * g m) (by omega)
    rw [show j - (j - x) = x by omega] at e
    rw [← e]
    refine sumL_add (fun m _ => ?_)
    unfold cut
    by_cases q : m = j - x
    · rw [if_pos q, if_pos (by omega), if_neg (by omega)]; omega
    · rw [if_neg q]
      by_cases z : j - m < x
      · rw [if_pos z, if_pos (by omega)]; omega
      · rw [if_neg z, if_neg (by omega)]; omega
  · rw [if_neg h, Int.add_zero]
    refine sumL_congr (fun m hm => ?_)
    have := mem_cells.1 hm
    unfold cut
    by_cases z : j - m < x
    · rw [if_pos z, if_pos (by omega)]
    · rw [if_neg z, if_neg (by omega)]
theorem cv_le {f g : Int → Int} {x most j : Int} (hf : ∀ k, 0 ≤ f k) (hg : ∀ m, 0 ≤ g m) : 0 ≤ cvF (cut f x) g most j ∧ cvF (cut f x) g most j ≤ cvF f g most j := by
  refine ⟨sumL_nn (fun m _ => Int.mul_nonneg ?_ (hg m)), sumL_lel (fun m _ => Int.mul_le_mul_of_nonneg_right ?_ (hg m))⟩
  · unfold cut; have := hf (j - m); split <;> omega
  · unfold cut; have := hf (j - m); split <;> omega
theorem cv_all {f g : Int → Int} {most j : Int} (hj : j < 145) : cvF (cut f 145) g most j = cvF f g most j := sumL_congr (fun m hm => by
  have := mem_cells.1 hm
  unfold cut
  rw [if_pos (by omega)])
theorem cv_zero {f g : Int → Int} {most j : Int} (hf : ∀ k, k < 0 → f k = 0) : cvF (cut f 0) g most j = 0 := sumL_z (fun m _ => by
  unfold cut
  by_cases z : j - m < 0
  · rw [if_pos z, hf _ z, Int.zero_mul]
  · rw [if_neg z, Int.zero_mul])
/-- the weight of a cell, as far as its part has come -/
noncomputable def wgt (po : Int → Int) (c x : Int) : (Int → Int) → Int := fun t => if 0 ≤ c ∧ po c < x then t c else 1
noncomputable def wg1 (po : Int → Int) (c x : Int) : (Int → Int) → Int := fun t => if 0 ≤ c ∧ po c = x then t c else 1
theorem wgt_mul {po : Int → Int} {c x : Int} : (fun t => wgt po c x t * wg1 po c x t) = wgt po c (x + 1) := by
  funext t
  unfold wgt wg1
  by_cases h0 : 0 ≤ c
  · by_cases h1 : po c < x
    · rw [if_pos ⟨h0, h1⟩, if_neg (by omega), if_pos (by omega)]; omega
    · by_cases h2 : po c = x
      · rw [if_neg (by omega), if_pos ⟨h0, h2⟩, if_pos (by omega)]; omega
      · rw [if_neg (by omega), if_neg (by omega), if_neg (by omega)]; rfl
  · rw [if_neg (by omega), if_neg (by omega), if_neg (by omega)]; rfl
theorem wgt01 {po : Int → Int} {c x : Int} : ∀ t : Int → Int, (∀ c, t c = 0 ∨ t c = 1) → 0 ≤ wgt po c x t ∧ wgt po c x t ≤ 1 := by
  intro t h
  unfold wgt
  have := h c
  split <;> omega
theorem wg01 {po : Int → Int} {c x : Int} : ∀ t : Int → Int, (∀ c, t c = 0 ∨ t c = 1) → 0 ≤ wg1 po c x t ∧ wg1 po c x t ≤ 1 := by
  intro t h
  unfold wg1
  have := h c
  split <;> omega
theorem RLs_succ {n q : Int} {po : Int → Int} (h : 0 ≤ q) : RLs n (q + 1) po = RLs n q po ++ [Lp n po q] := by
  unfold RLs
  rw [show (q + 1).toNat = q.toNat + 1 by omega, List.range_succ, List.map_append]
  show _ ++ [Lp n po ((q.toNat : Nat) : Int)] = _
  rw [show ((q.toNat : Nat) : Int) = q by omega]
theorem RLs_sub {n x q : Int} {po : Int → Int} (h : x ≤ q) : (RLs n x po).Sublist (RLs n q po) := List.Sublist.map _ (List.range_sublist.2 (by omega))
theorem s_multPartsM {w h sh fits q c : Int} {st R po pl sz ways wth : Int → Int} {Ch : Int → Prop} {g : Int → Int64} {post : (Int → Int64) → Prop} (h144 : w * h ≤ 144) (h0 : 0 ≤ w * h) (cok : ChOk w h sh st Ch) (cm : CM w h sh st R Ch fits q po pl sz ways wth) (hf : fits = 1) (hc : c = -1 ∨ ((0 ≤ c ∧ c < w * h) ∧ 0 ≤ po c))
    (hp : ∀ g', FrG g g' 0 290 → Tab g' 0 (NWe w h sh st R Ch (RLs (w * h) q po) (wgt po c q)) → post g') : P_X12_multiplyParts post q po pl sz ways wth g c := by
  have dv := cm.1
  have pls := dv.pls cok
  have len := PLs_len pls h0
  have p144 := pw144
  have pp := pw2_pos 144
  have bdd : ∀ x, x ≤ q → ∀ k, 0 ≤ NWe w h sh st R Ch (RLs (w * h) x po) (wgt po c x) k ∧ NWe w h sh st R Ch (RLs (w * h) x po) (wgt po c x) k ≤ pw2 144 := by
    intro x hx k
    have a := NWe_bd (w := w) (h := h) (sh := sh) (st := st) (R := R) (Ch := Ch) (ls := RLs (w * h) x po) (k := k) (wgt01 (po := po) (c := c) (x := x))
    have b := (fl_sub (RLs_sub (n := w * h) (po := po) hx)).length_le
    have := pw2_le (n := (RLs (w * h) x po).flatten.length) (m := 144) (by omega)
    omega
  have q72 := dv.2.1
  unfold P_X12_multiplyParts
  refine ⟨fun m x g' => m = (145 - x).toNat ∧ 0 ≤ x ∧ x ≤ 145 ∧ FrG g g' 0 290 ∧ ∀ k, 0 ≤ k → k < x → NW6 (rw6 g' (0 + k)) (f10 k), ⟨_, rfl, by omega, by omega, FrG.refl, fun k _ _ => by omega⟩, ?_⟩
  rintro m x g1 rx ⟨rfl, b1, b2, b3, b4⟩
  refine ⟨fun y => ?_, fun y => ⟨fun z => z.toInt = f10 x ∧ (0 ≤ z.toInt ∧ z.toInt < 2147483648), ⟨fun z => ⟨by unfold f10; rw [if_neg z]; rfl, by decide⟩, fun z => ⟨by unfold f10; rw [if_pos z]; rfl, by decide⟩⟩, fun z hz => ⟨by omega, ?_⟩⟩⟩
  rotate_left
  · refine s_putM (by omega) hz.2 (fun g2 f2 h2 => nx (by omega) ⟨_, ?_, rfl, by omega, by omega, b3.trans (f2.fr (by omega) (by omega)), fun k k0 k1 => ?_⟩)
    · omega
    · by_cases e : k = x
      · rw [e, ← hz.1]; exact h2
      · exact f2.row (by omega) (b4 k k0 (by omega))
  refine ⟨fun m p g' => m = (q - p).toNat ∧ 0 ≤ p ∧ p ≤ q ∧ FrG g g' 0 290 ∧ Tab g' 0 (NWe w h sh st R Ch (RLs (w * h) p po) (wgt po c p)), ⟨_, rfl, by omega, by omega, b3, fun k k0 k1 => ?_⟩, ?_⟩
  · have e : NWe w h sh st R Ch (RLs (w * h) 0 po) (wgt po c 0) k = f10 k := by
      have : (RLs (w * h) 0 po) = [] := rfl
      rw [this]
      have e2 : NWe w h sh st R Ch [] (wgt po c 0) k = NWe w h sh st R Ch [] (fun _ => 1) k := by
        unfold NWe
        refine asum_congr (fun t _ => ?_)
        congr 1
        unfold wgt
        rw [if_neg ?_]
        rcases hc with r | r
        · omega
        · omega
      rw [e2, NWe_nil]
      rfl
    rw [e]
    exact b4 k k0 (by omega)
  clear b4 b3 b2 b1
  rintro m p g2 rp ⟨rfl, b1, b2, b3, b4⟩
  refine ⟨fun z => hp g2 b3 ?_, fun z => ?_⟩
  · have : p = q := by omega
    subst this
    exact b4
  have hpq : 0 ≤ p ∧ p < q := ⟨b1, by omega⟩
  have cp := cm.2 hf p b1 hpq.2
  obtain ⟨plo, szp, sz16⟩ := dv.pl hf hpq
  have nd1 : (RLs (w * h) p po ++ [Lp (w * h) po p]).flatten.Nodup := by
    rw [← RLs_succ b1]
    exact (fl_sub (RLs_sub (n := w * h) (po := po) (show p + 1 ≤ q by omega))).nodup pls.1
  have cl1 : ∀ M ∈ RLs (w * h) p po ++ [Lp (w * h) po p], Cl w h sh st Ch M := by
    rw [← RLs_succ b1]
    exact fun M hM => pls.2.1 M ((RLs_sub (n := w * h) (po := po) (show p + 1 ≤ q by omega)).mem hM)
  have dep1 : Dep (RLs (w * h) p po).flatten (wgt po c p) := by
    intro s t e
    unfold wgt
    by_cases r : 0 ≤ c ∧ po c < p
    · rw [if_pos r, if_pos r]
      refine e c (List.mem_flatten.2 ⟨Lp (w * h) po (po c), ?_, mem_Lp.2 ⟨by omega, rfl⟩⟩)
      unfold RLs
      refine List.mem_map.2 ⟨(po c).toNat, List.mem_range.2 (by omega), ?_⟩
      rw [show (((po c).toNat : Nat) : Int) = po c by omega]
    · rw [if_neg r, if_neg r]
  have dep2 : Dep (Lp (w * h) po p) (wg1 po c p) := by
    intro s t e
    unfold wg1
    by_cases r : 0 ≤ c ∧ po c = p
    · rw [if_pos r, if_pos r]
      exact e c (mem_Lp.2 ⟨by omega, r.2⟩)
    · rw [if_neg r, if_neg r]
  -- the product with a part more
  have cv : ∀ k, cvF (NWe w h sh st R Ch (RLs (w * h) p po) (wgt po c p)) (Te w h sh st R Ch (Lp (w * h) po p) (wg1 po c p)) (sz p) k = NWe w h sh st R Ch (RLs (w * h) (p + 1) po) (wgt po c (p + 1)) k := by
    intro k
    rw [RLs_succ b1, ← wgt_mul, NWe_snoc nd1 cl1 dep1 dep2, szp]
    rfl
  have bP := bdd p (by omega)
  have bN := bdd (p + 1) (by omega)
  have bT : ∀ m, 0 ≤ Te w h sh st R Ch (Lp (w * h) po p) (wg1 po c p) m ∧ Te w h sh st R Ch (Lp (w * h) po p) (wg1 po c p) m ≤ 65536 := by
    intro m
    have a1 := asum_bd (L := Lp (w * h) po p) (F := fun t => iB (SatL w h sh st R Ch (Lp (w * h) po p) t ∧ sumL (Lp (w * h) po p) t = m) * wg1 po c p t) (fun t bt => by
      have := wg01 (po := po) (c := c) (x := p) t (fun c => (bt c).1)
      rcases (show iB (SatL w h sh st R Ch (Lp (w * h) po p) t ∧ sumL (Lp (w * h) po p) t = m) = 0 ∨ iB (SatL w h sh st R Ch (Lp (w * h) po p) t ∧ sumL (Lp (w * h) po p) t = m) = 1 by unfold iB; split <;> simp) with q | q
      · rw [q]; omega
      · rw [q]; omega)
    have : pw2 (Lp (w * h) po p).length ≤ pw2 16 := pw2_le (by omega)
    have e16 : pw2 16 = 65536 := rfl
    unfold Te
    omega
  have neg : ∀ k, k < 0 → NWe w h sh st R Ch (RLs (w * h) p po) (wgt po c p) k = 0 := fun k hk => NWe_out (Or.inl hk)
  have nval : ∀ m, 0 ≤ m → m ≤ sz p → (¬ (0 ≤ c ∧ po c = p) → ways (17 * p + m) = Te w h sh st R Ch (Lp (w * h) po p) (wg1 po c p) m) ∧ ((0 ≤ c ∧ po c = p) → wth (272 * p + 17 * pl c + m) = Te w h sh st R Ch (Lp (w * h) po p) (wg1 po c p) m) := by
    intro m m0 m1
    have h1 := cp m m0 (by omega)
    refine ⟨fun r => ?_, fun r => ?_⟩
    · rw [h1.1, ← Te_one]
      congr 1
      funext t
      unfold wg1
      rw [if_neg r]
    · rw [h1.2 c (mem_Lp.2 ⟨by omega, r.2⟩), ← Te_c]
      congr 1
      funext t
      unfold wg1
      rw [if_pos r]
  generalize eF : NWe w h sh st R Ch (RLs (w * h) p po) (wgt po c p) = F at *
  generalize eG : Te w h sh st R Ch (Lp (w * h) po p) (wg1 po c p) = G at *
  have szb : 0 ≤ sz p := by omega
  have cvb : ∀ x j, 0 ≤ cvF (cut F x) G (sz p) j ∧ cvF (cut F x) G (sz p) j ≤ pw2 144 := by
    intro x j
    have := cv_le (x := x) (most := sz p) (j := j) (fun k => (bP k).1) (fun k => (bT k).1)
    have := cv j
    have := bN j
    omega
  -- Q = 0
  refine ⟨fun m x g' => m = (145 - x).toNat ∧ 0 ≤ x ∧ x ≤ 145 ∧ FrG g g' 0 290 ∧ Tab g' 0 F ∧ ∀ k, 0 ≤ k → k < x → NW6 (rw6 g' (145 + k)) 0, ⟨_, rfl, by omega, by omega, b3, b4, fun k _ _ => by omega⟩, ?_⟩
  rintro m x g3 rx ⟨rfl, c1, c2, c3, c4, c5⟩
  refine ⟨fun y => ?_, fun y => ⟨by omega, ?_⟩⟩
  rotate_left
  · refine s_putM (by omega) (by decide) (fun g4 f4 h4 => nx (by omega) ⟨_, ?_, rfl, by omega, by omega, c3.trans (f4.fr (by omega) (by omega)), fun k k0 k1 => f4.row (by omega) (c4 k k0 k1), fun k k0 k1 => ?_⟩)
    · omega
    · by_cases e : k = x
      · rw [e]; exact h4
      · exact f4.row (by omega) (c5 k k0 (by omega))
  -- rows of P, one by one
  refine ⟨fun m x g' => m = (145 - x).toNat ∧ 0 ≤ x ∧ x ≤ 145 ∧ FrG g g' 0 290 ∧ Tab g' 0 F ∧ Tab g' 145 (cvF (cut F x) G (sz p)), ⟨_, rfl, by omega, by omega, c3, c4, fun k k0 k1 => ?_⟩, ?_⟩
  · rw [cv_zero neg]; exact c5 k k0 (by omega)
  clear c5 c4 c3 c2 c1
  rintro m x g4 rx ⟨rfl, c1, c2, c3, c4, c5⟩
  refine ⟨fun y => ?_, fun y => ?_⟩
  · -- copied back
    have ex : x = 145 := by omega
    subst ex
    refine ⟨fun m x g' => m = (145 - x).toNat ∧ 0 ≤ x ∧ x ≤ 145 ∧ FrG g g' 0 290 ∧ Tab g' 145 (cvF (cut F 145) G (sz p)) ∧ ∀ k, 0 ≤ k → k < x → NW6 (rw6 g' (0 + k)) (cvF (cut F 145) G (sz p) k), ⟨_, rfl, by omega, by omega, c3, c5, fun k _ _ => by omega⟩, ?_⟩
    rintro m x g5 rx ⟨rfl, d1, d2, d3, d4, d5⟩
    refine ⟨fun u => nx (by omega) ⟨_, ?_, rfl, by omega, by omega, d3, fun k k0 k1 => ?_⟩, fun u => ⟨by omega, by omega, ?_⟩⟩
    · omega
    · rw [← cv k, ← cv_all k1]
      exact d5 k k0 (by omega)
    · refine s_copyM (by omega) (by omega) (by omega) (d4 x d1 (by omega)) (fun g6 f6 h6 => nx (by omega) ⟨_, by omega, rfl, by omega, by omega, d3.trans (f6.fr (by omega) (by omega)), fun k k0 k1 => f6.row (by omega) (d4 k k0 k1), fun k k0 k1 => ?_⟩)
      by_cases e : k = x
      · rw [e]; exact h6
      · exact f6.row (by omega) (d5 k k0 (by omega))
  · refine ⟨fun m y g' => m = (sz p + 1 - y).toNat ∧ 0 ≤ y ∧ y ≤ sz p + 1 ∧ x + y ≤ 145 ∧ FrG g g' 0 290 ∧ Tab g' 0 F ∧ Tab g' 145 (fun j => cvF (cut F x) G (sz p) j + if x ≤ j ∧ j < x + y then F x * G (j - x) else 0), ⟨_, rfl, by omega, by omega, by omega, c3, c4, fun k k0 k1 => ?_⟩, ?_⟩
    · show NW6 _ (cvF (cut F x) G (sz p) k + if x ≤ k ∧ k < x + 0 then F x * G (k - x) else 0)
      rw [if_neg (by omega), Int.add_zero]
      exact c5 k k0 k1
    rintro m y g5 ry ⟨rfl, d1, d2, d3, d4, d5, d6⟩
    refine ⟨by omega, fun v ev _ => ?_⟩
    subst ev
    have fin : (sz p < y ∨ x + y = 145) → Tab g5 145 (cvF (cut F (x + 1)) G (sz p)) := by
      intro hy k k0 k1
      have : NW6 (rw6 g5 (145 + k)) (cvF (cut F x) G (sz p) k + if x ≤ k ∧ k < x + y then F x * G (k - x) else 0) := d6 k k0 k1
      rw [cv_succ szb]
      by_cases r : x ≤ k ∧ k ≤ x + sz p
      · rw [if_pos r]
        rw [show (if x ≤ k ∧ k < x + y then F x * G (k - x) else 0) = F x * G (k - x) from if_pos (by omega)] at this
        exact this
      · rw [if_neg r]
        rw [show (if x ≤ k ∧ k < x + y then F x * G (k - x) else 0) = 0 from if_neg (by omega)] at this
        exact this
    refine ⟨Tab g5 145 (cvF (cut F (x + 1)) G (sz p)), ⟨fun u => fin (Or.inl u), fun u => ⟨by omega, fun u2 => fin (Or.inr (by omega)), fun u2 => ?_⟩⟩, fun jj => nx (by omega) ⟨_, by omega, rfl, by omega, by omega, d4, d5, jj⟩⟩
    have nv := nval y d1 (by omega)
    have gy := bT y
    refine ⟨fun z => z.toInt = G y, ⟨¬ (0 ≤ c ∧ po c = p), ⟨fun r => by omega, fun r => ⟨by omega, fun v1 e1 _ => ⟨fun r2 => by rw [e1] at r2; omega, fun r2 => ⟨by omega, fun v2 e2 _ => ?_⟩⟩⟩⟩, fun r => ⟨by omega, fun v3 e3 _ => ?_⟩⟩, fun z hz => ?_⟩
    · have rc : 0 ≤ c ∧ po c = p := ⟨by omega, by rw [← e1]; exact r2⟩
      have pc := plo c (by omega) (by omega) rc.2
      rw [← e2] at pc
      refine ⟨by omega, fun v4 e4 _ => ?_⟩
      rw [e4, e2, nv.2 rc]
      exact tI_of ⟨by omega, by omega⟩
    · rw [e3, nv.1 r]
      exact tI_of ⟨by omega, by omega⟩
    · refine ⟨fun g6 => FrG g g6 0 290 ∧ Tab g6 0 F ∧ Tab g6 145 (fun j => cvF (cut F x) G (sz p) j + if x ≤ j ∧ j < x + (y + 1) then F x * G (j - x) else 0), ⟨fun u3 => ⟨d4, d5, fun k k0 k1 => ?_⟩, fun u3 => ⟨by omega, by omega, ?_⟩⟩, fun g6 hg6 => nx (by omega) ⟨_, by omega, rfl, by omega, by omega, by omega, hg6.1, hg6.2.1, hg6.2.2⟩⟩
      · have zz : ¬ 0 < z.toInt := fun r => lc0_pos.2 r u3
        have g0 : G y = 0 := by omega
        have : NW6 (rw6 g5 (145 + k)) (cvF (cut F x) G (sz p) k + if x ≤ k ∧ k < x + y then F x * G (k - x) else 0) := d6 k k0 k1
        show NW6 _ (cvF (cut F x) G (sz p) k + if x ≤ k ∧ k < x + (y + 1) then F x * G (k - x) else 0)
        have e : (if x ≤ k ∧ k < x + (y + 1) then F x * G (k - x) else 0) = if x ≤ k ∧ k < x + y then F x * G (k - x) else 0 := by
          by_cases r : k = x + y
          · rw [if_pos (by omega), if_neg (by omega), show k - x = y by omega, g0, Int.mul_zero]
          · by_cases r2 : x ≤ k ∧ k < x + y
            · rw [if_pos r2, if_pos (by omega)]
            · rw [if_neg r2, if_neg (by omega)]
        rw [e]
        exact this
      · have old := d6 (x + y) (by omega) (by omega)
        have e0 : (if x ≤ x + y ∧ x + y < x + y then F x * G (x + y - x) else 0) = 0 := if_neg (by omega)
        have old' : NW6 (rw6 g5 (145 + (x + y))) (cvF (cut F x) G (sz p) (x + y) + 0) := by rw [← e0]; exact old
        rw [Int.add_zero, show 145 + (x + y) = 145 + x + y by omega] at old'
        have row := d5 x c1 (by omega)
        have cs := cv_succ (f := F) (g := G) (x := x) (most := sz p) (j := x + y) szb
        rw [if_pos (by omega), show x + y - x = y by omega] at cs
        have cb := cvb (x + 1) (x + y)
        refine s_addM (by omega) (by omega) (by omega) old' row (by omega) (by rw [hz, Int.mul_comm]; omega) (fun g6 f6 h6 => ⟨d4.trans (f6.fr (by omega) (by omega)), fun k k0 k1 => f6.row (by omega) (d5 k k0 k1), fun k k0 k1 => ?_⟩)
        show NW6 _ (cvF (cut F x) G (sz p) k + if x ≤ k ∧ k < x + (y + 1) then F x * G (k - x) else 0)
        by_cases r : k = x + y
        · rw [r, if_pos (by omega), show x + y - x = y by omega, show 145 + (x + y) = 145 + x + y by omega]
          rw [hz, Int.mul_comm] at h6
          exact h6
        · have := f6.row (s := 145 + k) (by omega) (d6 k k0 k1)
          have e : (if x ≤ k ∧ k < x + (y + 1) then F x * G (k - x) else 0) = if x ≤ k ∧ k < x + y then F x * G (k - x) else 0 := by
            by_cases r2 : x ≤ k ∧ k < x + y
            · rw [if_pos r2, if_pos (by omega)]
            · rw [if_neg r2, if_neg (by omega)]
          rw [e]
          exact this
