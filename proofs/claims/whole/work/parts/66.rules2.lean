/-! one number, two numbers, and the sweeps of the reference -/
theorem fM_sums {w h sh c : Int} {mined st sf mf : Int → Int} (hmi : ∀ c, 0 ≤ c → c < w * h → mined c = 0 ∨ mined c = 1) (mi : MI (w * h) mined st sf mf) :
    sumL (NB w h sh c) (fun d => iU (st d) * mined d) = sumL (NB w h sh c) (fun d => iK (1 + 1) (fM st sf mf d)) + Nd w h sh mined (fM st sf mf) c ∧ sumL (NB w h sh c) (fun d => iU (st d)) = sumL (NB w h sh c) (fun d => iK (0 + 1) (fM st sf mf d)) + (sumL (NB w h sh c) (fun d => iK (1 + 1) (fM st sf mf d)) + En w h sh (fM st sf mf) c) := by
  constructor
  · refine sumL_add (fun x hx => ?_)
    have xc := nb_cell hx
    have v := mi.val xc.1 xc.2
    by_cases u : st x ≤ 1
    · rw [show iU (st x) = 1 from if_pos u]
      rcases v.1 u with e | e
      · rw [e, iK0_t rfl, show iK (1 + 1) 0 = 0 from rfl]; omega
      · rcases hmi x xc.1 xc.2 with q | q
        · rw [e, q]; rfl
        · rw [e, q]; rfl
    · rw [v.2 u, show iU (st x) = 0 from if_neg u, show iK (1 + 1) 3 = 0 from rfl, show iK 0 3 = 0 from rfl]; omega
  · rw [← sumL_add (l := NB w h sh c) (f := fun d => iK (1 + 1) (fM st sf mf d) + iK 0 (fM st sf mf d)) (fun x _ => rfl)]
    refine sumL_add (fun x hx => ?_)
    have xc := nb_cell hx
    have v := mi.val xc.1 xc.2
    by_cases u : st x ≤ 1
    · rw [show iU (st x) = 1 from if_pos u]
      rcases v.1 u with e | e
      · rw [e]; rfl
      · rcases hmi x xc.1 xc.2 with q | q
        · rw [e, q]; rfl
        · rw [e, q]; rfl
    · rw [v.2 u, show iU (st x) = 0 from if_neg u]; rfl
def R1n (w h sh : Int) (mined f : Int → Int) (c : Int) : Prop := (∃ v, ∀ d ∈ NB w h sh c, f d = 0 → mined d = v) → ∀ d ∈ NB w h sh c, ¬ f d = 0
theorem FOu {n d : Int} {mined st sf mf : Int → Int} (e : fM st sf mf d = 0) : st d ≤ 1 := (fM_0.mp e).1
theorem find_min1 {w h sh c v : Int} {mined st sf mf sf' mf' : Int → Int} (hc : 0 ≤ c ∧ c < w * h) (hs : st c = 2) (hv : ∀ d, Mk w h sh (fM st sf mf) c (-1) d → v = mined d) (ku : ∀ d, ¬ Mk w h sh (fM st sf mf) c (-1) d → fM st sf' mf' d = fM st sf mf d) {S : Int → Prop} (hS : C1 w h sh mined st S) (hK : ∀ d, Kf (w * h) st (fM st sf mf) d → S d) : ∀ d, Kf (w * h) st (fM st sf' mf') d → S d := by
  intro d hd
  by_cases mk : Mk w h sh (fM st sf mf) c (-1) d
  · refine hS c hc.1 hc.2 hs ⟨v, fun y hy hu hns => ?_⟩ d mk.1 hd.2.1
    have yc := nb_cell hy
    by_cases fy : fM st sf mf y = 0
    · exact (hv y ⟨hy, fy, Or.inl rfl⟩).symm
    · exact absurd (hK y ⟨yc, hu, fy⟩) hns
  · exact hK d ⟨hd.1, hd.2.1, by rw [← ku d mk]; exact hd.2.2⟩
theorem s_byOneM {w h sh c : Int} {near degree mine M mined number st sf mf : Int → Int} {post : Int → (Int → Int) → (Int → Int) → Prop} (E : ME w h sh near degree mine M mined number st) (mi : MI (w * h) mined st sf mf) (hc : 0 ≤ c ∧ c < w * h) (hs : st c = 2)
    (h0 : R1n w h sh mined (fM st sf mf) c → post 0 sf mf)
    (h1 : ∀ sf' mf' : Int → Int, MI (w * h) mined st sf' mf' → Zf (w * h) (fM st sf' mf') < Zf (w * h) (fM st sf mf) → (∀ S, C1 w h sh mined st S → (∀ d, Kf (w * h) st (fM st sf mf) d → S d) → ∀ d, Kf (w * h) st (fM st sf' mf') d → S d) → post 1 sf' mf') : P_X12_byOne post w h sh near degree mine M sf mf c := by
  obtain ⟨ok, g, em, hmi, gs, eM, en⟩ := id E
  have hl := NB_len ok hc
  obtain ⟨s1, s2⟩ := fM_sums (c := c) (sh := sh) hmi mi
  have z0 := Nd_zero (sh := sh) (c := c) (f := fM st sf mf) hmi
  have z1 := Nd_full (sh := sh) (c := c) (f := fM st sf mf) hmi
  have go : ∀ v : Int, (v = 0 ∨ v = 1) → (∀ d ∈ NB w h sh c, fM st sf mf d = 0 → mined d = v) → P_X12_find (fun c12 sf' mf' => (c12 = 0 ∨ c12 = 1) → post c12 sf' mf') w h sh near degree M sf mf c (-1) v := by
    intro v hv hu
    have hv' : ∀ d, Mk w h sh (fM st sf mf) c (-1) d → v = mined d := fun d hd => (hu d hd.1 hd.2.1).symm
    exact s_findM E mi hc (Or.inl rfl) hv hv' (fun q _ => h0 (fun _ d hd e => q d ⟨hd, e, Or.inl rfl⟩)) (fun sf' mf' k1 k2 k3 _ => h1 sf' mf' k1 k3 (fun S hS hK => find_min1 hc hs hv' k2 hS hK))
  have bnd := sumL_bound (l := NB w h sh c) (f := fun d => iU (st d)) (fun x _ => iU_b _)
  have bnd2 := sumL_bound (l := NB w h sh c) (f := fun d => iK (0 + 1) (fM st sf mf d)) (fun x _ => iK_b _ _)
  unfold P_X12_byOne
  refine s_foundAroundM E mi hc (Or.inr rfl) (fun _ => s_restOfM E hc (fun _ => ⟨fun q => s_unknownsM E hc (fun _ => s_foundAroundM E mi hc (Or.inl rfl) (fun _ => s_restOfM E hc (fun _ => ⟨by omega, fun q2 => h0 (fun hu d hd fd => ?_), fun q2 => go 1 (Or.inr rfl) (z1.mp (by omega))⟩))), fun q => go 0 (Or.inl rfl) (z0.mp (by omega))⟩))
  obtain ⟨v, hv⟩ := hu
  have dc := nb_cell hd
  have e := hv d hd fd
  rcases hmi d dc.1 dc.2 with q3 | q3
  · have := z0.mpr (fun x hx fx => by rw [hv x hx fx]; omega)
    omega
  · have := z1.mpr (fun x hx fx => by rw [hv x hx fx]; omega)
    omega
theorem find_min2 {w h sh a b v : Int} {mined st sf mf sf' mf' : Int → Int} (ha : 0 ≤ a ∧ a < w * h) (hb : 0 ≤ b ∧ b < w * h) (hab : a ≠ b) (sa : st a = 2) (sb : st b = 2) (hs : ∀ d ∈ NB w h sh a, fM st sf mf d = 0 → d ∈ NB w h sh b) (hv : ∀ d, Mk w h sh (fM st sf mf) b a d → v = mined d) (ku : ∀ d, ¬ Mk w h sh (fM st sf mf) b a d → fM st sf' mf' d = fM st sf mf d) {S : Int → Prop} (hS : C2 w h sh mined st S) (hK : ∀ d, Kf (w * h) st (fM st sf mf) d → S d) : ∀ d, Kf (w * h) st (fM st sf' mf') d → S d := by
  intro d hd
  by_cases mk : Mk w h sh (fM st sf mf) b a d
  · rcases mk.2.2 with q | q
    · exact absurd q (by omega)
    · refine hS a b ha hb hab sa sb (fun x hx hu hns => ?_) ⟨v, fun x hx hu hns hna => ?_⟩ d mk.1 hd.2.1 q
      · have xc := nb_cell hx
        by_cases fx : fM st sf mf x = 0
        · exact hs x hx fx
        · exact absurd (hK x ⟨xc, hu, fx⟩) hns
      · have xc := nb_cell hx
        by_cases fx : fM st sf mf x = 0
        · exact (hv x ⟨hx, fx, Or.inr hna⟩).symm
        · exact absurd (hK x ⟨xc, hu, fx⟩) hns
  · exact hK d ⟨hd.1, hd.2.1, by rw [← ku d mk]; exact hd.2.2⟩
theorem exJ3k {α β : Type} {p : α → β → Int → Prop} {A : (α → β → Int → Prop) → Prop} (h : A (fun x y z => inR z → p x y z)) : ∃ J : α → β → Int → Prop, A J ∧ ∀ (x : α) (y : β) (z : Int), inR z → J x y z → p x y z := ⟨_, h, fun _ _ _ r k => k r⟩
theorem s_byTwoM {w h sh a b : Int} {near degree mine M mined number st sf mf : Int → Int} {post : Int → (Int → Int) → (Int → Int) → Prop} (E : ME w h sh near degree mine M mined number st) (mi : MI (w * h) mined st sf mf) (ha : 0 ≤ a ∧ a < w * h) (hb : 0 ≤ b ∧ b < w * h) (hab : a ≠ b) (sa : st a = 2) (sb : st b = 2)
    (h0 : No2 w h sh mined (fM st sf mf) a b → post 0 sf mf)
    (h1 : ∀ sf' mf' : Int → Int, MI (w * h) mined st sf' mf' → Zf (w * h) (fM st sf' mf') < Zf (w * h) (fM st sf mf) → (∀ S, C2 w h sh mined st S → (∀ d, Kf (w * h) st (fM st sf mf) d → S d) → ∀ d, Kf (w * h) st (fM st sf' mf') d → S d) → post 1 sf' mf') : P_X12_byTwo post w h sh near degree mine M sf mf a b := by
  obtain ⟨ok, g, em, hmi, gs, eM, en⟩ := id E
  have ea := En_b (f := fM st sf mf) ok ha
  have eb := En_b (f := fM st sf mf) ok hb
  have na := Nd_b (f := fM st sf mf) ok hmi ha
  have nb := Nd_b (f := fM st sf mf) ok hmi hb
  have sA := (fM_sums (c := a) (sh := sh) hmi mi).1
  have sB := (fM_sums (c := b) (sh := sh) hmi mi).1
  have oab := oth_any (w := w) (h := h) (sh := sh) (a := b) (b := a) (f := fM st sf mf)
  have oba := oth_any (w := w) (h := h) (sh := sh) (a := a) (b := b) (f := fM st sf mf)
  have oz := oth_zero (w := w) (h := h) (sh := sh) (a := a) (b := b) (f := fM st sf mf) hmi
  have of := oth_full (w := w) (h := h) (sh := sh) (a := a) (b := b) (f := fM st sf mf) hmi
  unfold P_X12_byTwo
  refine s_endsBesideM E ha hb (fun _ => ⟨fun q => ?_, fun q => h0 (fun hh => ?_)⟩)
  · have hs : ∀ d ∈ NB w h sh a, fM st sf mf d = 0 → d ∈ NB w h sh b := fun d hd fd => Classical.byContradiction (fun y => by have := oab.mpr ⟨d, hd, fd, y⟩; omega)
    have ps := pair_sums (mined := mined) hs
    have go : ∀ (v : Int) (p1 : (Int → Int) → (Int → Int) → Prop) (p0 : (Int → Int) → (Int → Int) → Prop), (v = 0 ∨ v = 1) → (∀ d ∈ NB w h sh b, fM st sf mf d = 0 → ¬ d ∈ NB w h sh a → mined d = v) → (post 0 sf mf → p0 sf mf) → (∀ sf' mf', post 1 sf' mf' → p1 sf' mf') → P_X12_find (fun c12 sf' mf' => (c12 = 0 ∨ c12 = 1) → ((c12 = 0 → p0 sf' mf') ∧ (¬ c12 = 0 → p1 sf' mf'))) w h sh near degree M sf mf b a v := by
      intro v p1 p0 hv hu hp0 hp1
      have hv' : ∀ d, Mk w h sh (fM st sf mf) b a d → v = mined d := fun d hd => by
        rcases hd.2.2 with y | y
        · exact absurd y (by omega)
        · exact (hu d hd.1 hd.2.1 y).symm
      refine s_findM E mi hb (Or.inr ha) hv hv' (fun q2 _ => ⟨fun _ => hp0 (h0 (fun hh => ?_)), fun z => absurd rfl z⟩) (fun sf' mf' k1 k2 k3 _ => ⟨fun z => absurd z (by omega), fun _ => hp1 _ _ (h1 sf' mf' k1 k3 (fun S hS hK => find_min2 ha hb hab sa sb hs hv' k2 hS hK))⟩)
      obtain ⟨d, hd, fd, nd⟩ := hh.2.2
      exact q2 d ⟨hd, fd, Or.inr nd⟩
    refine s_restOfM E ha (fun _ => s_foundAroundM E mi ha (Or.inr rfl) (fun _ => ⟨by omega, fun x3 ex3 => s_restOfM E hb (fun _ => s_foundAroundM E mi hb (Or.inr rfl) (fun _ => ⟨by omega, fun x4 ex4 => s_endsBesideM E hb ha (fun _ => ⟨fun q2 => ⟨by omega, exJ3k (exJ2' ⟨fun q3 _ => ⟨by omega, h0 (fun hh => ?_)⟩, fun q3 => go 1 (fun sf' mf' => inR 1 → ((1 : Int) = 0 ∨ (1 : Int) = 1) ∧ post 1 sf' mf') (fun sf' mf' => inR 0 → ((0 : Int) = 0 ∨ (0 : Int) = 1) ∧ post 0 sf' mf') (Or.inr rfl) (of.mp (by omega)) (fun y _ => ⟨by omega, y⟩) (fun _ _ y _ => ⟨by omega, y⟩)⟩)⟩, fun q2 => ?_⟩)⟩))⟩))
    · obtain ⟨-, ⟨v, hv⟩, d, hd, fd, nd⟩ := hh
      have dc := nb_cell hd
      have e := hv d hd fd nd
      rcases hmi d dc.1 dc.2 with y | y
      · have := oz.mpr (fun x hx fx nx2 => by rw [hv x hx fx nx2]; omega)
        omega
      · have := of.mpr (fun x hx fx nx2 => by rw [hv x hx fx nx2]; omega)
        omega
    · have hv' : ∀ d, Mk w h sh (fM st sf mf) b a d → (0 : Int) = mined d := fun d hd => by
        rcases hd.2.2 with y | y
        · exact absurd y (by omega)
        · exact (oz.mp (by omega) d hd.1 hd.2.1 y).symm
      refine s_findM E mi hb (Or.inr ha) (Or.inl rfl) hv' (fun q3 _ => h0 (fun hh => ?_)) (fun sf' mf' k1 k2 k3 _ => h1 sf' mf' k1 k3 (fun S hS hK => find_min2 ha hb hab sa sb hs hv' k2 hS hK))
      obtain ⟨d, hd, fd, nd⟩ := hh.2.2
      exact q3 d ⟨hd, fd, Or.inr nd⟩
  · obtain ⟨d, hd, fd, nd⟩ := oab.mp (by omega)
    exact nd (hh.1 d hd fd)
theorem s_findByRulesM {w h sh pp : Int} {near degree mine M mined number st sf mf : Int → Int} {post : (Int → Int) → (Int → Int) → Prop} (E : ME w h sh near degree mine M mined number st)
    (hp : ∀ sf' mf' : Int → Int, MI (w * h) mined st sf' mf' → C1 w h sh mined st (Kf (w * h) st (fM st sf' mf')) → (¬ pp = 0 → C2 w h sh mined st (Kf (w * h) st (fM st sf' mf'))) → (∀ S, C1 w h sh mined st S → (¬ pp = 0 → C2 w h sh mined st S) → ∀ d, Kf (w * h) st (fM st sf' mf') d → S d) → post sf' mf') : P_X12_findByRules post w h (w * h) sh near degree mine M sf mf pp := by
  obtain ⟨ok, g, em, hmi, gs, eM, en⟩ := id E
  have hle := wh_le ok
  have hge := wh_ge ok
  have s2iff : ∀ c, 0 ≤ c → c < w * h → (M c = 1 ↔ st c = 2) := fun c h0 h1 => by
    rw [eM c h0 h1]
    have := gs.1 c h0 h1
    rcases (show st c = 0 ∨ st c = 1 ∨ st c = 2 ∨ st c = 3 by omega) with e | e | e | e <;> rw [e] <;> decide
  unfold P_X12_findByRules
  refine ⟨fun n x s m => n = (w * h - x).toNat ∧ 0 ≤ x ∧ x ≤ w * h ∧ ∀ c, 0 ≤ c → c < x → s c = 0 ∧ m c = 0, ⟨_, rfl, by omega, by omega, fun c _ _ => by omega⟩, ?_⟩
  rintro n x s m rx ⟨rfl, b1, b2, b3⟩
  refine ⟨fun q => ?_, fun q => ⟨by omega, fun s2 es => ⟨by omega, fun m2 em2 => nx (by omega) ⟨_, ?_, rfl, by omega, by omega, fun c h0 h1 => ?_⟩⟩⟩⟩
  · have mi0 : MI (w * h) mined st s m := fun d h0 h1 => ⟨Or.inl (b3 d h0 (by omega)).1, Or.inl (b3 d h0 (by omega)).2⟩
    refine ⟨fun n x2 s m => (x2 = 0 ∨ x2 = 1) ∧ MI (w * h) mined st s m ∧ (x2 = 0 → C1 w h sh mined st (Kf (w * h) st (fM st s m)) ∧ (¬ pp = 0 → C2 w h sh mined st (Kf (w * h) st (fM st s m)))) ∧ (∀ S, C1 w h sh mined st S → (¬ pp = 0 → C2 w h sh mined st S) → ∀ d, Kf (w * h) st (fM st s m) d → S d) ∧ n = (if x2 = 0 then 0 else (Zf (w * h) (fM st s m)).toNat + 1), ⟨_, Or.inr rfl, mi0, fun z => absurd z (by omega), fun S _ _ d hd => absurd (fM_0.mpr ⟨hd.2.1, b3 d hd.1.1 (by have := hd.1.2; omega)⟩) hd.2.2, rfl⟩, ?_⟩
    rintro n x2 s1 m1 rx2 ⟨c1, c2, c3, c4, c5⟩
    refine ⟨fun z => hp s1 m1 c2 (c3 z).1 (c3 z).2 c4, fun z => ?_⟩
    rw [if_neg z] at c5
    have zb1 := Zf_b (n := w * h) (f := fM st s1 m1) (by omega)
    refine ⟨fun k b x s2 m2 => k = (w * h - x).toNat ∧ 0 ≤ x ∧ x ≤ w * h ∧ (b = 0 ∨ b = 1) ∧ MI (w * h) mined st s2 m2 ∧ (b = 0 → s2 = s1 ∧ m2 = m1 ∧ ∀ c, 0 ≤ c → c < x → st c = 2 → R1n w h sh mined (fM st s1 m1) c ∧ (¬ pp = 0 → ∀ d, 0 ≤ d → d < w * h → d ≠ c → st d = 2 → No2 w h sh mined (fM st s1 m1) c d)) ∧ (b = 1 → Zf (w * h) (fM st s2 m2) < Zf (w * h) (fM st s1 m1)) ∧ (∀ S, C1 w h sh mined st S → (¬ pp = 0 → C2 w h sh mined st S) → ∀ d, Kf (w * h) st (fM st s2 m2) d → S d), ⟨_, rfl, by omega, by omega, Or.inl rfl, c2, fun _ => ⟨rfl, rfl, fun c _ _ => by omega⟩, fun y => absurd y (by omega), c4⟩, ?_⟩
    rintro k b x s2 m2 rb rx ⟨rfl, d1, d2, d3, d4, d5, d6, d7⟩
    refine ⟨fun z3 => ⟨if b = 0 then 0 else (Zf (w * h) (fM st s2 m2)).toNat + 1, ?_, d3, d4, fun e => ?_, d7, rfl⟩, fun z3 => ?_⟩
    · have zb2 := Zf_b (n := w * h) (f := fM st s2 m2) (by omega)
      rcases d3 with e | e
      · rw [if_pos e]; omega
      · rw [if_neg (by omega)]
        have := d6 e
        omega
    · obtain ⟨e1, e2, e3⟩ := d5 e
      subst e1 e2
      refine ⟨fun c h0 h1 hs ⟨v, hv⟩ d hd hu => ?_, fun hpp a b2 ha hb hab sa sb hsub ⟨v, hv⟩ d hd hu hna => ?_⟩
      · have dc := nb_cell hd
        refine ⟨dc, hu, (e3 c h0 (by omega) hs).1 ⟨v, fun y hy fy => ?_⟩ d hd⟩
        exact hv y hy (fM_0.mp fy).1 (fun z => z.2.2 fy)
      · have dc := nb_cell hd
        refine ⟨dc, hu, fun fd => (e3 a ha.1 (by omega) sa).2 hpp b2 hb.1 hb.2 (fun z => hab z.symm) sb ⟨fun y hy fy => ?_, ⟨v, fun y hy fy ny => ?_⟩, d, hd, fd, hna⟩⟩
        · exact hsub y hy (fM_0.mp fy).1 (fun z => z.2.2 fy)
        · exact hv y hy (fM_0.mp fy).1 (fun z => z.2.2 fy) ny
    · have hx : 0 ≤ x ∧ x < w * h := ⟨d1, by omega⟩
      have sx := s2iff x hx.1 hx.2
      -- the state between the single and the pairs of x
      refine ⟨by omega, fun v ev rv => ⟨fun b' s3 m3 => (b' = 0 ∨ b' = 1) ∧ MI (w * h) mined st s3 m3 ∧ (b' = 0 → b = 0 ∧ s3 = s2 ∧ m3 = m2 ∧ (st x = 2 → R1n w h sh mined (fM st s1 m1) x)) ∧ (b' = 1 → Zf (w * h) (fM st s3 m3) < Zf (w * h) (fM st s1 m1)) ∧ (∀ S, C1 w h sh mined st S → (¬ pp = 0 → C2 w h sh mined st S) → ∀ d, Kf (w * h) st (fM st s3 m3) d → S d), ⟨fun z4 => ⟨d3, d4, fun e => ⟨e, rfl, rfl, fun y => absurd (by rw [ev]; exact sx.mpr y) z4⟩, d6, d7⟩, fun z4 => ?_⟩, fun b' s3 m3 rb' ⟨f1, f2, f3, f4, f5⟩ => ?_⟩⟩
      · refine s_byOneM E d4 hx (sx.mp (by omega)) (fun hr _ => ⟨fun z5 => z5 = b, ⟨¬ b = 0, ⟨fun y => absurd rfl y, fun _ => ⟨fun y => (show (0 : Int) = b by omega), fun y => y⟩⟩, fun y => (show (1 : Int) = b by omega)⟩, fun z5 _ ez5 => ?_⟩) (fun s3 m3 k1 k2 k3 _ => ⟨fun z5 => z5 = 1, ⟨True, ⟨fun _ => trivial, fun y => absurd y (by omega)⟩, fun _ => rfl⟩, fun z5 _ ez5 => ?_⟩)
        · subst ez5
          refine ⟨d3, d4, fun e => ⟨e, rfl, rfl, fun _ => ?_⟩, d6, d7⟩
          rw [← (d5 e).1, ← (d5 e).2.1]; exact hr
        · subst ez5
          refine ⟨Or.inr rfl, k1, fun e => absurd e (by omega), fun _ => ?_, fun S s1' s2' => k3 S s1' (d7 S s1' s2')⟩
          rcases d3 with e | e
          · rw [(d5 e).1, (d5 e).2.1] at k2; exact k2
          · have := d6 e; omega
      · refine ⟨fun k b2 y s4 m4 => k = (w * h - y).toNat ∧ 0 ≤ y ∧ y ≤ w * h ∧ (b2 = 0 ∨ b2 = 1) ∧ MI (w * h) mined st s4 m4 ∧ (b2 = 0 → b' = 0 ∧ s4 = s3 ∧ m4 = m3 ∧ (¬ pp = 0 → st x = 2 → ∀ d, 0 ≤ d → d < y → d ≠ x → st d = 2 → No2 w h sh mined (fM st s1 m1) x d)) ∧ (b2 = 1 → Zf (w * h) (fM st s4 m4) < Zf (w * h) (fM st s1 m1)) ∧ (∀ S, C1 w h sh mined st S → (¬ pp = 0 → C2 w h sh mined st S) → ∀ d, Kf (w * h) st (fM st s4 m4) d → S d), ⟨_, rfl, by omega, by omega, f1, f2, fun e => ⟨e, rfl, rfl, fun _ _ d _ _ => by omega⟩, f4, f5⟩, ?_⟩
        rintro k b2 y s4 m4 rb2 ry ⟨rfl, g1, g2, g3, g4, g5, g6, g7⟩
        refine ⟨(b2 = 0 → ¬ pp = 0 → st x = 2 → ∀ d, 0 ≤ d → d < w * h → d ≠ x → st d = 2 → No2 w h sh mined (fM st s1 m1) x d), ⟨fun z4 e hpp sx2 d h0 h1 => (g5 e).2.2.2 hpp sx2 d h0 (by omega), fun z4 => ⟨fun z5 _ hpp => absurd z5 hpp, fun z5 => ⟨by omega, fun v2 ev2 rv2 => ⟨fun z6 _ _ y2 => absurd (by rw [ev2]; exact sx.mpr y2) z6, fun z6 => ?_⟩⟩⟩⟩, fun hJ => nx (by omega) ⟨_, ?_, rfl, by omega, by omega, g3, g4, fun e => ?_, g6, g7⟩⟩
        · have hy : 0 ≤ y ∧ y < w * h := ⟨g1, by omega⟩
          have sy := s2iff y hy.1 hy.2
          have sx2 := sx.mp (by omega)
          have next : ∀ (b3 : Int) (s5 m5 : Int → Int), (b3 = 0 ∨ b3 = 1) → MI (w * h) mined st s5 m5 → (b3 = 0 → b2 = 0 ∧ s5 = s4 ∧ m5 = m4 ∧ (y ≠ x → st y = 2 → No2 w h sh mined (fM st s1 m1) x y)) → (b3 = 1 → Zf (w * h) (fM st s5 m5) < Zf (w * h) (fM st s1 m1)) → (∀ S, C1 w h sh mined st S → (¬ pp = 0 → C2 w h sh mined st S) → ∀ d, Kf (w * h) st (fM st s5 m5) d → S d) → ∃ k : Nat, k < (w * h - y).toNat ∧ (k = (w * h - (y + 1)).toNat ∧ 0 ≤ y + 1 ∧ y + 1 ≤ w * h ∧ (b3 = 0 ∨ b3 = 1) ∧ MI (w * h) mined st s5 m5 ∧ (b3 = 0 → b' = 0 ∧ s5 = s3 ∧ m5 = m3 ∧ (¬ pp = 0 → st x = 2 → ∀ d, 0 ≤ d → d < y + 1 → d ≠ x → st d = 2 → No2 w h sh mined (fM st s1 m1) x d)) ∧ (b3 = 1 → Zf (w * h) (fM st s5 m5) < Zf (w * h) (fM st s1 m1)) ∧ (∀ S, C1 w h sh mined st S → (¬ pp = 0 → C2 w h sh mined st S) → ∀ d, Kf (w * h) st (fM st s5 m5) d → S d)) := by
            intro b3 s5 m5 k1 k2 k3 k4 k5
            refine ⟨_, ?_, rfl, by omega, by omega, k1, k2, fun e => ?_, k4, k5⟩
            · omega
            · obtain ⟨e1, e2, e3, e4⟩ := k3 e
              obtain ⟨e5, e6, e7, e8⟩ := g5 e1
              refine ⟨e5, by rw [e2, e6], by rw [e3, e7], fun hpp sx3 d h0 h1 => ?_⟩
              by_cases ed : d = y
              · rw [ed]; exact e4
              · exact e8 hpp sx3 d h0 (by omega)
          refine exJ3i ⟨fun z7 _ => nx (by omega) (next b2 s4 m4 g3 g4 (fun e => ⟨e, rfl, rfl, fun y2 => absurd z7 y2⟩) g6 g7), fun z7 => ⟨by omega, fun v3 ev3 rv3 => ⟨fun z8 _ => nx (by omega) (next b2 s4 m4 g3 g4 (fun e => ⟨e, rfl, rfl, fun _ y2 => absurd (by rw [ev3]; exact sy.mpr y2) z8⟩) g6 g7), fun z8 => ?_⟩⟩⟩
          refine s_byTwoM E g4 hx hy (fun y2 => z7 y2.symm) sx2 (sy.mp (by omega)) (fun hn _ => ⟨fun z5 => z5 = b2, ⟨¬ b2 = 0, ⟨fun y => absurd rfl y, fun _ => ⟨fun y => (show (0 : Int) = b2 by omega), fun y => y⟩⟩, fun y => (show (1 : Int) = b2 by omega)⟩, fun z9 _ ez5 _ => nx (by omega) ?_⟩) (fun s5 m5 k1 k2 k3 _ => ⟨fun z5 => z5 = 1, ⟨True, ⟨fun _ => trivial, fun y => absurd y (by omega)⟩, fun _ => rfl⟩, fun z9 _ ez5 _ => nx (by omega) ?_⟩)
          · subst ez5
            refine next z9 s4 m4 g3 g4 (fun e => ⟨e, rfl, rfl, fun _ _ => ?_⟩) g6 g7
            obtain ⟨e5, e6, e7, e8⟩ := g5 e
            obtain ⟨q1, q2, q3, q4⟩ := f3 e5
            obtain ⟨q5, q6, q7⟩ := d5 q1
            rw [e6, e7, q2, q3, q5, q6] at hn
            exact hn
          · subst ez5
            refine next 1 s5 m5 (Or.inr rfl) k1 (fun e => absurd e (by omega)) (fun _ => ?_) (fun S s1' s2' => k3 S (s2' z5) (g7 S s1' s2'))
            rcases g3 with e | e
            · obtain ⟨e5, e6, e7, e8⟩ := g5 e
              obtain ⟨q1, q2, q3, q4⟩ := f3 e5
              obtain ⟨q5, q6, q7⟩ := d5 q1
              rw [e6, e7, q2, q3, q5, q6] at k2
              exact k2
            · have := g6 e; omega
        · omega
        · obtain ⟨e5, e6, e7, e8⟩ := g5 e
          obtain ⟨q1, q2, q3, q4⟩ := f3 e5
          obtain ⟨q5, q6, q7⟩ := d5 q1
          refine ⟨by rw [e6, q2, q5], by rw [e7, q3, q6], fun c h0 h1 hs => ?_⟩
          by_cases ec : c = x
          · rw [ec] at hs ⊢
            exact ⟨q4 hs, fun hpp => hJ e hpp hs⟩
          · exact q7 c h0 (by omega) hs
  · omega
  · rw [es, em2]
    by_cases ec : c = x
    · rw [ec, upZ_s, upZ_s]; exact ⟨rfl, rfl⟩
    · rw [upZ_n _ _ ec, upZ_n _ _ ec]; exact b3 c h0 (by omega)
