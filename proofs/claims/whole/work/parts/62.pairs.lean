/-! pairs of numbers -/
noncomputable def inN (w h sh d c : Int) : Int := iB (c ∈ NB w h sh d)
/-- how many open ends of a are next to c -/
noncomputable def Cm (w h sh : Int) (f : Int → Int) (a c : Int) : Int := sumL (NB w h sh a) (fun d => iK 0 (f d) * inN w h sh d c)
noncomputable def cmV (w h sh : Int) (st : Int → Int) (a c x : Int) : Int := @ite _ (st c = 2 ∧ c ≠ a) (Classical.propDecidable _) x 0
theorem cmV_t {w h sh a c x : Int} {st : Int → Int} (q : st c = 2 ∧ c ≠ a) : cmV w h sh st a c x = x := by unfold cmV; exact if_pos q
theorem cmV_f {w h sh a c x : Int} {st : Int → Int} (q : ¬ (st c = 2 ∧ c ≠ a)) : cmV w h sh st a c x = 0 := by unfold cmV; exact if_neg q
def MT (n : Int) (st : Int → Int) (mc : Int) (met com : Int → Int) : Prop := (∀ c, 0 ≤ c → c < n → 0 ≤ com c) ∧ WT n st mc met (fun c => iB (0 < com c))
theorem mulI {a : Int} {p : Prop} (ha : 0 ≤ a ∧ a ≤ 1) : 0 ≤ a * iB p ∧ a * iB p ≤ 1 := by
  by_cases h : p
  · rw [iB_t h]; omega
  · rw [iB_f h]; omega
theorem Cmt_b {w h sh a c : Int} {f : Int → Int} {k : Nat} (ok : okB w h sh) (ha : 0 ≤ a ∧ a < w * h) : 0 ≤ sumL ((NB w h sh a).take k) (fun d => iK 0 (f d) * inN w h sh d c) ∧ sumL ((NB w h sh a).take k) (fun d => iK 0 (f d) * inN w h sh d c) ≤ 8 := take_b ok ha (fun x _ => mulI (iK_b _ _))
theorem exJ2' {α β : Type} {p : α → β → Prop} {A : (α → β → Prop) → Prop} (h : A p) : ∃ J : α → β → Prop, A J ∧ ∀ (x : α) (y : β), J x y → p x y := ⟨p, h, fun _ _ k => k⟩
theorem s_meet {w h sh a d mc : Int} {st com met near nearEnd : Int → Int} {post : Int → (Int → Int) → (Int → Int) → Prop} (ok : okB w h sh) (g : GeoD w h sh near nearEnd) (hd : 0 ≤ d ∧ d < w * h) (t : MT (w * h) st mc met com) (hb : ∀ c, 0 ≤ c → c < w * h → com c ≤ 8)
    (hp : ∀ (mc' : Int) (com' met' : Int → Int), MT (w * h) st mc' met' com' → (∀ c, 0 ≤ c → c < w * h → com' c = com c + cmV w h sh st a c (inN w h sh d c)) → post mc' com' met') : P_X7_meetNumbersAround post mc st near nearEnd com met d a := by
  have hle := wh_le ok
  have hge := wh_ge ok
  have hl := NB_len ok hd
  have ge := (g d hd.1 hd.2).1
  unfold P_X7_meetNumbersAround
  refine ⟨by omega, fun x3 ex3 => ⟨fun n x mc' com' met' => n = (nearEnd d - x).toNat ∧ 8 * d ≤ x ∧ x ≤ nearEnd d ∧ MT (w * h) st mc' met' com' ∧ (∀ c, 0 ≤ c → c < w * h → com' c = com c + cmV w h sh st a c (iB (c ∈ (NB w h sh d).take (x - 8 * d).toNat))), ⟨_, rfl, by omega, by omega, t, fun c _ _ => ?_⟩, ?_⟩⟩
  · rw [iB_f]
    · unfold cmV; split <;> omega
    · rw [ex3, show (d * 8 - 8 * d).toNat = 0 by omega]; simp
  rintro n x mc' com' met' rx ⟨rfl, b1, b2, b3, b4⟩
  refine ⟨by omega, fun v1 ev1 rv1 => ⟨fun q => ?_, fun q => ?_⟩⟩
  · rw [row_end g hd (by omega)] at b4
    exact hp mc' com' met' b3 b4
  · obtain ⟨m, tk, nm⟩ := row_at g hd b1 (by omega)
    have mc0 := nb_cell m
    have u1 := b4 _ mc0.1 mc0.2
    have hb1 := hb _ mc0.1 mc0.2
    have hp1 := t.1 _ mc0.1 mc0.2
    rw [iB_f nm] at u1
    have cz : cmV w h sh st a (near x) 0 = 0 := by unfold cmV; split <;> rfl
    rw [cz] at u1
    have tin : ∀ c, c ≠ near x → iB (c ∈ (NB w h sh d).take (x + 1 - 8 * d).toNat) = iB (c ∈ (NB w h sh d).take (x - 8 * d).toNat) := by
      intro c hc
      refine iB_iff ?_
      rw [show (x + 1 - 8 * d).toNat = (x - 8 * d).toNat + 1 by omega, tk]
      exact ⟨fun z => (List.mem_append.mp z).elim id (fun z => absurd (List.mem_singleton.mp z) hc), fun z => List.mem_append_left _ z⟩
    have tx : iB (near x ∈ (NB w h sh d).take (x + 1 - 8 * d).toNat) = 1 := iB_t (by
      rw [show (x + 1 - 8 * d).toNat = (x - 8 * d).toNat + 1 by omega, tk]
      exact List.mem_append_right _ (List.mem_singleton.mpr rfl))
    have same : ¬ (st (near x) = 2 ∧ near x ≠ a) → ∃ m : Nat, m < (nearEnd d - x).toNat ∧ (m = (nearEnd d - (x + 1)).toNat ∧ 8 * d ≤ x + 1 ∧ x + 1 ≤ nearEnd d ∧ MT (w * h) st mc' met' com' ∧ (∀ c, 0 ≤ c → c < w * h → com' c = com c + cmV w h sh st a c (iB (c ∈ (NB w h sh d).take (x + 1 - 8 * d).toNat)))) := by
      intro hn
      refine ⟨_, ?_, rfl, by omega, by omega, b3, fun c h0 h1 => ?_⟩
      · omega
      · by_cases ec : c = near x
        · rw [ec, u1, cmV_f hn]
        · rw [tin c ec]; exact b4 c h0 h1
    refine ⟨by omega, fun v2 ev2 rv2 => ?_⟩
    subst ev2
    refine exJ3 ⟨fun z => nx (by omega) (same (fun y => y.2 z)), fun z => ⟨by omega, fun v3 ev3 rv3 => ⟨fun z2 => ⟨by omega, fun v4 ev4 rv4 => ?_⟩, fun z2 => nx (by omega) (same (fun y => z2 (by rw [ev3]; exact y.1)))⟩⟩⟩
    have s2 : st (near x) = 2 := by omega
    have comm : ∀ (mc2 : Int) (met2 com2 : Int → Int), com2 = upZ com' (near x) (com' (near x) + 1) → MT (w * h) st mc2 met2 com2 → ∃ m : Nat, m < (nearEnd d - x).toNat ∧ (m = (nearEnd d - (x + 1)).toNat ∧ 8 * d ≤ x + 1 ∧ x + 1 ≤ nearEnd d ∧ MT (w * h) st mc2 met2 com2 ∧ (∀ c, 0 ≤ c → c < w * h → com2 c = com c + cmV w h sh st a c (iB (c ∈ (NB w h sh d).take (x + 1 - 8 * d).toNat)))) := by
      intro mc2 met2 com2 e2 k1
      refine ⟨_, ?_, rfl, by omega, by omega, k1, fun c h0 h1 => ?_⟩
      · omega
      · by_cases ec : c = near x
        · rw [ec, e2, upZ_s, u1, cmV_t ⟨s2, z⟩, tx]; omega
        · rw [e2, upZ_n _ _ ec, tin c ec]; exact b4 c h0 h1
    have pos : ∀ c, 0 ≤ c → c < w * h → 0 ≤ upZ com' (near x) (com' (near x) + 1) c := by
      intro c h0 h1
      by_cases ec : c = near x
      · rw [ec, upZ_s]; omega
      · rw [upZ_n _ _ ec]; exact b3.1 c h0 h1
    by_cases c0 : com' (near x) = 0
    · have fe : (fun c => iB (0 < upZ com' (near x) (com' (near x) + 1) c)) = upZ (fun c => iB (0 < com' c)) (near x) 1 := by
        funext c
        by_cases ec : c = near x
        · rw [ec, upZ_s, upZ_s, iB_t (by omega)]
        · rw [upZ_n _ _ ec, upZ_n _ _ ec]
      have wz : iB (0 < com' (near x)) = 0 := iB_f (by omega)
      have lt := b3.2.lt (by omega) mc0 wz
      have m0 := b3.2.1
      refine exJ2' ⟨fun z3 => absurd (by omega) z3, fun z3 => ⟨fun z4 => absurd z4 (by omega), fun z4 => ⟨by omega, fun met2 em2 => ⟨by omega, fun mc2 ec2 => ⟨by omega, fun v5 ev5 rv5 => ⟨by omega, by omega, fun com2 eco => nx (by omega) (comm mc2 met2 com2 (by rw [eco, ev5]) ⟨?_, ?_⟩)⟩⟩⟩⟩⟩⟩
      · rw [eco, ev5]; exact pos
      · rw [eco, ev5, fe, em2, ec2]; exact b3.2.push mc0 wz s2
    · have p1 := b3.1 _ mc0.1 mc0.2
      have fe : (fun c => iB (0 < upZ com' (near x) (com' (near x) + 1) c)) = (fun c => iB (0 < com' c)) := by
        funext c
        by_cases ec : c = near x
        · rw [ec, upZ_s]; exact iB_iff ⟨fun _ => by omega, fun _ => by omega⟩
        · rw [upZ_n _ _ ec]
      refine exJ2' ⟨fun z3 => ⟨by omega, fun v5 ev5 rv5 => ⟨by omega, by omega, fun com2 eco => nx (by omega) (comm mc' met' com2 (by rw [eco, ev5]) ⟨?_, ?_⟩)⟩⟩, fun z3 => absurd (by omega) c0⟩
      · rw [eco, ev5]; exact pos
      · rw [eco, ev5, fe]; exact b3.2
theorem cmV_add {w h sh a c x y : Int} {st : Int → Int} : cmV w h sh st a c x + cmV w h sh st a c y = cmV w h sh st a c (x + y) := by
  by_cases q : st c = 2 ∧ c ≠ a
  · rw [cmV_t q, cmV_t q, cmV_t q]
  · rw [cmV_f q, cmV_f q, cmV_f q]; rfl
theorem s_countCommon {w h sh a mc : Int} {mined st f com met near nearEnd : Int → Int} {post : Int → (Int → Int) → (Int → Int) → Prop} (ok : okB w h sh) (g : GeoD w h sh near nearEnd) (ha : 0 ≤ a ∧ a < w * h) (hz : ∀ c, 0 ≤ c → c < w * h → com c = 0)
    (hp : ∀ (mc' : Int) (com' met' : Int → Int), MT (w * h) st mc' met' com' → (∀ c, 0 ≤ c → c < w * h → com' c = cmV w h sh st a c (Cm w h sh f a c)) → post mc' com' met') : P_X7_countCommonEnds post mc st near nearEnd f com met a := by
  have hle := wh_le ok
  have hge := wh_ge ok
  have hl := NB_len ok ha
  have ge := (g a ha.1 ha.2).1
  have m0 : MT (w * h) st 0 met com := by
    have z : ∀ c, 0 ≤ c → c < w * h → iB (0 < com c) = 0 := fun c h0 h1 => iB_f (by rw [hz c h0 h1]; omega)
    refine ⟨fun c h0 h1 => by rw [hz c h0 h1]; omega, by omega, ?_, fun c h0 h1 => Or.inl (z c h0 h1), fun j h0 h1 => by omega, fun i j h0 h1 h2 => by omega, fun c h0 h1 e => ?_⟩
    · rw [sumL_const (k := 0)]
      · omega
      · intro x hx
        have := mem_cells.mp hx
        show iK 1 (iB (0 < com x)) = 0
        rw [z x this.1 this.2]; rfl
    · have e : iB (0 < com c) = 1 := e
      have := z c h0 h1
      omega
  unfold P_X7_countCommonEnds
  refine ⟨by omega, fun x2 ex2 => ⟨fun n x mc' com' met' => n = (nearEnd a - x).toNat ∧ 8 * a ≤ x ∧ x ≤ nearEnd a ∧ MT (w * h) st mc' met' com' ∧ (∀ c, 0 ≤ c → c < w * h → com' c = cmV w h sh st a c (sumL ((NB w h sh a).take (x - 8 * a).toNat) (fun d => iK 0 (f d) * inN w h sh d c))), ⟨_, rfl, by omega, by omega, m0, fun c h0 h1 => ?_⟩, ?_⟩⟩
  · rw [hz c h0 h1, ex2, show (a * 8 - 8 * a).toNat = 0 by omega, List.take_zero, sumL_nil]
    unfold cmV; split <;> rfl
  rintro n x mc' com' met' rx ⟨rfl, b1, b2, b3, b4⟩
  refine ⟨by omega, fun v1 ev1 rv1 => ⟨fun q => ?_, fun q => ?_⟩⟩
  · rw [row_end g ha (by omega)] at b4
    exact hp mc' com' met' b3 b4
  · obtain ⟨m, tk, nm⟩ := row_at g ha b1 (by omega)
    have mc0 := nb_cell m
    refine ⟨by omega, fun v2 ev2 rv2 => ?_⟩
    subst ev2
    refine ⟨by omega, fun v3 ev3 rv3 => exJ3 ⟨fun z => nx (by omega) ⟨_, ?_, rfl, by omega, by omega, b3, fun c h0 h1 => ?_⟩, fun z => ⟨by omega, fun v4 ev4 rv4 => ?_⟩⟩⟩
    · omega
    · rw [b4 c h0 h1, show (x + 1 - 8 * a).toNat = (x - 8 * a).toNat + 1 by omega, tk, sumL_snoc, iK0_f (by rw [← ev3]; exact z)]
      congr 1
      omega
    · subst ev4
      refine s_meet ok g mc0 b3 (fun c h0 h1 => ?_) (fun mc2 com2 met2 k1 k2 => nx (by omega) ⟨_, ?_, rfl, by omega, by omega, k1, fun c h0 h1 => ?_⟩)
      · rw [b4 c h0 h1]
        have := Cmt_b (k := (x - 8 * a).toNat) (f := f) (c := c) ok ha
        unfold cmV
        split <;> omega
      · omega
      · rw [k2 c h0 h1, b4 c h0 h1, cmV_add, show (x + 1 - 8 * a).toNat = (x - 8 * a).toNat + 1 by omega, tk, sumL_snoc, iK0_t (by rw [← ev3]; exact z)]
        congr 1
        omega
/-- all open ends of a are next to b -/
theorem Cm_all {w h sh a b : Int} {f : Int → Int} (ok : okB w h sh) (ha : 0 ≤ a ∧ a < w * h) (hb : 0 ≤ b ∧ b < w * h) : Cm w h sh f a b = En w h sh f a ↔ ∀ d ∈ NB w h sh a, f d = 0 → d ∈ NB w h sh b := by
  have e : En w h sh f a = Cm w h sh f a b + sumL (NB w h sh a) (fun d => iK 0 (f d) - iK 0 (f d) * inN w h sh d b) := sumL_add (fun x _ => by omega)
  have pos : ∀ x ∈ NB w h sh a, 0 ≤ iK 0 (f x) - iK 0 (f x) * inN w h sh x b := by
    intro x _
    have := iK_b 0 (f x)
    unfold inN
    by_cases q : b ∈ NB w h sh x
    · rw [iB_t q]; omega
    · rw [iB_f q]; omega
  constructor
  · intro q d hd ef
    have z := sumL_zero pos (by omega) d hd
    have dc := nb_cell hd
    refine (NB_sym ok hb dc).mpr (Classical.byContradiction (fun y => ?_))
    simp only [iK0_t ef, inN, iB_f y] at z
    omega
  · intro q
    have : sumL (NB w h sh a) (fun d => iK 0 (f d) - iK 0 (f d) * inN w h sh d b) = 0 := by
      rw [sumL_const (k := 0)]
      · omega
      · intro x hx
        by_cases ef : f x = 0
        · have xc := nb_cell hx
          unfold inN
          rw [iB_t ((NB_sym ok hb xc).mp (q x hx ef))]; omega
        · rw [iK0_f ef]; omega
    omega
/-- the same sum over two rows that share what counts -/
theorem sumL_two {l m : List Int} {f : Int → Int} (hl : l.Nodup) (hm : m.Nodup) (h1 : ∀ x ∈ l, ¬ x ∈ m → f x = 0) : sumL m f = sumL l f + sumL m (fun x => iB (¬ x ∈ l) * f x) := by
  have e1 : sumL m f = sumL m (fun x => iB (x ∈ l) * f x) + sumL m (fun x => iB (¬ x ∈ l) * f x) := sumL_add (fun x _ => by
    by_cases q : x ∈ l
    · rw [iB_t q, iB_f (fun z => z q)]; omega
    · rw [iB_f q, iB_t q]; omega)
  have key : ∀ l : List Int, l.Nodup → (∀ x ∈ l, ¬ x ∈ m → f x = 0) → sumL m (fun x => iB (x ∈ l) * f x) = sumL l f := by
    intro l
    induction l with
    | nil =>
      intro _ _
      rw [sumL_nil, sumL_const (k := 0)]
      · omega
      · intro x _; rw [iB_f (by simp)]; omega
    | cons a l ih =>
      intro hn hz
      have hn' := List.nodup_cons.mp hn
      rw [sumL_cons, ← ih hn'.2 (fun x hx => hz x (List.mem_cons_of_mem _ hx))]
      have := sumL_change (f := fun x => iB (x ∈ l) * f x) (g := fun x => iB (x ∈ a :: l) * f x) (x := a) hm (fun y _ e => by
        show iB (y ∈ a :: l) * f y = iB (y ∈ l) * f y
        rw [iB_iff (show y ∈ a :: l ↔ y ∈ l from ⟨fun z => (List.mem_cons.mp z).elim (fun z => absurd z e) id, List.mem_cons_of_mem _⟩)])
      rw [this]
      by_cases q : a ∈ m
      · rw [if_pos q, iB_t List.mem_cons_self, iB_f hn'.1]; omega
      · rw [if_neg q, hz a List.mem_cons_self q]; omega
  rw [e1, key l hl h1]
theorem pair_sums {w h sh a b : Int} {mined f : Int → Int} (hs : ∀ d ∈ NB w h sh a, f d = 0 → d ∈ NB w h sh b) :
    En w h sh f b = En w h sh f a + sumL (NB w h sh b) (fun d => iB (¬ d ∈ NB w h sh a) * iK 0 (f d)) ∧ Nd w h sh mined f b = Nd w h sh mined f a + sumL (NB w h sh b) (fun d => iB (¬ d ∈ NB w h sh a) * (iK 0 (f d) * mined d)) := by
  have na := pw_nodup (NB_pw (w := w) (h := h) (sh := sh) (a := a))
  have nb := pw_nodup (NB_pw (w := w) (h := h) (sh := sh) (a := b))
  exact ⟨sumL_two na nb (fun x hx hn => iK0_f (fun e => hn (hs x hx e))), sumL_two na nb (fun x hx hn => by rw [iK0_f (fun e => hn (hs x hx e))]; omega)⟩
theorem oth_zero {w h sh a b : Int} {mined f : Int → Int} (hm : ∀ c, 0 ≤ c → c < w * h → mined c = 0 ∨ mined c = 1) : sumL (NB w h sh b) (fun d => iB (¬ d ∈ NB w h sh a) * (iK 0 (f d) * mined d)) = 0 ↔ ∀ d ∈ NB w h sh b, f d = 0 → ¬ d ∈ NB w h sh a → mined d = 0 := by
  have pos : ∀ x ∈ NB w h sh b, 0 ≤ iB (¬ x ∈ NB w h sh a) * (iK 0 (f x) * mined x) := by
    intro x hx
    have xc := nb_cell hx
    have := (mul01 (iK_b 0 (f x)) (hm x xc.1 xc.2)).1
    by_cases q : x ∈ NB w h sh a
    · rw [iB_f (fun z => z q)]; omega
    · rw [iB_t q]; omega
  constructor
  · intro q d hd e hn
    have z := sumL_zero pos q d hd
    simp only [iB_t hn, iK0_t e] at z
    omega
  · intro q
    rw [sumL_const (k := 0)]
    · omega
    · intro x hx
      by_cases hn : x ∈ NB w h sh a
      · rw [iB_f (fun z => z hn)]; omega
      · by_cases e : f x = 0
        · rw [q x hx e hn]; omega
        · rw [iK0_f e]; omega
theorem oth_full {w h sh a b : Int} {mined f : Int → Int} (hm : ∀ c, 0 ≤ c → c < w * h → mined c = 0 ∨ mined c = 1) : sumL (NB w h sh b) (fun d => iB (¬ d ∈ NB w h sh a) * (iK 0 (f d) * mined d)) = sumL (NB w h sh b) (fun d => iB (¬ d ∈ NB w h sh a) * iK 0 (f d)) ↔ ∀ d ∈ NB w h sh b, f d = 0 → ¬ d ∈ NB w h sh a → mined d = 1 := by
  have e : sumL (NB w h sh b) (fun d => iB (¬ d ∈ NB w h sh a) * iK 0 (f d)) = sumL (NB w h sh b) (fun d => iB (¬ d ∈ NB w h sh a) * (iK 0 (f d) * mined d)) + sumL (NB w h sh b) (fun d => iB (¬ d ∈ NB w h sh a) * iK 0 (f d) - iB (¬ d ∈ NB w h sh a) * (iK 0 (f d) * mined d)) := sumL_add (fun x _ => by omega)
  have pos : ∀ x ∈ NB w h sh b, 0 ≤ iB (¬ x ∈ NB w h sh a) * iK 0 (f x) - iB (¬ x ∈ NB w h sh a) * (iK 0 (f x) * mined x) := by
    intro x hx
    have xc := nb_cell hx
    have := (mul01 (iK_b 0 (f x)) (hm x xc.1 xc.2)).2
    by_cases q : x ∈ NB w h sh a
    · rw [iB_f (fun z => z q)]; omega
    · rw [iB_t q]; omega
  constructor
  · intro q d hd ef hn
    have z := sumL_zero pos (by omega) d hd
    simp only [iB_t hn, iK0_t ef] at z
    omega
  · intro q
    refine sumL_congr (fun x hx => ?_)
    by_cases hn : x ∈ NB w h sh a
    · rw [iB_f (fun z => z hn)]; omega
    · by_cases e : f x = 0
      · rw [q x hx e hn, Int.mul_one]
      · rw [iK0_f e]; omega
theorem oth_any {w h sh a b : Int} {f : Int → Int} : 0 < sumL (NB w h sh b) (fun d => iB (¬ d ∈ NB w h sh a) * iK 0 (f d)) ↔ ∃ d ∈ NB w h sh b, f d = 0 ∧ ¬ d ∈ NB w h sh a := by
  have pos : ∀ x ∈ NB w h sh b, 0 ≤ iB (¬ x ∈ NB w h sh a) * iK 0 (f x) := by
    intro x hx
    have := iK_b 0 (f x)
    by_cases q : x ∈ NB w h sh a
    · rw [iB_f (fun z => z q)]; omega
    · rw [iB_t q]; omega
  have p := sumL_pos pos
  constructor
  · intro q
    refine Classical.byContradiction (fun y => ?_)
    have : sumL (NB w h sh b) (fun d => iB (¬ d ∈ NB w h sh a) * iK 0 (f d)) = 0 := by
      rw [sumL_const (k := 0)]
      · omega
      · intro x hx
        by_cases hn : x ∈ NB w h sh a
        · rw [iB_f (fun z => z hn)]; omega
        · rw [iK0_f (fun e => y ⟨x, hx, e, hn⟩)]; omega
    omega
  · rintro ⟨d, hd, e, hn⟩
    refine Classical.byContradiction (fun y => ?_)
    have z := sumL_zero pos (by omega) d hd
    simp only [iB_t hn, iK0_t e] at z
    omega
