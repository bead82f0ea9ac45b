/-! what one number tells beyond another -/
def No2 (w h sh : Int) (mined f : Int → Int) (a b : Int) : Prop := ¬ ((∀ d ∈ NB w h sh a, f d = 0 → d ∈ NB w h sh b) ∧ (∃ v, ∀ d ∈ NB w h sh b, f d = 0 → ¬ d ∈ NB w h sh a → mined d = v) ∧ ∃ d ∈ NB w h sh b, f d = 0 ∧ ¬ d ∈ NB w h sh a)
theorem Stl.move {w h sh : Int} {mined st f f' ws ws' : Int → Int} (s : Stl w h sh mined st f ws) (k : ∀ c, 0 ≤ c → c < w * h → st c = 2 → ws' c = 0 → ws c = 0 ∧ ∀ d ∈ NB w h sh c, f' d = f d) : Stl w h sh mined st f' ws' := by
  intro c h0 h1 hs hw ⟨v, hv⟩ d hd
  obtain ⟨q1, q2⟩ := k c h0 h1 hs hw
  rw [q2 d hd]
  exact s c h0 h1 hs q1 ⟨v, fun d hd e => hv d hd (by rw [q2 d hd]; exact e)⟩ d hd
theorem s_compare {w h sh a b wc oth : Int} {mined st f oe nd wt ws near nearEnd : Int → Int} {post : Int → Int → (Int → Int) → (Int → Int) → (Int → Int) → (Int → Int) → (Int → Int) → Prop} (ok : okB w h sh) (g : GeoD w h sh near nearEnd) (hm : ∀ c, 0 ≤ c → c < w * h → mined c = 0 ∨ mined c = 1) (o : FO w h sh mined st f oe nd) (t : WT (w * h) st wc wt ws) (s : Stl w h sh mined st f ws) (ha : 0 ≤ a ∧ a < w * h) (hb : 0 ≤ b ∧ b < w * h) (hab : a ≠ b) (sa : st a = 2) (sb : st b = 2) (hs : ∀ d ∈ NB w h sh a, f d = 0 → d ∈ NB w h sh b) (ho : oth = oe b - oe a) (hpos : 0 < oth)
    (h0 : No2 w h sh mined f a b → post 0 wc f oe nd wt ws)
    (h1 : ∀ (wc' : Int) (f' oe' nd' wt' ws' : Int → Int), FO w h sh mined st f' oe' nd' → WT (w * h) st wc' wt' ws' → Stl w h sh mined st f' ws' → Zf (w * h) f' < Zf (w * h) f → (∀ S, C1 w h sh mined st S → C2 w h sh mined st S → (∀ d, Kf (w * h) st f d → S d) → ∀ d, Kf (w * h) st f' d → S d) → post 1 wc' f' oe' nd' wt' ws') : P_X7_compare post wc st near nearEnd f oe nd wt ws a b oth := by
  have hle := wh_le ok
  have ps := pair_sums (mined := mined) hs
  have oa := o.2 a ha.1 ha.2
  have ob := o.2 b hb.1 hb.2
  have ba := Nd_b (f := f) ok hm ha
  have bb := Nd_b (f := f) ok hm hb
  have ea := En_b (f := f) ok ha
  have eb := En_b (f := f) ok hb
  have oz := oth_zero (a := a) (b := b) (f := f) (sh := sh) hm
  have of := oth_full (a := a) (b := b) (f := f) (sh := sh) hm
  have oy := oth_any (w := w) (h := h) (sh := sh) (a := a) (b := b) (f := f)
  obtain ⟨y, hy, fy, ny⟩ := oy.mp (by omega)
  have yc := nb_cell hy
  unfold P_X7_compare
  refine ⟨by omega, fun v2 ev2 rv2 => ⟨by omega, fun v4 ev4 rv4 => ⟨by omega, fun x4 ex4 => ?_⟩⟩⟩
  have go : ∀ z : Int, (z = 1 ∨ z = 2) → (∀ d, Mk w h sh f b a d → z = 1 + mined d) → P_X7_markEnds (fun wc' f' oe' nd' wt' ws' => post 1 wc' f' oe' nd' wt' ws') wc st near nearEnd f oe nd wt ws b a z := by
    intro z hz hv
    refine s_markEnds ok g hm o t hb (Or.inr ha) hv hz (fun wc' f' oe' nd' wt' ws' k1 k2 k3 k4 k5 k6 k7 k8 => ?_)
    refine h1 wc' f' oe' nd' wt' ws' k1 k2 (s.move k6) (k8 ⟨y, hy, fy, Or.inr ny⟩) (fun S hS1 hS2 hK d hd => ?_)
    by_cases mk : Mk w h sh f b a d
    · rcases mk.2.2 with q | q
      · exact absurd q (by omega)
      · refine hS2 a b ha hb hab sa sb (fun x hx hu hns => ?_) ⟨z - 1, fun x hx hu hns hna => ?_⟩ d mk.1 hd.2.1 q
        · have xc := nb_cell hx
          by_cases fx : f x = 0
          · exact hs x hx fx
          · exact absurd (hK x ⟨xc, hu, fx⟩) hns
        · have xc := nb_cell hx
          by_cases fx : f x = 0
          · have := hv x ⟨hx, fx, Or.inr hna⟩; omega
          · exact absurd (hK x ⟨xc, hu, fx⟩) hns
    · exact hK d ⟨hd.1, hd.2.1, by rw [← k5 d mk]; exact hd.2.2⟩
  refine ⟨x4 = 0 ∨ x4 = oth, ⟨fun z => Or.inl z, fun z => ⟨fun z2 => Or.inr z2, fun z2 => h0 ?_⟩⟩, fun hJ => ⟨fun z => (z = 1 ∧ x4 = 0) ∨ (z = 2 ∧ x4 = oth), ⟨fun z => Or.inr ⟨rfl, by omega⟩, fun z => Or.inl ⟨rfl, z⟩⟩, fun z _ hz => ?_⟩⟩
  · rintro ⟨-, ⟨v, hv⟩, -⟩
    have my := hm y yc.1 yc.2
    have e := hv y hy fy ny
    rcases my with my | my
    · have := oz.mpr (fun d hd fd nd => by rw [hv d hd fd nd]; omega)
      omega
    · have := of.mpr (fun d hd fd nd => by rw [hv d hd fd nd]; omega)
      omega
  · rcases hz with ⟨e, hx⟩ | ⟨e, hx⟩
    · refine go z (Or.inl e) (fun d hd => ?_)
      rcases hd.2.2 with q | q
      · exact absurd q (by omega)
      · have := oz.mp (by omega) d hd.1 hd.2.1 q; omega
    · refine go z (Or.inr e) (fun d hd => ?_)
      rcases hd.2.2 with q | q
      · exact absurd q (by omega)
      · have := of.mp (by omega) d hd.1 hd.2.1 q; omega
theorem exJ7i {β γ δ ε ζ η : Type} {p : Int → β → γ → δ → ε → ζ → η → Prop} {A : (Int → β → γ → δ → ε → ζ → η → Prop) → Prop} (h : A (fun a b c d e f g => inR a → p a b c d e f g)) : ∃ J : Int → β → γ → δ → ε → ζ → η → Prop, A J ∧ ∀ (a : Int) (b : β) (c : γ) (d : δ) (e : ε) (f : ζ) (g : η), inR a → J a b c d e f g → p a b c d e f g := ⟨_, h, fun _ _ _ _ _ _ _ r k => k r⟩
theorem s_findBeyond {w h sh a wc mc : Int} {mined st f oe nd wt ws com met near nearEnd : Int → Int} {post : Int → Int → Int → (Int → Int) → (Int → Int) → (Int → Int) → (Int → Int) → (Int → Int) → (Int → Int) → (Int → Int) → Prop} (ok : okB w h sh) (g : GeoD w h sh near nearEnd) (hm : ∀ c, 0 ≤ c → c < w * h → mined c = 0 ∨ mined c = 1) (o : FO w h sh mined st f oe nd) (t : WT (w * h) st wc wt ws) (s : Stl w h sh mined st f ws) (ha : 0 ≤ a ∧ a < w * h) (sa : st a = 2) (hea : 0 < En w h sh f a) (hz : ∀ c, 0 ≤ c → c < w * h → com c = 0)
    (h0 : ∀ (mc' : Int) (com' met' : Int → Int), (∀ c, 0 ≤ c → c < w * h → com' c = 0) → (∀ b, 0 ≤ b → b < w * h → st b = 2 → b ≠ a → No2 w h sh mined f a b) → post 0 wc mc' f oe nd wt ws com' met')
    (h1 : ∀ (wc' mc' : Int) (f' oe' nd' wt' ws' com' met' : Int → Int), (∀ c, 0 ≤ c → c < w * h → com' c = 0) → FO w h sh mined st f' oe' nd' → WT (w * h) st wc' wt' ws' → Stl w h sh mined st f' ws' → Zf (w * h) f' < Zf (w * h) f → (∀ S, C1 w h sh mined st S → C2 w h sh mined st S → (∀ d, Kf (w * h) st f d → S d) → ∀ d, Kf (w * h) st f' d → S d) → post 1 wc' mc' f' oe' nd' wt' ws' com' met') : P_X7_findBeyond post wc mc st near nearEnd f oe nd wt ws com met a := by
  have hle := wh_le ok
  have hge := wh_ge ok
  unfold P_X7_findBeyond
  refine s_countCommon (mined := mined) ok g ha hz (fun mc1 com1 met1 m1 m2 => ?_)
  have mle := m1.2.le (by omega)
  have mpos := m1.2.1
  have mt : ∀ j, 0 ≤ j → j < mc1 → (0 ≤ met1 j ∧ met1 j < w * h) ∧ st (met1 j) = 2 ∧ met1 j ≠ a ∧ com1 (met1 j) = Cm w h sh f a (met1 j) := by
    intro j j0 j1
    obtain ⟨p1, p2, p3⟩ := m1.2.2.2.2.1 j j0 j1
    have p4 : 0 < com1 (met1 j) := Classical.byContradiction (fun y => by have p3 : iB (0 < com1 (met1 j)) = 1 := p3; rw [iB_f y] at p3; omega)
    have e := m2 _ p1.1 p1.2
    by_cases q : st (met1 j) = 2 ∧ met1 j ≠ a
    · rw [cmV_t q] at e; exact ⟨p1, q.1, q.2, e⟩
    · rw [cmV_f q] at e; omega
  refine ⟨fun n b x wc' f' oe' nd' wt' ws' com' => n = (mc1 - x).toNat ∧ 0 ≤ x ∧ x ≤ mc1 ∧ (b = 0 ∨ b = 1) ∧ (∀ j, 0 ≤ j → j < x → com' (met1 j) = 0) ∧ (∀ c, (∀ j, 0 ≤ j → j < x → met1 j ≠ c) → com' c = com1 c) ∧ (b = 0 → wc' = wc ∧ f' = f ∧ oe' = oe ∧ nd' = nd ∧ wt' = wt ∧ ws' = ws ∧ ∀ j, 0 ≤ j → j < x → No2 w h sh mined f a (met1 j)) ∧ (FO w h sh mined st f' oe' nd' ∧ WT (w * h) st wc' wt' ws' ∧ Stl w h sh mined st f' ws') ∧ (b = 1 → Zf (w * h) f' < Zf (w * h) f ∧ (∀ S, C1 w h sh mined st S → C2 w h sh mined st S → (∀ d, Kf (w * h) st f d → S d) → ∀ d, Kf (w * h) st f' d → S d)), ⟨_, rfl, by omega, by omega, Or.inl rfl, fun j _ _ => by omega, fun _ _ => rfl, fun _ => ⟨rfl, rfl, rfl, rfl, rfl, rfl, fun j _ _ => by omega⟩, ⟨o, t, s⟩, fun y => absurd y (by omega)⟩, ?_⟩
  rintro n b x wc' f' oe' nd' wt' ws' com' rb rx ⟨rfl, b1, b2, b3, b4, b5, b6, b7, b8⟩
  refine ⟨fun q => ⟨b3, ?_⟩, fun q => ?_⟩
  · have ex : x = mc1 := by omega
    subst ex
    have cz : ∀ c, 0 ≤ c → c < w * h → com' c = 0 := by
      intro c h0 h1
      by_cases q2 : ∃ j, 0 ≤ j ∧ j < x ∧ met1 j = c
      · obtain ⟨j, j0, j1, j2⟩ := q2
        rw [← j2]; exact b4 j j0 j1
      · rw [b5 c (fun j j0 j1 j2 => q2 ⟨j, j0, j1, j2⟩)]
        by_cases p : 0 < com1 c
        · exact absurd (m1.2.2.2.2.2.2 c h0 h1 (iB_t p)) q2
        · have := m1.1 c h0 h1; omega
    rcases b3 with e | e
    · subst e
      obtain ⟨e1, e2, e3, e4, e5, e6, e7⟩ := b6 rfl
      subst e1 e2 e3 e4 e5 e6
      refine h0 x com' met1 cz (fun b hb0 hb1 sb hba hh => ?_)
      have cm := (Cm_all (f := f') ok ha ⟨hb0, hb1⟩).mpr hh.1
      have e := m2 b hb0 hb1
      rw [cmV_t ⟨sb, hba⟩] at e
      obtain ⟨j, j0, j1, j2⟩ := m1.2.2.2.2.2.2 b hb0 hb1 (iB_t (by omega))
      refine e7 j j0 j1 ?_
      rw [j2]; exact hh
    · subst e
      exact h1 wc' x f' oe' nd' wt' ws' com' met1 cz b7.1 b7.2.1 b7.2.2 (b8 rfl).1 (b8 rfl).2
  · obtain ⟨p1, p2, p3, p4⟩ := mt x b1 (by omega)
    have ea := En_b (f := f') ok ha
    have eb := En_b (f := f') ok p1
    have oa := (b7.1.2 a ha.1 ha.2).1
    have ob := (b7.1.2 _ p1.1 p1.2).1
    have cx : com' (met1 x) = com1 (met1 x) := b5 _ (fun j j0 j1 => m1.2.2.2.2.2.1 j x j0 j1 (by omega))
    have next : ∀ (b' wc2 : Int) (f2 oe2 nd2 wt2 ws2 : Int → Int), (b' = 0 ∨ b' = 1) → (b' = 0 → b = 0 ∧ wc2 = wc' ∧ f2 = f' ∧ oe2 = oe' ∧ nd2 = nd' ∧ wt2 = wt' ∧ ws2 = ws' ∧ No2 w h sh mined f a (met1 x)) → (FO w h sh mined st f2 oe2 nd2 ∧ WT (w * h) st wc2 wt2 ws2 ∧ Stl w h sh mined st f2 ws2) → (b' = 1 → Zf (w * h) f2 < Zf (w * h) f ∧ (∀ S, C1 w h sh mined st S → C2 w h sh mined st S → (∀ d, Kf (w * h) st f d → S d) → ∀ d, Kf (w * h) st f2 d → S d)) → ((0 ≤ met1 x ∧ met1 x < 144) ∧ ∀ com2 : Int → Int, com2 = upZ com' (met1 x) 0 → (inR (x + 1) ∧ ∀ y : Int, y = x + 1 → ∃ m : Nat, m < (mc1 - x).toNat ∧ (m = (mc1 - y).toNat ∧ 0 ≤ y ∧ y ≤ mc1 ∧ (b' = 0 ∨ b' = 1) ∧ (∀ j, 0 ≤ j → j < y → com2 (met1 j) = 0) ∧ (∀ c, (∀ j, 0 ≤ j → j < y → met1 j ≠ c) → com2 c = com1 c) ∧ (b' = 0 → wc2 = wc ∧ f2 = f ∧ oe2 = oe ∧ nd2 = nd ∧ wt2 = wt ∧ ws2 = ws ∧ ∀ j, 0 ≤ j → j < y → No2 w h sh mined f a (met1 j)) ∧ (FO w h sh mined st f2 oe2 nd2 ∧ WT (w * h) st wc2 wt2 ws2 ∧ Stl w h sh mined st f2 ws2) ∧ (b' = 1 → Zf (w * h) f2 < Zf (w * h) f ∧ (∀ S, C1 w h sh mined st S → C2 w h sh mined st S → (∀ d, Kf (w * h) st f d → S d) → ∀ d, Kf (w * h) st f2 d → S d))))) := by
      intro b' wc2 f2 oe2 nd2 wt2 ws2 k1 k2 k3 k4
      refine ⟨by omega, fun com2 ec2 => nx (by omega) ⟨_, ?_, rfl, by omega, by omega, k1, fun j j0 j1 => ?_, fun c hc => ?_, fun z => ?_, k3, k4⟩⟩
      · omega
      · rw [ec2]
        by_cases ej : met1 j = met1 x
        · rw [ej, upZ_s]
        · rw [upZ_n _ _ ej]
          refine b4 j j0 ?_
          by_cases e : j = x
          · exact absurd (by rw [e]) ej
          · omega
      · rw [ec2, upZ_n _ _ (fun z => hc x b1 (by omega) z.symm)]
        exact b5 c (fun j j0 j1 => hc j j0 (by omega))
      · obtain ⟨z0, z1, z2, z3, z4, z5, z6, z7⟩ := k2 z
        obtain ⟨e1, e2, e3, e4, e5, e6, e7⟩ := b6 z0
        subst e1 e2 e3 e4 e5 e6
        refine ⟨z1, z2, z3, z4, z5, z6, fun j j0 j1 => ?_⟩
        by_cases e : j = x
        · rw [e]; exact z7
        · exact e7 j j0 (by omega)
    refine ⟨by omega, fun v ev rv => ?_⟩
    subst ev
    refine ⟨by omega, fun v2 ev2 rv2 => ⟨by omega, fun v3 ev3 rv3 => ⟨by omega, fun x5 ex5 => exJ7i ⟨fun z _ => next b _ _ _ _ _ _ b3 (fun y => absurd y z) b7 b8, fun z => ?_⟩⟩⟩⟩
    subst z
    obtain ⟨e1, e2, e3, e4, e5, e6, e7⟩ := b6 rfl
    subst e1 e2 e3 e4 e5 e6
    have keep : No2 w h sh mined f' a (met1 x) → _ := fun hn => next 0 wc' f' oe' nd' wt' ws' (Or.inl rfl) (fun _ => ⟨rfl, rfl, rfl, rfl, rfl, rfl, rfl, hn⟩) b7 (fun y => absurd y (by omega))
    refine ⟨fun z2 _ => keep (fun hh => ?_), fun z2 => ⟨by omega, fun v4 ev4 rv4 => ⟨by omega, fun v5 ev5 rv5 => ⟨fun z3 _ => keep (fun hh => z3 ?_), fun z3 => ?_⟩⟩⟩⟩
    · have ps := pair_sums (mined := mined) hh.1
      have := (oth_any (w := w) (h := h) (sh := sh) (a := a) (b := met1 x) (f := f')).mpr hh.2.2
      omega
    · have := (Cm_all (f := f') ok ha p1).mpr hh.1
      omega
    · have hs := (Cm_all (f := f') ok ha p1).mp (by omega)
      refine s_compare ok g hm b7.1 b7.2.1 b7.2.2 ha p1 (fun z => p3 z.symm) sa p2 hs (by omega) (by omega) (fun hn _ _ => keep hn) (fun wc2 f2 oe2 nd2 wt2 ws2 k1 k2 k3 k4 k5 _ _ => next 1 wc2 f2 oe2 nd2 wt2 ws2 (Or.inr rfl) (fun y => absurd y (by omega)) ⟨k1, k2, k3⟩ (fun _ => ⟨k4, k5⟩))
