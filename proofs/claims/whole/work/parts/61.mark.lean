/-! marking the open ends of a number; the singles -/
theorem s_areNear {w h sh a b : Int} {near nearEnd : Int → Int} {post : Int → Prop} (ok : okB w h sh) (g : GeoD w h sh near nearEnd) (ha : 0 ≤ a ∧ a < w * h) (h1 : b ∈ NB w h sh a → post 1) (h0 : ¬ b ∈ NB w h sh a → post 0) : P_X3_areNear post near nearEnd a b := by
  have hle := wh_le ok
  have hl := NB_len ok ha
  have ge := (g a ha.1 ha.2).1
  unfold P_X3_areNear
  refine ⟨by omega, fun x3 ex3 => ⟨fun n x => n = (nearEnd a - x).toNat ∧ 8 * a ≤ x ∧ x ≤ nearEnd a ∧ ¬ b ∈ (NB w h sh a).take (x - 8 * a).toNat, ⟨_, rfl, by omega, by omega, by rw [ex3, show (a * 8 - 8 * a).toNat = 0 by omega]; simp⟩, ?_⟩⟩
  rintro n x rx ⟨rfl, b1, b2, b3⟩
  refine ⟨by omega, fun v ev rv => ⟨fun q => ?_, fun q => ?_⟩⟩
  · rw [row_end g ha (by omega)] at b3
    exact h0 b3
  · obtain ⟨m, t, nm⟩ := row_at g ha b1 (by omega)
    refine ⟨by omega, fun v2 ev2 rv2 => ⟨fun z => nx (by omega) ⟨_, ?_, rfl, by omega, by omega, ?_⟩, fun z => h1 (by rw [← z, ev2]; exact m)⟩⟩
    · omega
    · rw [show (x + 1 - 8 * a).toNat = (x - 8 * a).toNat + 1 by omega, t]
      exact fun y => (List.mem_append.mp y).elim b3 (fun y => z (by rw [ev2]; exact (List.mem_singleton.mp y).symm))
/-- which ends are marked: those of c0 that are not next to the spared one -/
def Mk (w h sh : Int) (f : Int → Int) (c0 spared d : Int) : Prop := d ∈ NB w h sh c0 ∧ f d = 0 ∧ (spared = -1 ∨ ¬ d ∈ NB w h sh spared)
theorem s_markEnds {w h sh c0 spared v wc : Int} {mined st f oe nd wt ws near nearEnd : Int → Int} {post : Int → (Int → Int) → (Int → Int) → (Int → Int) → (Int → Int) → (Int → Int) → Prop} (ok : okB w h sh) (g : GeoD w h sh near nearEnd) (hm : ∀ c, 0 ≤ c → c < w * h → mined c = 0 ∨ mined c = 1) (o : FO w h sh mined st f oe nd) (t : WT (w * h) st wc wt ws) (hc : 0 ≤ c0 ∧ c0 < w * h) (hsp : spared = -1 ∨ (0 ≤ spared ∧ spared < w * h)) (hv : ∀ d, Mk w h sh f c0 spared d → v = 1 + mined d) (hv2 : v = 1 ∨ v = 2)
    (hp : ∀ (wc' : Int) (f' oe' nd' wt' ws' : Int → Int), FO w h sh mined st f' oe' nd' → WT (w * h) st wc' wt' ws' → wc' + 8 * Zf (w * h) f' ≤ wc + 8 * Zf (w * h) f → (∀ d, Mk w h sh f c0 spared d → f' d = v) → (∀ d, ¬ Mk w h sh f c0 spared d → f' d = f d) → (∀ c, 0 ≤ c → c < w * h → st c = 2 → ws' c = 0 → ws c = 0 ∧ ∀ d ∈ NB w h sh c, f' d = f d) → Zf (w * h) f' ≤ Zf (w * h) f → ((∃ d, Mk w h sh f c0 spared d) → Zf (w * h) f' < Zf (w * h) f) → post wc' f' oe' nd' wt' ws') : P_X7_markEnds post wc st near nearEnd f oe nd wt ws c0 spared v := by
  have hle := wh_le ok
  have hge := wh_ge ok
  have hl := NB_len ok hc
  have ge := (g c0 hc.1 hc.2).1
  unfold P_X7_markEnds
  refine ⟨by omega, fun x4 ex4 => ⟨fun n x wc' f' oe' nd' wt' ws' => n = (nearEnd c0 - x).toNat ∧ 8 * c0 ≤ x ∧ x ≤ nearEnd c0 ∧ FO w h sh mined st f' oe' nd' ∧ WT (w * h) st wc' wt' ws' ∧ wc' + 8 * Zf (w * h) f' ≤ wc + 8 * Zf (w * h) f ∧ (∀ d, Mk w h sh f c0 spared d → d ∈ (NB w h sh c0).take (x - 8 * c0).toNat → f' d = v) ∧ (∀ d, ¬ (Mk w h sh f c0 spared d ∧ d ∈ (NB w h sh c0).take (x - 8 * c0).toNat) → f' d = f d) ∧ (∀ c, 0 ≤ c → c < w * h → st c = 2 → ws' c = 0 → ws c = 0 ∧ ∀ d ∈ NB w h sh c, f' d = f d) ∧ Zf (w * h) f' ≤ Zf (w * h) f ∧ ((∃ d, Mk w h sh f c0 spared d ∧ d ∈ (NB w h sh c0).take (x - 8 * c0).toNat) → Zf (w * h) f' < Zf (w * h) f), ⟨_, rfl, by omega, by omega, o, t, by omega, fun d _ z => by rw [ex4, show (c0 * 8 - 8 * c0).toNat = 0 by omega] at z; simp at z, fun _ _ => rfl, fun c _ _ _ q => ⟨q, fun _ _ => rfl⟩, by omega, fun ⟨d, _, z⟩ => by rw [ex4, show (c0 * 8 - 8 * c0).toNat = 0 by omega] at z; simp at z⟩, ?_⟩⟩
  rintro n x wc' f' oe' nd' wt' ws' rx ⟨rfl, b1, b2, b3, b4, b5, b6, b7, b8, b9, b10⟩
  refine ⟨by omega, fun v1 ev1 rv1 => ⟨fun q => ?_, fun q => ?_⟩⟩
  · rw [row_end g hc (by omega)] at b6 b7 b10
    exact hp wc' f' oe' nd' wt' ws' b3 b4 b5 (fun d hd => b6 d hd hd.1) (fun d hd => b7 d (fun z => hd z.1)) b8 b9 (fun ⟨d, hd⟩ => b10 ⟨d, hd, hd.1⟩)
  · obtain ⟨m, tk, nm⟩ := row_at g hc b1 (by omega)
    have mc := nb_cell m
    have fx : f' (near x) = f (near x) := b7 _ (fun z => nm z.2)
    refine ⟨by omega, fun v2 ev2 rv2 => ?_⟩
    subst ev2
    have skip : ¬ Mk w h sh f c0 spared (near x) → ∃ m : Nat, m < (nearEnd c0 - x).toNat ∧ (m = (nearEnd c0 - (x + 1)).toNat ∧ 8 * c0 ≤ x + 1 ∧ x + 1 ≤ nearEnd c0 ∧ FO w h sh mined st f' oe' nd' ∧ WT (w * h) st wc' wt' ws' ∧ wc' + 8 * Zf (w * h) f' ≤ wc + 8 * Zf (w * h) f ∧ (∀ d, Mk w h sh f c0 spared d → d ∈ (NB w h sh c0).take (x + 1 - 8 * c0).toNat → f' d = v) ∧ (∀ d, ¬ (Mk w h sh f c0 spared d ∧ d ∈ (NB w h sh c0).take (x + 1 - 8 * c0).toNat) → f' d = f d) ∧ (∀ c, 0 ≤ c → c < w * h → st c = 2 → ws' c = 0 → ws c = 0 ∧ ∀ d ∈ NB w h sh c, f' d = f d) ∧ Zf (w * h) f' ≤ Zf (w * h) f ∧ ((∃ d, Mk w h sh f c0 spared d ∧ d ∈ (NB w h sh c0).take (x + 1 - 8 * c0).toNat) → Zf (w * h) f' < Zf (w * h) f)) := by
      intro hn
      refine ⟨_, ?_, rfl, by omega, by omega, b3, b4, b5, fun d hd hx => ?_, fun d hd => b7 d (fun z => hd ⟨z.1, ?_⟩), b8, b9, fun ⟨d, hd, hx⟩ => ?_⟩
      · omega
      · rw [show (x + 1 - 8 * c0).toNat = (x - 8 * c0).toNat + 1 by omega, tk] at hx
        rcases List.mem_append.mp hx with hx | hx
        · exact b6 d hd hx
        · rw [List.mem_singleton.mp hx] at hd; exact absurd hd hn
      · rw [show (x + 1 - 8 * c0).toNat = (x - 8 * c0).toNat + 1 by omega, tk]; exact List.mem_append_left _ z.2
      · rw [show (x + 1 - 8 * c0).toNat = (x - 8 * c0).toNat + 1 by omega, tk] at hx
        rcases List.mem_append.mp hx with hx | hx
        · exact b10 ⟨d, hd, hx⟩
        · rw [List.mem_singleton.mp hx] at hd; exact absurd hd hn
    refine ⟨by omega, fun v3 ev3 rv3 => exJ6 ⟨fun z => nx (by omega) (skip (fun y => z (by rw [ev3, fx]; exact y.2.1))), fun z => ?_⟩⟩
    have e0 : f' (near x) = 0 := by omega
    refine ⟨(spared = -1 ∨ ¬ near x ∈ NB w h sh spared), ⟨fun z2 => Or.inl z2, fun z2 => ?_⟩, fun hJ => ?_⟩
    · refine s_areNear ok g (by omega) (fun y _ => ⟨fun _ => nx (by omega) (skip (fun y2 => ?_)), fun z3 => absurd z3 (by omega)⟩) (fun y _ => ⟨fun z3 => absurd rfl z3, fun _ => Or.inr y⟩)
      rcases y2.2.2 with y2 | y2
      · exact z2 y2
      · exact y2 y
    · have mk : Mk w h sh f c0 spared (near x) := ⟨m, by omega, hJ⟩
      have hvx := hv _ mk
      refine s_mark ok g hm b3 b4 mc e0 hvx (fun wc2 oe2 nd2 wt2 ws2 k1 k2 k3 k4 => nx (by omega) ?_)
      have z1 := Zf_up (f := f') mc e0 (v := v) (by omega)
      refine ⟨_, ?_, rfl, by omega, by omega, k1, k2, by omega, fun d hd hx => ?_, fun d hd => ?_, fun c h0 h1 hs hw => ?_, by omega, fun _ => by omega⟩
      · omega
      · by_cases ed : d = near x
        · rw [ed, upZ_s]
        · rw [upZ_n _ _ ed]
          rw [show (x + 1 - 8 * c0).toNat = (x - 8 * c0).toNat + 1 by omega, tk] at hx
          rcases List.mem_append.mp hx with hx | hx
          · exact b6 d hd hx
          · exact absurd (List.mem_singleton.mp hx) ed
      · by_cases ed : d = near x
        · exfalso
          refine hd ⟨by rw [ed]; exact mk, ?_⟩
          rw [show (x + 1 - 8 * c0).toNat = (x - 8 * c0).toNat + 1 by omega, tk, ed]
          exact List.mem_append_right _ (List.mem_singleton.mpr rfl)
        · rw [upZ_n _ _ ed]
          refine b7 d (fun y => hd ⟨y.1, ?_⟩)
          rw [show (x + 1 - 8 * c0).toNat = (x - 8 * c0).toNat + 1 by omega, tk]; exact List.mem_append_left _ y.2
      · obtain ⟨p1, p2⟩ := k4 c h0 h1 hs hw
        obtain ⟨p3, p4⟩ := b8 c h0 h1 hs p1
        refine ⟨p3, fun d hd => ?_⟩
        rw [upZ_n _ _ (fun y => p2 (by rw [← y]; exact hd))]
        exact p4 d hd
/-! what is closed under the rules: S holds the cells that are found -/
def Unf (w h sh : Int) (mined st : Int → Int) (S : Int → Prop) (c : Int) : Prop := ∃ v, ∀ d ∈ NB w h sh c, st d ≤ 1 → ¬ S d → mined d = v
def C1 (w h sh : Int) (mined st : Int → Int) (S : Int → Prop) : Prop := ∀ c, 0 ≤ c → c < w * h → st c = 2 → Unf w h sh mined st S c → ∀ d ∈ NB w h sh c, st d ≤ 1 → S d
def C2 (w h sh : Int) (mined st : Int → Int) (S : Int → Prop) : Prop := ∀ a b, (0 ≤ a ∧ a < w * h) → (0 ≤ b ∧ b < w * h) → a ≠ b → st a = 2 → st b = 2 → (∀ d ∈ NB w h sh a, st d ≤ 1 → ¬ S d → d ∈ NB w h sh b) → (∃ v, ∀ d ∈ NB w h sh b, st d ≤ 1 → ¬ S d → ¬ d ∈ NB w h sh a → mined d = v) → ∀ d ∈ NB w h sh b, st d ≤ 1 → ¬ d ∈ NB w h sh a → S d
/-- what a row of findings holds -/
def Kf (n : Int) (st f : Int → Int) (d : Int) : Prop := (0 ≤ d ∧ d < n) ∧ st d ≤ 1 ∧ ¬ f d = 0
/-- numbers that don't wait have nothing more to tell -/
def Stl (w h sh : Int) (mined st f ws : Int → Int) : Prop := ∀ c, 0 ≤ c → c < w * h → st c = 2 → ws c = 0 → (∃ v, ∀ d ∈ NB w h sh c, f d = 0 → mined d = v) → ∀ d ∈ NB w h sh c, ¬ f d = 0
theorem Stl.C1 {w h sh : Int} {mined st f ws oe nd : Int → Int} (o : FO w h sh mined st f oe nd) (s : Stl w h sh mined st f ws) (z : ∀ c, 0 ≤ c → c < w * h → st c = 2 → ws c = 0) : C1 w h sh mined st (Kf (w * h) st f) := by
  intro c h0 h1 hs ⟨v, hv⟩ d hd hu
  have dc := nb_cell hd
  refine ⟨dc, hu, s c h0 h1 hs (z c h0 h1 hs) ⟨v, fun d hd e => ?_⟩ d hd⟩
  have dc := nb_cell hd
  exact hv d hd (o.unk dc.1 dc.2 e) (fun y => y.2.2 e)
theorem s_findBySingles {w h sh wc : Int} {mined st f oe nd wt ws near nearEnd : Int → Int} {post : Int → (Int → Int) → (Int → Int) → (Int → Int) → (Int → Int) → (Int → Int) → Prop} (ok : okB w h sh) (g : GeoD w h sh near nearEnd) (hm : ∀ c, 0 ≤ c → c < w * h → mined c = 0 ∨ mined c = 1) (o : FO w h sh mined st f oe nd) (t : WT (w * h) st wc wt ws) (s : Stl w h sh mined st f ws)
    (hp : ∀ (f' oe' nd' wt' ws' : Int → Int), FO w h sh mined st f' oe' nd' → WT (w * h) st 0 wt' ws' → Stl w h sh mined st f' ws' → Zf (w * h) f' ≤ Zf (w * h) f → (∀ S, C1 w h sh mined st S → (∀ d, Kf (w * h) st f d → S d) → ∀ d, Kf (w * h) st f' d → S d) → post 0 f' oe' nd' wt' ws') : P_X7_findBySingles post wc st near nearEnd f oe nd wt ws := by
  have hle := wh_le ok
  have hge := wh_ge ok
  have tle := t.le (by omega)
  have zb := Zf_b (n := w * h) (f := f) (by omega)
  unfold P_X7_findBySingles
  refine ⟨fun n x wc' f' oe' nd' wt' ws' => n = (1296 - x).toNat ∧ 0 ≤ x ∧ FO w h sh mined st f' oe' nd' ∧ WT (w * h) st wc' wt' ws' ∧ Stl w h sh mined st f' ws' ∧ x + wc' + 8 * Zf (w * h) f' ≤ 1296 ∧ Zf (w * h) f' ≤ Zf (w * h) f ∧ (∀ S, C1 w h sh mined st S → (∀ d, Kf (w * h) st f d → S d) → ∀ d, Kf (w * h) st f' d → S d), ⟨_, rfl, by omega, o, t, s, by omega, by omega, fun _ _ q => q⟩, ?_⟩
  rintro n x wc' f' oe' nd' wt' ws' rx ⟨rfl, b1, b2, b3, b4, b5, b6, b7⟩
  have zb' := Zf_b (n := w * h) (f := f') (by omega)
  have w0 := b3.1
  have fin : wc' ≤ 0 → post wc' f' oe' nd' wt' ws' := by
    intro z
    have e : wc' = 0 := by omega
    subst e
    exact hp f' oe' nd' wt' ws' b2 b3 b4 b6 b7
  refine ⟨fun z => fin (by omega), fun z => ⟨fin, fun z2 => ⟨by omega, fun wc2 ec2 => ⟨by have := b3.le (by omega); omega, fun v ev rv => ?_⟩⟩⟩⟩
  subst ec2
  obtain ⟨p1, p2, p3⟩ := b3.2.2.2.1 (wc' - 1) (by omega) (by omega)
  have t2 := b3.pop (by omega)
  rw [← ev] at p1 p2 p3 t2
  have on := b2.2 v p1.1 p1.2
  refine ⟨by omega, fun ws2 ew2 => ⟨by omega, fun v2 ev2 rv2 => ?_⟩⟩
  subst ew2
  -- after the ends of v are marked
  have marked : ∀ (val : Int), (val = 1 ∨ val = 2) → (∀ d, Mk w h sh f' v (-1) d → val = 1 + mined d) → ∀ (wc3 : Int) (f3 oe3 nd3 wt3 ws3 : Int → Int), FO w h sh mined st f3 oe3 nd3 → WT (w * h) st wc3 wt3 ws3 → wc3 + 8 * Zf (w * h) f3 ≤ wc' - 1 + 8 * Zf (w * h) f' → (∀ d, Mk w h sh f' v (-1) d → f3 d = val) → (∀ d, ¬ Mk w h sh f' v (-1) d → f3 d = f' d) → (∀ c, 0 ≤ c → c < w * h → st c = 2 → ws3 c = 0 → upZ ws' v 0 c = 0 ∧ ∀ d ∈ NB w h sh c, f3 d = f' d) → Zf (w * h) f3 ≤ Zf (w * h) f' → ∃ m : Nat, m < (1296 - x).toNat ∧ (m = (1296 - (x + 1)).toNat ∧ 0 ≤ x + 1 ∧ FO w h sh mined st f3 oe3 nd3 ∧ WT (w * h) st wc3 wt3 ws3 ∧ Stl w h sh mined st f3 ws3 ∧ x + 1 + wc3 + 8 * Zf (w * h) f3 ≤ 1296 ∧ Zf (w * h) f3 ≤ Zf (w * h) f ∧ (∀ S, C1 w h sh mined st S → (∀ d, Kf (w * h) st f d → S d) → ∀ d, Kf (w * h) st f3 d → S d)) := by
    intro val hv1 hv2 wc3 f3 oe3 nd3 wt3 ws3 k1 k2 k3 k4 k5 k6 k7
    refine ⟨_, ?_, rfl, by omega, k1, k2, ?_, by omega, by omega, fun S hS hK d hd => ?_⟩
    · omega
    · intro c h0 h1 hs hw hu d hd
      by_cases ec : c = v
      · rw [ec] at hd
        by_cases mk : Mk w h sh f' v (-1) d
        · rw [k4 d mk]; omega
        · rw [k5 d mk]; exact fun y => mk ⟨hd, y, Or.inl rfl⟩
      · obtain ⟨q1, q2⟩ := k6 c h0 h1 hs hw
        rw [upZ_n _ _ ec] at q1
        rw [q2 d hd]
        refine b4 c h0 h1 hs q1 ?_ d hd
        obtain ⟨u, hu⟩ := hu
        exact ⟨u, fun d hd e => hu d hd (by rw [q2 d hd]; exact e)⟩
    · by_cases mk : Mk w h sh f' v (-1) d
      · by_cases sd : S d
        · exact sd
        · refine hS v p1.1 p1.2 p2 ⟨val - 1, fun y hy hu hns => ?_⟩ d mk.1 hd.2.1
          have yc := nb_cell hy
          by_cases fy : f' y = 0
          · have := hv2 y ⟨hy, fy, Or.inl rfl⟩; omega
          · exact absurd (b7 S hS hK y ⟨yc, hu, fy⟩) hns
      · exact b7 S hS hK d ⟨hd.1, hd.2.1, by rw [← k5 d mk]; exact hd.2.2⟩
  refine exJ6 ⟨fun z3 => ⟨by omega, fun v3 ev3 rv3 => ⟨by omega, fun v4 ev4 rv4 => ⟨fun z4 => nx (by omega) ?_, fun z4 => ?_⟩⟩⟩, fun z3 => ?_⟩
  · refine ⟨_, ?_, rfl, by omega, b2, t2, ?_, by omega, b6, b7⟩
    · omega
    · intro c h0 h1 hs hw hu d hd
      by_cases ec : c = v
      · exfalso
        rw [ec] at hu
        obtain ⟨u, hu⟩ := hu
        by_cases any : ∃ y ∈ NB w h sh v, f' y = 0
        · obtain ⟨y, hy, fy⟩ := any
          have yc := nb_cell hy
          have my := hu y hy fy
          rcases hm y yc.1 yc.2 with e | e
          · have := (Nd_zero (f := f') (c := v) hm).mpr (fun d hd e2 => by rw [hu d hd e2]; omega)
            omega
          · have := (Nd_full (f := f') (c := v) hm).mpr (fun d hd e2 => by rw [hu d hd e2]; omega)
            omega
        · have := (Nd_zero (f := f') (c := v) hm).mpr (fun d hd e2 => absurd ⟨d, hd, e2⟩ any)
          omega
      · rw [upZ_n _ _ ec] at hw
        exact b4 c h0 h1 hs hw hu d hd
  · have full := (Nd_full (sh := sh) (f := f') (c := v) hm).mp (by omega)
    have hv2 : ∀ d, Mk w h sh f' v (-1) d → (2 : Int) = 1 + mined d := fun d hd => by have := full d hd.1 hd.2.1; omega
    exact s_markEnds ok g hm b2 t2 p1 (Or.inl rfl) hv2 (Or.inr rfl) (fun wc3 f3 oe3 nd3 wt3 ws3 k1 k2 k3 k4 k5 k6 k7 _ => nx (by omega) (marked 2 (Or.inr rfl) hv2 wc3 f3 oe3 nd3 wt3 ws3 k1 k2 k3 k4 k5 k6 k7))
  · have zero := (Nd_zero (sh := sh) (f := f') (c := v) hm).mp (by omega)
    have hv2 : ∀ d, Mk w h sh f' v (-1) d → (1 : Int) = 1 + mined d := fun d hd => by have := zero d hd.1 hd.2.1; omega
    exact s_markEnds ok g hm b2 t2 p1 (Or.inl rfl) hv2 (Or.inl rfl) (fun wc3 f3 oe3 nd3 wt3 ws3 k1 k2 k3 k4 k5 k6 k7 _ => nx (by omega) (marked 1 (Or.inl rfl) hv2 wc3 f3 oe3 nd3 wt3 ws3 k1 k2 k3 k4 k5 k6 k7))
