/-! the class's reasoner: grades 1 and 2 -/
theorem s_isUnknownC {post : Int → Prop} {st : Int → Int} {c : Int} (hc : 0 ≤ c ∧ c < 144) (hp : ∀ u : Int, (u = 0 ∨ u = 1) → (u = 1 ↔ st c ≤ 1) → post u) : P_X2_isUnknown post st c := s_isUnknown hc (fun q => hp 1 (Or.inr rfl) ⟨fun _ => q, fun _ => rfl⟩) (fun q => hp 0 (Or.inl rfl) ⟨fun y => absurd y (by omega), fun y => absurd y q⟩)
theorem s_isTelling {post : Int → Prop} {st oe : Int → Int} {c : Int} (hc : 0 ≤ c ∧ c < 144) (h1 : st c = 2 ∧ 0 < oe c → post 1) (h0 : ¬ (st c = 2 ∧ 0 < oe c) → post 0) : P_X7_isTelling post st oe c := by
  unfold P_X7_isTelling
  refine ⟨hc, fun v ev rv => exJi (exJ0 ⟨fun z _ => ⟨by omega, h0 (by omega)⟩, fun z => ⟨hc, fun v2 ev2 rv2 => ⟨fun z2 _ => ⟨by omega, h0 (by omega)⟩, fun z2 _ => ⟨by omega, h1 (by omega)⟩⟩⟩⟩)⟩
/-- after grade 1, and after grade 2 -/
def RS1 (w h sh : Int) (mined st : Int → Int) (wc : Int) (f oe nd wt ws com : Int → Int) : Prop :=
  FO w h sh mined st f oe nd ∧ wc = 0 ∧ WT (w * h) st 0 wt ws ∧ Stl w h sh mined st f ws ∧ (∀ c, 0 ≤ c → c < w * h → com c = 0)
theorem RS1.C1 {w h sh wc : Int} {mined st f oe nd wt ws com : Int → Int} (r : RS1 w h sh mined st wc f oe nd wt ws com) : C1 w h sh mined st (Kf (w * h) st f) := by
  refine r.2.2.2.1.C1 r.1 (fun c h0 h1 hs => ?_)
  rcases r.2.2.1.2.2.1 c h0 h1 with e | e
  · exact e
  · obtain ⟨j, j0, j1, j2⟩ := r.2.2.1.2.2.2.2.2 c h0 h1 e
    omega
theorem rest_eq {w h sh c mines : Int} {mined number st ci un hi : Int → Int} (dm : DMi w h sh mined number mines) (ds : DSt w h sh st ci un hi) (gs : GSt w h sh mined number st) (h0 : 0 ≤ c) (h1 : c < w * h) : number c - hi c = sumL (NB w h sh c) (fun d => iU (st d) * mined d) := by
  rw [dm.2.1 c h0 h1, ds.2.2.2 c h0 h1]
  have e : sumL (NB w h sh c) mined = sumL (NB w h sh c) (fun d => iU (st d) * mined d) + sumL (NB w h sh c) (fun d => iH (st d)) := sumL_add (fun x hx => by
    have xc := nb_cell hx
    have sx := gs.1 x xc.1 xc.2
    rcases (show st x = 0 ∨ st x = 1 ∨ st x = 2 ∨ st x = 3 by omega) with e | e | e | e
    · rw [e, show iU 0 = 1 from rfl, show iH 0 = 0 from rfl]; omega
    · rw [e, show iU 1 = 1 from rfl, show iH 1 = 0 from rfl]; omega
    · rw [gs.2.1 x xc.1 xc.2 e, e]; rfl
    · rw [gs.2.2.1 x xc.1 xc.2 e, e]; rfl)
  show sumL _ mined - _ = _
  omega
theorem s_beginR {w h sh wc mines : Int} {mined number st ci un hi f oe nd wt ws com : Int → Int} {post : Int → (Int → Int) → (Int → Int) → (Int → Int) → (Int → Int) → (Int → Int) → (Int → Int) → Prop} (ok : okB w h sh) (dm : DMi w h sh mined number mines) (ds : DSt w h sh st ci un hi) (gs : GSt w h sh mined number st)
    (hp : ∀ (wc' : Int) (f' oe' nd' wt' ws' com' : Int → Int), FO w h sh mined st f' oe' nd' → WT (w * h) st wc' wt' ws' → Stl w h sh mined st f' ws' → (∀ c, 0 ≤ c → c < w * h → com' c = 0) → (∀ d, ¬ Kf (w * h) st f' d) → post wc' f' oe' nd' wt' ws' com') : P_X7_begin post (w * h) wc number st un hi f oe nd wt ws com := by
  have hle := wh_le ok
  have hge := wh_ge ok
  have hn := cells_len (n := w * h) (by omega)
  unfold P_X7_begin
  refine ⟨fun n x wc' f' oe' nd' wt' ws' com' => n = (w * h - x).toNat ∧ 0 ≤ x ∧ x ≤ w * h ∧ (∀ c, 0 ≤ c → c < x → (st c ≤ 1 → f' c = 0) ∧ (¬ st c ≤ 1 → f' c = 3) ∧ oe' c = un c ∧ nd' c = number c - hi c ∧ com' c = 0 ∧ (ws' c = 0 ∨ ws' c = 1) ∧ (ws' c = 1 ↔ (st c = 2 ∧ 0 < un c))) ∧ 0 ≤ wc' ∧ wc' ≤ x ∧ wc' = sumL (cellsL x) (fun c => iK 1 (ws' c)) ∧ (∀ j, 0 ≤ j → j < wc' → (0 ≤ wt' j ∧ wt' j < x) ∧ ws' (wt' j) = 1) ∧ (∀ i j, 0 ≤ i → i < j → j < wc' → wt' i ≠ wt' j) ∧ (∀ c, 0 ≤ c → c < x → ws' c = 1 → ∃ j, 0 ≤ j ∧ j < wc' ∧ wt' j = c), ⟨_, rfl, by omega, by omega, fun c _ _ => by omega, by omega, by omega, rfl, fun j _ _ => by omega, fun i j _ _ _ => by omega, fun c _ _ => by omega⟩, ?_⟩
  rintro n x wc' f' oe' nd' wt' ws' com' rx ⟨rfl, b1, b2, b3, b4, b5, b6, b7, b8, b9⟩
  refine ⟨fun q => ?_, fun q => ?_⟩
  · have ex : x = w * h := by omega
    subst ex
    have fo : FO w h sh mined st f' oe' nd' := by
      refine ⟨fun d h0 h1 => ⟨fun z => Or.inl ((b3 d h0 h1).1 z), (b3 d h0 h1).2.1⟩, fun c h0 h1 => ?_⟩
      obtain ⟨-, -, p3, p4, -⟩ := b3 c h0 h1
      have iu : ∀ d ∈ NB w h sh c, iU (st d) = iK 0 (f' d) := by
        intro d hd
        have dc := nb_cell hd
        by_cases z : st d ≤ 1
        · rw [iK0_t ((b3 d dc.1 dc.2).1 z)]; exact if_pos z
        · rw [iK0_f (by rw [(b3 d dc.1 dc.2).2.1 z]; omega)]; exact if_neg z
      refine ⟨by rw [p3, ds.2.2.1 c h0 h1]; exact sumL_congr iu, ?_⟩
      rw [p4, rest_eq dm ds gs h0 h1]
      exact sumL_congr (fun d hd => by rw [iu d hd])
    refine hp wc' f' oe' nd' wt' ws' com' fo ⟨b4, b6, fun c h0 h1 => (b3 c h0 h1).2.2.2.2.2.1, fun j j0 j1 => ?_, b8, b9⟩ ?_ (fun c h0 h1 => (b3 c h0 h1).2.2.2.2.1) (fun d hd => hd.2.2 ((b3 d hd.1.1 hd.1.2).1 hd.2.1))
    · obtain ⟨p1, p2⟩ := b7 j j0 j1
      exact ⟨p1, ((b3 _ p1.1 p1.2).2.2.2.2.2.2.mp p2).1, p2⟩
    · intro c h0 h1 hs hw _ d hd
      obtain ⟨-, -, p3, -, -, -, p7⟩ := b3 c h0 h1
      have ez : En w h sh f' c = 0 := by
        have := (fo.2 c h0 h1).1
        have := ds.unk_b ok h0 h1
        by_cases z : 0 < un c
        · have := p7.mpr ⟨hs, z⟩; omega
        · omega
      exact En_zero.mp ez d hd
  · have hx : 0 ≤ x ∧ x < w * h := ⟨b1, by omega⟩
    have ub := ds.unk_b ok hx.1 hx.2
    have hb := ds.hit_b ok hx.1 hx.2
    have nb := dm.num_b ok hx.1 hx.2
    refine s_isUnknownC (by omega) (fun cu hcu icu _ => ⟨fun z => (st x ≤ 1 → z = 0) ∧ (¬ st x ≤ 1 → z = 3), ⟨fun z => ⟨fun y => by have := icu.mpr y; omega, fun _ => rfl⟩, fun z => ⟨fun _ => rfl, fun y => absurd (icu.mp (by omega)) y⟩⟩, fun z _ hz => ?_⟩)
    · refine ⟨by omega, fun f2 ef2 => ⟨by omega, fun com2 ec2 => ⟨by omega, fun v25 e25 r25 => ⟨by omega, fun oe2 eo2 => ⟨by omega, fun v29 e29 r29 => ⟨by omega, fun v31 e31 r31 => ⟨by omega, by omega, fun nd2 en2 => ?_⟩⟩⟩⟩⟩⟩⟩
      have old : ∀ (c35 : Int) (ws2 : Int → Int), (c35 = 0 ∨ c35 = 1) → (c35 = 1 ↔ (st x = 2 ∧ 0 < un x)) → ws2 = upZ ws' x c35 → ∀ c, 0 ≤ c → c < x + 1 → (st c ≤ 1 → f2 c = 0) ∧ (¬ st c ≤ 1 → f2 c = 3) ∧ oe2 c = un c ∧ nd2 c = number c - hi c ∧ com2 c = 0 ∧ (ws2 c = 0 ∨ ws2 c = 1) ∧ (ws2 c = 1 ↔ (st c = 2 ∧ 0 < un c)) := by
        intro c35 ws2 k1 k2 k3 c h0 h1
        by_cases ec : c = x
        · rw [ec, ef2, upZ_s, eo2, upZ_s, en2, upZ_s, ec2, upZ_s, k3, upZ_s]
          exact ⟨hz.1, hz.2, e25, by omega, rfl, k1, k2⟩
        · rw [ef2, upZ_n _ _ ec, eo2, upZ_n _ _ ec, en2, upZ_n _ _ ec, ec2, upZ_n _ _ ec, k3, upZ_n _ _ ec]
          exact b3 c h0 (by omega)
      have sm : ∀ v : Int, sumL (cellsL (x + 1)) (fun c => iK 1 (upZ ws' x v c)) = wc' + iK 1 v := by
        intro v
        rw [cells_succ b1, sumL_snoc, upZ_s, b6]
        congr 1
        exact sumL_congr (fun c hc => by have := mem_cells.mp hc; rw [upZ_n _ _ (by omega)])
      refine s_isTelling (by omega) (fun hh _ => ⟨by omega, fun ws2 ew2 => ⟨by omega, fun v39 e39 r39 => exJ2' ⟨fun z => ?_, fun z => ⟨by omega, fun wt2 et2 => ⟨by omega, fun wc2 ew => nx (by omega) ⟨_, ?_, rfl, by omega, by omega, old 1 ws2 (Or.inr rfl) ⟨fun _ => ?_, fun _ => rfl⟩ ew2, by omega, by omega, ?_, fun j j0 j1 => ?_, fun i j j0 j1 j2 => ?_, fun c h0 h1 hw => ?_⟩⟩⟩⟩⟩⟩) (fun hh _ => ⟨by omega, fun ws2 ew2 => ⟨by omega, fun v39 e39 r39 => exJ2' ⟨fun z => nx (by omega) ⟨_, ?_, rfl, by omega, by omega, old 0 ws2 (Or.inl rfl) ⟨fun y => absurd y (by omega), fun y => ?_⟩ ew2, by omega, by omega, ?_, fun j j0 j1 => ?_, b8, fun c h0 h1 hw => ?_⟩, fun z => ?_⟩⟩⟩)
      · rw [ew2, upZ_s] at e39; omega
      · omega
      · rw [eo2, upZ_s, e25] at hh; exact hh
      · rw [ew2, sm, ew]; rfl
      · rw [ew2, et2]
        by_cases ej : j = wc'
        · rw [ej, upZ_s, upZ_s]; exact ⟨by omega, rfl⟩
        · rw [upZ_n _ _ ej]
          obtain ⟨p1, p2⟩ := b7 j j0 (by omega)
          rw [upZ_n _ _ (by omega)]; exact ⟨by omega, p2⟩
      · rw [et2]
        by_cases ej : j = wc'
        · rw [ej, upZ_s, upZ_n _ _ (by omega)]
          have := (b7 i j0 (by omega)).1
          omega
        · rw [upZ_n _ _ ej, upZ_n _ _ (by omega)]; exact b8 i j j0 j1 (by omega)
      · by_cases ec : c = x
        · exact ⟨wc', b4, by omega, by rw [et2, upZ_s, ec]⟩
        · rw [ew2, upZ_n _ _ ec] at hw
          obtain ⟨j, j0, j1, j2⟩ := b9 c h0 (by omega) hw
          exact ⟨j, j0, by omega, by rw [et2, upZ_n _ _ (by omega)]; exact j2⟩
      · omega
      · exact absurd (by rw [eo2, upZ_s, e25]; exact y) hh
      · rw [ew2, sm]; show wc' = wc' + 0; omega
      · rw [ew2]
        obtain ⟨p1, p2⟩ := b7 j j0 j1
        rw [upZ_n _ _ (by omega)]; exact ⟨by omega, p2⟩
      · by_cases ec : c = x
        · rw [ew2, ec, upZ_s] at hw; omega
        · rw [ew2, upZ_n _ _ ec] at hw
          exact b9 c h0 (by omega) hw
      · rw [ew2, upZ_s] at e39; omega
theorem exJ10i {α β γ δ ε ζ η θ ι : Type} {p : Int → α → β → γ → δ → ε → ζ → η → θ → ι → Prop} {A : (Int → α → β → γ → δ → ε → ζ → η → θ → ι → Prop) → Prop} (hh : A (fun x a b c d e f g h i => inR x → p x a b c d e f g h i)) : ∃ J : Int → α → β → γ → δ → ε → ζ → η → θ → ι → Prop, A J ∧ ∀ (x : Int) (a : α) (b : β) (c : γ) (d : δ) (e : ε) (f : ζ) (g : η) (h : θ) (i : ι), inR x → J x a b c d e f g h i → p x a b c d e f g h i := ⟨_, hh, fun _ _ _ _ _ _ _ _ _ _ r k => k r⟩
theorem s_findByPairs {w h sh wc mc : Int} {mined st f oe nd wt ws com met near nearEnd : Int → Int} {post : Int → Int → (Int → Int) → (Int → Int) → (Int → Int) → (Int → Int) → (Int → Int) → (Int → Int) → (Int → Int) → Prop} (ok : okB w h sh) (g : GeoD w h sh near nearEnd) (hm : ∀ c, 0 ≤ c → c < w * h → mined c = 0 ∨ mined c = 1) (r : RS1 w h sh mined st wc f oe nd wt ws com)
    (hp : ∀ (wc' mc' : Int) (f' oe' nd' wt' ws' com' met' : Int → Int), RS1 w h sh mined st wc' f' oe' nd' wt' ws' com' → C2 w h sh mined st (Kf (w * h) st f') → (∀ S, C1 w h sh mined st S → C2 w h sh mined st S → (∀ d, Kf (w * h) st f d → S d) → ∀ d, Kf (w * h) st f' d → S d) → post wc' mc' f' oe' nd' wt' ws' com' met') : P_X7_findByPairs post (w * h) wc mc st near nearEnd f oe nd wt ws com met := by
  have hle := wh_le ok
  have hge := wh_ge ok
  have zb := Zf_b (n := w * h) (f := f) (by omega)
  unfold P_X7_findByPairs
  refine ⟨fun n b x wc' mc' f' oe' nd' wt' ws' com' met' => n = (145 - x).toNat ∧ 0 ≤ x ∧ (b = 0 ∨ b = 1) ∧ RS1 w h sh mined st wc' f' oe' nd' wt' ws' com' ∧ (b = 1 → x + Zf (w * h) f' ≤ 144) ∧ (b = 0 → C2 w h sh mined st (Kf (w * h) st f')) ∧ (∀ S, C1 w h sh mined st S → C2 w h sh mined st S → (∀ d, Kf (w * h) st f d → S d) → ∀ d, Kf (w * h) st f' d → S d), ⟨_, rfl, by omega, Or.inr rfl, r, fun _ => by omega, fun y => absurd y (by omega), fun _ _ _ q => q⟩, ?_⟩
  rintro n b x wc' mc' f' oe' nd' wt' ws' com' met' rb rx ⟨rfl, b1, b2, b3, b4, b5, b6⟩
  have zb' := Zf_b (n := w * h) (f := f') (by omega)
  refine ⟨fun q => ?_, fun q => ⟨fun q2 => hp wc' mc' f' oe' nd' wt' ws' com' met' b3 (b5 q2) b6, fun q2 => ?_⟩⟩
  · have : b = 0 := by
      rcases b2 with e | e
      · exact e
      · have := b4 e; omega
    exact hp wc' mc' f' oe' nd' wt' ws' com' met' b3 (b5 this) b6
  · have b1e : b = 1 := by omega
    have xz := b4 b1e
    refine ⟨fun n a y wc2 mc2 f2 oe2 nd2 wt2 ws2 com2 met2 => n = (w * h - y).toNat ∧ 0 ≤ y ∧ y ≤ w * h ∧ (a = 0 ∨ a = 1) ∧ RS1 w h sh mined st wc2 f2 oe2 nd2 wt2 ws2 com2 ∧ (a = 0 → f2 = f' ∧ ∀ c, 0 ≤ c → c < y → st c = 2 → 0 < En w h sh f' c → ∀ d, 0 ≤ d → d < w * h → st d = 2 → d ≠ c → No2 w h sh mined f' c d) ∧ (a = 1 → Zf (w * h) f2 < Zf (w * h) f') ∧ (∀ S, C1 w h sh mined st S → C2 w h sh mined st S → (∀ d, Kf (w * h) st f d → S d) → ∀ d, Kf (w * h) st f2 d → S d), ⟨_, rfl, by omega, by omega, Or.inl rfl, b3, fun _ => ⟨rfl, fun c _ _ => by omega⟩, fun z => absurd z (by omega), b6⟩, ?_⟩
    rintro n a y wc2 mc2 f2 oe2 nd2 wt2 ws2 com2 met2 ra ry ⟨rfl, c1, c2, c3, c4, c5, c6, c7⟩
    refine ⟨fun z => nx (by omega) ⟨_, ?_, rfl, by omega, c3, c4, fun e => ?_, fun e => ?_, c7⟩, fun z => ?_⟩
    · omega
    · have := c6 e; omega
    · obtain ⟨e1, e2⟩ := c5 e
      subst e1
      intro p q2 hp2 hq2 hpq sp sq hsub ⟨v, hv⟩ d hd hu hna
      have hs : ∀ d ∈ NB w h sh p, f2 d = 0 → d ∈ NB w h sh q2 := fun d hd e => by
        have dc := nb_cell hd
        exact hsub d hd (c4.1.unk dc.1 dc.2 e) (fun y => y.2.2 e)
      have dc := nb_cell hd
      refine ⟨dc, hu, fun fd => ?_⟩
      by_cases ep : 0 < En w h sh f2 p
      · refine e2 p hp2.1 (by omega) sp ep q2 hq2.1 hq2.2 sq (fun y => hpq y.symm) ⟨hs, ⟨v, fun x hx fx nx2 => ?_⟩, d, hd, fd, hna⟩
        have xc := nb_cell hx
        exact hv x hx (c4.1.unk xc.1 xc.2 fx) (fun y => y.2.2 fx) nx2
      · have e0 : En w h sh f2 p = 0 := by have := En_b (f := f2) ok hp2; omega
        have none := En_zero.mp e0
        have := c4.C1 q2 hq2.1 hq2.2 sq ⟨v, fun x hx ux nx2 => ?_⟩ d hd hu
        · exact this.2.2 fd
        · have xc := nb_cell hx
          have fx : f2 x = 0 := Classical.byContradiction (fun y => nx2 ⟨xc, ux, y⟩)
          exact hv x hx ux nx2 (fun y => none x y fx)
    · have hy : 0 ≤ y ∧ y < w * h := ⟨c1, by omega⟩
      have next : ∀ (a' wc3 mc3 : Int) (f3 oe3 nd3 wt3 ws3 com3 met3 : Int → Int), (a' = 0 ∨ a' = 1) → RS1 w h sh mined st wc3 f3 oe3 nd3 wt3 ws3 com3 → (a' = 0 → a = 0 ∧ f3 = f2 ∧ (st y = 2 → 0 < En w h sh f2 y → ∀ d, 0 ≤ d → d < w * h → st d = 2 → d ≠ y → No2 w h sh mined f2 y d)) → (a' = 1 → Zf (w * h) f3 < Zf (w * h) f') → (∀ S, C1 w h sh mined st S → C2 w h sh mined st S → (∀ d, Kf (w * h) st f d → S d) → ∀ d, Kf (w * h) st f3 d → S d) → ∃ m : Nat, m < (w * h - y).toNat ∧ (m = (w * h - (y + 1)).toNat ∧ 0 ≤ y + 1 ∧ y + 1 ≤ w * h ∧ (a' = 0 ∨ a' = 1) ∧ RS1 w h sh mined st wc3 f3 oe3 nd3 wt3 ws3 com3 ∧ (a' = 0 → f3 = f' ∧ ∀ c, 0 ≤ c → c < y + 1 → st c = 2 → 0 < En w h sh f' c → ∀ d, 0 ≤ d → d < w * h → st d = 2 → d ≠ c → No2 w h sh mined f' c d) ∧ (a' = 1 → Zf (w * h) f3 < Zf (w * h) f') ∧ (∀ S, C1 w h sh mined st S → C2 w h sh mined st S → (∀ d, Kf (w * h) st f d → S d) → ∀ d, Kf (w * h) st f3 d → S d)) := by
        intro a' wc3 mc3 f3 oe3 nd3 wt3 ws3 com3 met3 k1 k2 k3 k4 k5
        refine ⟨_, ?_, rfl, by omega, by omega, k1, k2, fun e => ?_, k4, k5⟩
        · omega
        · obtain ⟨e1, e2, e3⟩ := k3 e
          obtain ⟨e4, e5⟩ := c5 e1
          subst e4
          refine ⟨e2, fun c h0 h1 => ?_⟩
          by_cases ec : c = y
          · rw [ec]; exact e3
          · exact e5 c h0 (by omega)
      obtain ⟨r1, r2, r3, r4, r5⟩ := id c4
      have oy := (r1.2 y hy.1 hy.2).1
      refine s_isTelling (by omega) (fun hh _ => exJ10i ⟨fun z2 => absurd z2 (by omega), fun _ => ?_⟩) (fun hh _ => exJ10i ⟨fun _ _ => nx (by omega) (next a wc2 mc2 f2 oe2 nd2 wt2 ws2 com2 met2 c3 c4 (fun e => ⟨e, rfl, fun sy ey => absurd ⟨sy, by omega⟩ hh⟩) c6 c7), fun z2 => absurd rfl z2⟩)
      subst r2
      refine s_findBeyond ok g hm r1 r3 r4 hy hh.1 (by omega) r5 (fun mc3 com3 met3 k1 k2 _ => ⟨fun _ _ => nx (by omega) (next a 0 mc3 f2 oe2 nd2 wt2 ws2 com3 met3 c3 ⟨r1, rfl, r3, r4, k1⟩ (fun e => ⟨e, rfl, fun _ _ => k2⟩) c6 c7), fun z2 => absurd rfl z2⟩) (fun wc3 mc3 f3 oe3 nd3 wt3 ws3 com3 met3 k1 k2 k3 k4 k5 k6 _ => ⟨fun z2 => absurd z2 (by omega), fun _ => ?_⟩)
      refine s_findBySingles ok g hm k2 k3 k4 (fun f4 oe4 nd4 wt4 ws4 j1 j2 j3 j4 j5 _ => nx (by omega) (next 1 0 mc3 f4 oe4 nd4 wt4 ws4 com3 met3 (Or.inr rfl) ⟨j1, rfl, j2, j3, k1⟩ (fun e => absurd e (by omega)) (fun _ => ?_) (fun S s1 s2 s3 => j5 S s1 (k6 S s1 s2 (c7 S s1 s2 s3)))))
      rcases c3 with e | e
      · rw [(c5 e).1] at k5; omega
      · have := c6 e; omega
