/-! blank on each side; chord on both -/
theorem s_canBe {post : Int → Prop} {w h sh : Int} (h1 : okB w h sh → post 1) (h0 : ¬ okB w h sh → post 0) : P_X12_canBe post w h sh := by
  unfold P_X12_canBe
  have e2 : -2 < h.tmod 2 ∧ h.tmod 2 < 2 := ⟨Int.lt_tmod_of_pos h (by omega), Int.tmod_lt_of_pos h (by omega)⟩
  by_cases hok : okB w h sh
  · have e : h.tmod 2 = h % 2 := Int.tmod_eq_emod_of_nonneg (by omega)
    refine s_within (fun q1 _ => exJi ⟨False, ⟨fun z => absurd z (by omega), fun _ => s_within (fun q2 _ => ⟨fun z => absurd z (by omega), fun _ => s_within (fun q3 _ => ⟨fun z => absurd z (by omega), fun _ => exJ0 ⟨fun _ _ => ⟨by omega, h1 hok⟩, fun z => ⟨by omega, fun z2 => ?_, fun z2 _ => ⟨by omega, h1 hok⟩⟩⟩⟩) (fun q3 => absurd (by omega) q3)⟩) (fun q2 => absurd (by omega) q2)⟩, fun z => z.elim⟩) (fun q1 => absurd (by omega) q1)
    rw [e] at z2
    exact absurd (hok.2.2.2.2.2.2 (by omega)) z2
  · refine s_within (fun q1 _ => exJi ⟨True, ⟨fun z => trivial, fun _ => s_within (fun q2 _ => ⟨fun z => trivial, fun _ => s_within (fun q3 _ => ⟨fun z => trivial, fun _ => exJ0 ⟨fun z _ => absurd ?_ hok, fun z => ⟨by omega, fun z2 => trivial, fun z2 _ => absurd ?_ hok⟩⟩⟩) (fun q3 _ => ⟨fun _ => trivial, fun z => absurd rfl z⟩)⟩) (fun q2 _ => ⟨fun _ => trivial, fun z => absurd rfl z⟩)⟩, fun _ _ => ⟨by omega, h0 hok⟩⟩) (fun q1 _ => exJi ⟨True, ⟨fun z => trivial, fun z => absurd rfl z⟩, fun _ _ => ⟨by omega, h0 hok⟩⟩)
    · exact ⟨q1.1, q1.2, q2.1, q2.2, q3.1, q3.2, fun e => by omega⟩
    · have e : h.tmod 2 = h % 2 := Int.tmod_eq_emod_of_nonneg (by omega)
      exact ⟨q1.1, q1.2, q2.1, q2.2, q3.1, q3.2, fun _ => by omega⟩
theorem LOG.start {w h sh : Int} {mined number st ms cd old : Int → Int} {H : Int → Int64} (hn : 0 ≤ w * h) (hz : ∀ c, 0 ≤ c → c < w * h → st c = 0) : LOG w h sh mined number 0 0 st ms cd H old := by
  have := kn_b (st := st) hn
  exact ⟨by omega, by omega, by omega, fun i _ _ => by omega, fun m _ _ => by omega, fun m m' _ _ _ => by omega, fun _ => rfl, fun _ => by omega, hz⟩
theorem hits_zero {n : Int} {st : Int → Int} (hz : ∀ c, 0 ≤ c → c < n → st c = 0) : hits n st = 0 := by
  unfold hits
  rw [sumL_const (k := 0) (fun x hx => by have := mem_cells.mp hx; simp only [hz x this.1 this.2]; rfl)]
  omega
theorem RB.start {w h sh bb mines : Int} {mined number st ci un hi ms cd near nearEnd mnear degree mine M old : Int → Int} {H : Int → Int64} (ok : okB w h sh) (gD : GeoD w h sh near nearEnd) (gM : GeoM w h sh mnear degree) (dm : DMi w h sh mined number mines) (em : Eqc (w * h) mine mined) (ds : DSt w h sh st ci un hi) (hz : ∀ c, 0 ≤ c → c < w * h → st c = 0) (hM : ∀ c, 0 ≤ c → c < w * h → M c = 0) : RB w h sh bb mines 0 0 mined number st ci un hi ms cd near nearEnd bb 3 0 mnear degree mine M H old := by
  have hge := wh_ge ok
  refine ⟨ok, gD, gM, dm, em, ds, fun c h0 h1 => by rw [hM c h0 h1, hz c h0 h1]; rfl, ⟨ds.1, fun c h0 h1 e => ?_, fun c h0 h1 e => ?_, fun c h0 h1 e => ?_⟩, by rw [hits_zero hz]; rfl, rfl, LOG.start (by omega) hz, rfl⟩
  · rw [hz c h0 h1] at e; omega
  · rw [hz c h0 h1] at e; omega
  · rw [hz c h0 h1] at e; omega
/-- openings of a list of cells, one behind another, each if it is closed then -/
def ChR (w h sh : Int) (mined number : Int → Int) : List Int → (Int → Int) → (Int → Int) → Prop
  | [], st, st' => Eqc (w * h) st' st
  | d :: l, st, st' => ∃ s1, ((st d = 0 ∧ UncR w h sh mined number st d s1) ∨ (¬ st d = 0 ∧ Eqc (w * h) s1 st)) ∧ ChR w h sh mined number l s1 st'
theorem ChR.snoc {w h sh d : Int} {mined number : Int → Int} {l : List Int} {st s s' : Int → Int} (q : ChR w h sh mined number l st s) (hs : (s d = 0 ∧ UncR w h sh mined number s d s') ∨ (¬ s d = 0 ∧ Eqc (w * h) s' s)) (hl : ∀ x ∈ l, 0 ≤ x ∧ x < w * h) (hd : 0 ≤ d ∧ d < w * h) : ChR w h sh mined number (l ++ [d]) st s' := by
  induction l generalizing st with
  | nil =>
    refine ⟨s', ?_, fun c _ _ => rfl⟩
    have e : Eqc (w * h) s st := q
    have ed := e d hd.1 hd.2
    rcases hs with ⟨h1, h2⟩ | ⟨h1, h2⟩
    · refine Or.inl ⟨by omega, ?_⟩
      rcases h2 with ⟨a, b⟩ | ⟨a, b⟩
      · refine Or.inl ⟨a, fun c c0 c1 => ?_⟩
        rw [b c c0 c1]
        by_cases ec : c = d
        · rw [ec, upZ_s, upZ_s]
        · rw [upZ_n _ _ ec, upZ_n _ _ ec]; exact e c c0 c1
      · exact Or.inr ⟨a, b.congr hd (fun _ _ _ => rfl) (fun _ _ _ => rfl) e⟩
    · exact Or.inr ⟨by omega, fun c c0 c1 => by rw [h2 c c0 c1, e c c0 c1]⟩
  | cons a l ih =>
    obtain ⟨s1, h1, h2⟩ := q
    exact ⟨s1, h1, ih h2 (fun x hx => hl x (List.mem_cons_of_mem _ hx))⟩
theorem ChR.uniq {w h sh : Int} {mined number mined2 number2 : Int → Int} (e1 : Eqc (w * h) mined mined2) (e2 : Eqc (w * h) number number2) (hm : ∀ c, 0 ≤ c → c < w * h → number2 c = 0 → ∀ d ∈ NB w h sh c, mined2 d = 0) : ∀ (l : List Int) (st st2 a b : Int → Int), (∀ x ∈ l, 0 ≤ x ∧ x < w * h) → Eqc (w * h) st st2 → ChR w h sh mined number l st a → ChR w h sh mined2 number2 l st2 b → Eqc (w * h) a b := by
  intro l
  induction l with
  | nil =>
    intro st st2 a b _ e qa qb c h0 h1
    rw [qa c h0 h1, qb c h0 h1]; exact e c h0 h1
  | cons d l ih =>
    intro st st2 a b hl e qa qb
    obtain ⟨s1, p1, p2⟩ := qa
    obtain ⟨s2, r1, r2⟩ := qb
    have hd := hl d List.mem_cons_self
    have ed := e d hd.1 hd.2
    refine ih s1 s2 a b (fun x hx => hl x (List.mem_cons_of_mem _ hx)) ?_ p2 r2
    rcases p1 with ⟨x1, x2⟩ | ⟨x1, x2⟩ <;> rcases r1 with ⟨y1, y2⟩ | ⟨y1, y2⟩
    · exact UncR.uniq hd e1 e2 e hm x2 y2
    · omega
    · omega
    · intro c h0 h1
      rw [x2 c h0 h1, y2 c h0 h1]; exact e c h0 h1
theorem exJ7 {α β γ δ ε ζ η : Type} {p : α → β → γ → δ → ε → ζ → η → Prop} {A : (α → β → γ → δ → ε → ζ → η → Prop) → Prop} (h : A p) : ∃ J : α → β → γ → δ → ε → ζ → η → Prop, A J ∧ ∀ (a : α) (b : β) (c : γ) (d : δ) (e : ε) (f : ζ) (g : η), J a b c d e f g → p a b c d e f g := ⟨_, h, fun _ _ _ _ _ _ _ k => k⟩
theorem s_uncoverAround {w h sh cell ch0 : Int} {mined number st0 ci0 un0 hi0 cd0 wt0 near nearEnd : Int → Int} {post : Int → (Int → Int) → (Int → Int) → (Int → Int) → (Int → Int) → (Int → Int) → (Int → Int) → Prop} (ok : okB w h sh) (g : GeoD w h sh near nearEnd) (ds : DSt w h sh st0 ci0 un0 hi0) (gs : GSt w h sh mined number st0) (hc : 0 ≤ cell ∧ cell < w * h) (hch : 0 ≤ ch0 ∧ ch0 ≤ 511 + kn (w * h) st0) (hm : ∀ c, 0 ≤ c → c < w * h → mined c = 0 ∨ mined c = 1) (hnum : ∀ c, 0 ≤ c → c < w * h → number c = 0 → ∀ d ∈ NB w h sh c, mined d = 0)
    (hp : ∀ (k : Int) (st ci un hi cd wt : Int → Int), DSt w h sh st ci un hi → GSt w h sh mined number st → 0 ≤ k → k = kn (w * h) st - kn (w * h) st0 → (∀ j, j < ch0 → cd j = cd0 j) → back cd ch0 k.toNat st = st0 → (∀ i, ch0 ≤ i → i < ch0 + k → 0 ≤ cd i ∧ cd i < 4 * (w * h)) → ChR w h sh mined number (NB w h sh cell) st0 st → post (ch0 + k) st ci un hi cd wt) : P_X2_uncoverAround post ch0 mined number st0 ci0 un0 hi0 cd0 wt0 near nearEnd cell := by
  have hle := wh_le ok
  have hge := wh_ge ok
  unfold P_X2_uncoverAround
  refine ⟨by omega, fun x0 ex0 => ?_⟩
  refine ⟨fun n x ch st ci un hi cd wt => n = (nearEnd cell - x).toNat ∧ 8 * cell ≤ x ∧ x ≤ nearEnd cell ∧ DSt w h sh st ci un hi ∧ GSt w h sh mined number st ∧ ch0 ≤ ch ∧ ch - ch0 = kn (w * h) st - kn (w * h) st0 ∧ (∀ j, j < ch0 → cd j = cd0 j) ∧ back cd ch0 (ch - ch0).toNat st = st0 ∧ (∀ i, ch0 ≤ i → i < ch → 0 ≤ cd i ∧ cd i < 4 * (w * h)) ∧ ChR w h sh mined number ((NB w h sh cell).take (x - 8 * cell).toNat) st0 st, ⟨_, rfl, by omega, by have := (g cell hc.1 hc.2).1; omega, ds, gs, by omega, by omega, fun _ _ => rfl, by rw [show (ch0 - ch0).toNat = 0 by omega]; rfl, fun i _ _ => by omega, by rw [ex0, show (cell * 8 - 8 * cell).toNat = 0 by omega]; exact fun _ _ _ => rfl⟩, ?_⟩
  rintro n x ch st ci un hi cd wt rx ⟨rfl, b1, b2, b3, b4, b5, b6, b7, b8, b9, b10⟩
  refine ⟨by omega, fun v ev rv => ⟨fun q => ?_, fun q => ?_⟩⟩
  · rw [row_end g hc (by omega)] at b10
    have := hp (ch - ch0) st ci un hi cd wt b3 b4 (by omega) b6 b7 b8 (fun i i0 i1 => b9 i i0 (by omega)) b10
    rw [show ch0 + (ch - ch0) = ch by omega] at this
    exact this
  · obtain ⟨m, t, nm⟩ := row_at g hc b1 (by omega)
    have mc := nb_cell m
    have hl := NB_len ok hc
    have ge := (g cell hc.1 hc.2).1
    have hsx := b3.1 _ mc.1 mc.2
    have inl : ∀ y ∈ (NB w h sh cell).take (x - 8 * cell).toNat, 0 ≤ y ∧ y < w * h := fun y hy => nb_cell (List.mem_of_mem_take hy)
    refine ⟨by omega, fun v2 ev2 rv2 => ?_⟩
    subst ev2
    refine ⟨by omega, fun v3 ev3 rv3 => exJ7 ⟨fun z => ⟨by omega, fun y ey => ⟨(nearEnd cell - y).toNat, by omega, rfl, by omega, by omega, b3, b4, b5, b6, b7, b8, b9, ?_⟩⟩, fun z => ⟨by omega, fun v4 ev4 rv4 => ?_⟩⟩⟩
    · rw [show (y - 8 * cell).toNat = (x - 8 * cell).toNat + 1 by omega, t]
      exact b10.snoc (Or.inr ⟨by omega, fun _ _ _ => rfl⟩) inl mc
    · subst ev4
      refine s_uncover ok g b3 mc (by omega) ⟨by omega, by omega⟩ (hm _ mc.1 mc.2) hnum (fun k st' ci' un' hi' cd' wt' ds' k1 k2 k3 k4 k5 k6 => ?_)
      have u : UncR w h sh mined number st (near x) st' := by
        rcases k6 with k6 | k6
        · exact Or.inl ⟨k6.1, fun y _ _ => by rw [k6.2]⟩
        · exact Or.inr k6
      refine ⟨by omega, fun y ey => ⟨(nearEnd cell - y).toNat, by omega, rfl, by omega, by omega, ds', (b4.unc mc (by omega) u).1, by omega, by omega, fun j hj => by rw [k3 j (by omega)]; exact b7 j hj, ?_, fun i i0 i1 => ?_, ?_⟩⟩
      · rw [show (ch + k - ch0).toNat = (ch - ch0).toNat + k.toNat by omega, back_add, show ch0 + (((ch - ch0).toNat : Nat) : Int) = ch by omega, k4, ← b8]
        exact back_congr (fun j _ hj => k3 j (by omega))
      · by_cases qi : i < ch
        · rw [k3 i qi]; exact b9 i i0 qi
        · exact k5 i (by omega) i1
      · rw [show (y - 8 * cell).toNat = (x - 8 * cell).toNat + 1 by omega, t]
        exact b10.snoc (Or.inl ⟨by omega, u⟩) inl mc
