/-! opening: the class's whole method, and the reference's -/
noncomputable abbrev Num (w h sh : Int) (mine : Int → Int) (c : Int) : Int := sumL (NB w h sh c) mine
theorem s_uncover {w h sh cell ch : Int} {mined number st ci un hi cd wt near nearEnd : Int → Int} {post : Int → (Int → Int) → (Int → Int) → (Int → Int) → (Int → Int) → (Int → Int) → (Int → Int) → Prop} (ok : okB w h sh) (g : GeoD w h sh near nearEnd) (d : DSt w h sh st ci un hi) (hc : 0 ≤ cell ∧ cell < w * h) (hu : st cell ≤ 1) (hch : 0 ≤ ch ∧ ch ≤ 511 + kn (w * h) st) (hm : mined cell = 0 ∨ mined cell = 1) (hnum : ∀ c, 0 ≤ c → c < w * h → number c = 0 → ∀ d ∈ NB w h sh c, mined d = 0)
    (hp : ∀ (k : Int) (st' ci' un' hi' cd' wt' : Int → Int), DSt w h sh st' ci' un' hi' → 1 ≤ k → k = kn (w * h) st' - kn (w * h) st → (∀ j, j < ch → cd' j = cd j) → back cd' ch k.toNat st' = st → (∀ i, ch ≤ i → i < ch + k → 0 ≤ cd' i ∧ cd' i < 4 * (w * h)) → ((mined cell = 1 ∧ st' = upZ st cell 3) ∨ (mined cell = 0 ∧ FloodR w h sh mined number st cell st')) → post (ch + k) st' ci' un' hi' cd' wt') : P_X2_uncover post ch mined number st ci un hi cd wt near nearEnd cell := by
  have hle := wh_le ok
  have hge := wh_ge ok
  have k1 := kn_lt hc hu
  have k2 := kn_b (n := w * h) (st := st) (by omega)
  have hs := d.1 cell hc.1 hc.2
  unfold P_X2_uncover
  refine ⟨by omega, fun v ev rv => ⟨fun q => ?_, fun q => ?_⟩⟩
  · refine s_change ok g d hc (by omega) (by omega) (fun ci1 un1 hi1 ds wt1 ew => ?_)
    have hb : back (upZ cd ch (cell * 4 + st cell)) ch 1 (upZ st cell 2) = st := by
      have := back_more (cd := cd) (lo := ch) (k := 0) (next := 2) (st := st) (c := cell) hs
      rw [show ch + ((0 : Nat) : Int) = ch by omega] at this
      exact this
    have hk : kn (w * h) (upZ st cell 2) = kn (w * h) st + 1 := by
      rw [kn_up hc, show iU (st cell) = 1 from if_pos hu, show iU 2 = 0 from if_neg (by omega)]; omega
    have b0 : BF w h sh mined number cell ch st cd 1 (ch + 1) (upZ st cell 2) ci1 un1 hi1 (upZ cd ch (cell * 4 + st cell)) wt1 := by
      refine ⟨ds, rfl, fun j hj => upZ_n _ _ (by omega), hb, by omega, by omega, ?_, ?_, ?_, upZ_s _ _ _, ?_, fun i h0 h1 => by rw [show i = ch by omega, upZ_s]; omega⟩
      · intro c h0 h1
        by_cases ec : c = cell
        · subst ec; rw [upZ_s]; exact Or.inr ⟨hu, rfl, by omega⟩
        · exact Or.inl (upZ_n _ _ ec)
      · intro j h0 h1
        have : j = 0 := by omega
        subst this
        rw [ew, upZ_s, upZ_s]
        exact ⟨hc.1, hc.2, rfl⟩
      · intro c h0 h1 hne
        by_cases ec : c = cell
        · subst ec; exact ⟨0, by omega, by omega, by rw [ew, upZ_s]⟩
        · exact absurd (upZ_n _ _ ec) hne
      · intro S s1 s2 j h0 h1
        have : j = 0 := by omega
        subst this
        rw [ew, upZ_s]; exact s1
    refine ⟨fun n e i ch' st' ci' un' hi' cd' wt' => n = (144 - i).toNat ∧ 0 ≤ i ∧ i ≤ e ∧ e ≤ 144 ∧ BF w h sh mined number cell ch st cd e ch' st' ci' un' hi' cd' wt' ∧ (∀ j, 0 ≤ j → j < i → number (wt' j) = 0 → ∀ d ∈ NB w h sh (wt' j), ¬ st' d ≤ 1), ⟨_, rfl, by omega, by omega, by omega, b0, fun j h0 h1 => by omega⟩, ?_⟩
    rintro n e i ch' st' ci' un' hi' cd' wt' re ri ⟨rfl, b1, b2, b3, b4, b5⟩
    have fin : e ≤ i → post ch' st' ci' un' hi' cd' wt' := by
      intro hei
      obtain ⟨c1, c2, c3, c4, c5, c6, c7, c8, c9, c10, c11, c12⟩ := b4
      rw [c2]
      refine hp e st' ci' un' hi' cd' wt' c1 c5 c6 c3 c4 (fun i h0 h1 => c12 i h0 (by omega)) (Or.inr ⟨by omega, c7, c10, ?_, ?_⟩)
      · intro c h0 h1 hne hz dd hdd
        have : st' c ≠ st c := by
          rcases hne with hne | hne
          · exact hne
          · subst hne; omega
        obtain ⟨j, j0, j1, j2⟩ := c9 c h0 h1 this
        rw [← j2] at hz hdd
        exact b5 j j0 (by omega) hz dd hdd
      · intro S s1 s2 c h0 h1 hne
        obtain ⟨j, j0, j1, j2⟩ := c9 c h0 h1 hne
        rw [← j2]
        exact c11 S s1 s2 j j0 j1
    refine ⟨fun z => fin z, fun z => ⟨fun z2 => fin (by omega), fun z2 => ?_⟩⟩
    obtain ⟨p1, p2, p3⟩ := b4.2.2.2.2.2.2.2.1 i b1 (by omega)
    have next : ∀ (e2 ch2 : Int) (st2 ci2 un2 hi2 cd2 wt2 : Int → Int), BF w h sh mined number cell ch st cd e2 ch2 st2 ci2 un2 hi2 cd2 wt2 → e ≤ e2 → (∀ j, j < e → wt2 j = wt' j) → (∀ c, 0 ≤ c → c < w * h → ¬ st' c ≤ 1 → ¬ st2 c ≤ 1) → (number (wt' i) = 0 → ∀ d ∈ NB w h sh (wt' i), ¬ st2 d ≤ 1) → (inR (i + 1) ∧ ∀ x3_42 : Int, x3_42 = i + 1 → ∃ n_43 : Nat, n_43 < (144 - i).toNat ∧ (n_43 = (144 - x3_42).toNat ∧ 0 ≤ x3_42 ∧ x3_42 ≤ e2 ∧ e2 ≤ 144 ∧ BF w h sh mined number cell ch st cd e2 ch2 st2 ci2 un2 hi2 cd2 wt2 ∧ (∀ j, 0 ≤ j → j < x3_42 → number (wt2 j) = 0 → ∀ d ∈ NB w h sh (wt2 j), ¬ st2 d ≤ 1))) := by
      intro e2 ch2 st2 ci2 un2 hi2 cd2 wt2 q1 q2 q3 q4 q5
      refine ⟨by omega, fun y ey => ⟨(144 - y).toNat, by omega, rfl, by omega, by omega, ?_, q1, ?_⟩⟩
      · have := q1.2.2.2.2.2.1
        have := kn_b (n := w * h) (st := st2) (by omega)
        omega
      · intro j j0 j1 hz dd hdd
        rw [q3 j (by omega)] at hz hdd
        by_cases ej : j = i
        · subst ej; exact q5 hz dd hdd
        · have := nb_cell hdd
          exact q4 dd this.1 this.2 (b5 j j0 (by omega) hz dd hdd)
    refine ⟨by omega, fun v2 ev2 rv2 => ?_⟩
    subst ev2
    refine ⟨by omega, fun v3 ev3 rv3 => exJ8i ⟨fun z3 _ => next _ _ _ _ _ _ _ _ b4 (by omega) (fun _ _ => rfl) (fun _ _ _ q => q) (fun z4 => absurd (by rw [ev3]; exact z4) z3), fun z3 => ⟨by omega, fun v4 ev4 rv4 => ?_⟩⟩⟩
    subst ev4
    rw [ev3] at z3
    exact s_usa ok g b4 ⟨b1, by omega⟩ z3 (hnum _ p1 p2 z3) hch (fun e2 ch2 st2 ci2 un2 hi2 cd2 wt2 q1 q2 q3 q4 q5 _ _ => next e2 ch2 st2 ci2 un2 hi2 cd2 wt2 q1 q2 q3 q4 (fun _ => q5))
  · refine s_change ok g d hc (by omega) (by omega) (fun ci1 un1 hi1 ds => ?_)
    refine hp 1 _ _ _ _ _ _ ds (by omega) ?_ (fun j hj => upZ_n _ _ (by omega)) ?_ ?_ (Or.inl ⟨by omega, rfl⟩)
    · rw [kn_up hc, show iU (st cell) = 1 from if_pos hu, show iU 3 = 0 from if_neg (by omega)]; omega
    · have := back_more (cd := cd) (lo := ch) (k := 0) (next := 3) (st := st) (c := cell) hs
      rw [show ch + ((0 : Nat) : Int) = ch by omega] at this
      exact this
    · intro i h0 h1
      rw [show i = ch by omega, upZ_s]; omega
/-! the reference: its codes for states, its counts -/
abbrev tr (s : Int) : Int := if s = 1 then 2 else if s = 2 then 1 else s
theorem tr_tr (s : Int) : tr (tr s) = s := by unfold tr; split <;> split <;> (try split) <;> omega
theorem tr_up {M : Int → Int} {d v : Int} : (fun c => tr (upZ M d v c)) = upZ (fun c => tr (M c)) d (tr v) := by
  funext c
  by_cases e : c = d
  · subst e; rw [upZ_s, upZ_s]
  · rw [upZ_n _ _ e, upZ_n _ _ e]
theorem rowM_at {w h sh a k : Int} {near degree : Int → Int} (g : GeoM w h sh near degree) (ha : 0 ≤ a ∧ a < w * h) (h1 : 0 ≤ k) (h2 : k < degree a) : near (8 * a + k) ∈ NB w h sh a ∧ (NB w h sh a).take (k.toNat + 1) = (NB w h sh a).take k.toNat ++ [near (8 * a + k)] := by
  obtain ⟨g1, g2⟩ := g a ha.1 ha.2
  have hk : k.toNat < (NB w h sh a).length := by omega
  have e : (NB w h sh a)[k.toNat]? = some (near (8 * a + k)) := by
    have := seg_get (f := near) (b := 8 * a) hk
    rw [g2, show 8 * a + ((k.toNat : Nat) : Int) = 8 * a + k by omega] at this
    exact this
  refine ⟨List.mem_of_getElem? e, ?_⟩
  rw [List.take_add_one, e]
  rfl
theorem rowM_end {w h sh a k : Int} {near degree : Int → Int} (g : GeoM w h sh near degree) (ha : 0 ≤ a ∧ a < w * h) (h2 : degree a ≤ k) : (NB w h sh a).take k.toNat = NB w h sh a := by
  obtain ⟨g1, g2⟩ := g a ha.1 ha.2
  exact List.take_of_length_le (by omega)
/-- a count over a row of neighbours -/
theorem take_b {w h sh a : Int} {f : Int → Int} {k : Nat} (ok : okB w h sh) (ha : 0 ≤ a ∧ a < w * h) (hf : ∀ x ∈ NB w h sh a, 0 ≤ f x ∧ f x ≤ 1) : 0 ≤ sumL ((NB w h sh a).take k) f ∧ sumL ((NB w h sh a).take k) f ≤ 8 := by
  have h1 := sumL_bound (l := (NB w h sh a).take k) (f := f) (fun x hx => hf x (List.mem_of_mem_take hx))
  have h2 := NB_len ok ha
  have h3 : ((NB w h sh a).take k).length ≤ (NB w h sh a).length := List.length_take_le' _ _
  omega
theorem s_numberOf {w h sh c : Int} {near degree mine : Int → Int} {post : Int → Prop} (ok : okB w h sh) (g : GeoM w h sh near degree) (hc : 0 ≤ c ∧ c < w * h) (hm : ∀ c, 0 ≤ c → c < w * h → mine c = 0 ∨ mine c = 1) (hp : post (Num w h sh mine c)) : P_X12_numberOf post near degree mine c := by
  have hle := wh_le ok
  have hl := NB_len ok hc
  have ge := (g c hc.1 hc.2).1
  have hf : ∀ x ∈ NB w h sh c, 0 ≤ mine x ∧ mine x ≤ 1 := fun x hx => by
    have := nb_cell hx
    rcases hm x this.1 this.2 with e | e <;> omega
  unfold P_X12_numberOf
  refine ⟨fun n s k => n = (degree c - k).toNat ∧ 0 ≤ k ∧ k ≤ degree c ∧ s = sumL ((NB w h sh c).take k.toNat) mine, ⟨_, rfl, by omega, by omega, rfl⟩, ?_⟩
  rintro n s k rs rk ⟨rfl, b1, b2, b3⟩
  refine ⟨by omega, fun v ev rv => ⟨fun q => ?_, fun q => ?_⟩⟩
  · rw [rowM_end g hc (by omega)] at b3
    rw [b3]; exact hp
  · obtain ⟨m, t⟩ := rowM_at g hc b1 (by omega)
    have mc := nb_cell m
    have tb := take_b (k := k.toNat) ok hc hf
    refine ⟨by omega, fun v2 ev2 rv2 => ?_⟩
    subst ev2
    refine ⟨by omega, fun v3 ev3 rv3 => ⟨fun z => z = v3, ⟨fun z => z.symm, fun z => by omega⟩, fun z rz ez => ⟨by omega, fun s2 es2 => ⟨by omega, fun k2 ek2 => ⟨(degree c - k2).toNat, by omega, rfl, by omega, by omega, ?_⟩⟩⟩⟩⟩
    rw [show k2.toNat = k.toNat + 1 by omega, t, sumL_snoc, es2, b3, ez, ev3]
theorem s_isUnknownM {post : Int → Prop} {M : Int → Int} {c : Int} (hc : 0 ≤ c ∧ c < 144) (hs : 0 ≤ M c ∧ M c ≤ 3) (h1 : tr (M c) ≤ 1 → post 1) (h0 : ¬ tr (M c) ≤ 1 → post 0) : P_X12_isUnknown post M c := by
  have e1 : M c = 0 ∨ M c = 2 → tr (M c) ≤ 1 := by rintro (e | e) <;> rw [e] <;> decide
  have e0 : ¬ (M c = 0 ∨ M c = 2) → ¬ tr (M c) ≤ 1 := by
    intro q
    rcases (show M c = 1 ∨ M c = 3 by omega) with e | e <;> rw [e] <;> decide
  unfold P_X12_isUnknown
  refine ⟨hc, fun v ev rv => exJi ⟨(M c = 0 ∨ M c = 2), ⟨fun z => Or.inl (by omega), fun z => ⟨hc, fun v2 ev2 rv2 => ⟨fun z2 _ => ⟨by omega, h0 (e0 (by omega))⟩, fun z2 => Or.inr (by omega)⟩⟩⟩, fun z _ => ⟨by omega, h1 (e1 z)⟩⟩⟩
