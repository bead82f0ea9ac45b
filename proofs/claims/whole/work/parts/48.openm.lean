/-! opening in the reference: sweeps until nothing changes -/
theorem exJ2i {β : Type} {p : Int → β → Prop} {A : (Int → β → Prop) → Prop} (h : A (fun x y => inR x → p x y)) : ∃ J : Int → β → Prop, A J ∧ ∀ (x : Int) (y : β), inR x → J x y → p x y := ⟨_, h, fun _ _ r k => k r⟩
/-- what holds while the reference opens: M is its row of states, st0 the states before (in the class's codes) -/
def IC (w h sh : Int) (mine st0 : Int → Int) (cell : Int) (M : Int → Int) : Prop :=
  (∀ c, 0 ≤ c → c < w * h → 0 ≤ M c ∧ M c ≤ 3) ∧ (∀ c, 0 ≤ c → c < w * h → tr (M c) = st0 c ∨ (st0 c ≤ 1 ∧ tr (M c) = 2 ∧ mine c = 0)) ∧ tr (M cell) = 2 ∧
  (∀ S : Int → Prop, S cell → (∀ c d, S c → Num w h sh mine c = 0 → d ∈ NB w h sh c → st0 d ≤ 1 → mine d = 0 → S d) → ∀ c, 0 ≤ c → c < w * h → tr (M c) ≠ st0 c → S c)
def clAt (w h sh : Int) (mine M : Int → Int) (c : Int) : Prop := tr (M c) = 2 → Num w h sh mine c = 0 → ∀ d ∈ NB w h sh c, ¬ tr (M d) ≤ 1
theorem IC.more {w h sh cell c d : Int} {mine st0 M : Int → Int} (i : IC w h sh mine st0 cell M) (hc : 0 ≤ c ∧ c < w * h) (ho : tr (M c) = 2) (hz : Num w h sh mine c = 0) (hd : d ∈ NB w h sh c) (hu : tr (M d) ≤ 1) (hm : mine d = 0) (Z : ∀ c, 0 ≤ c → c < w * h → st0 c = 2 → Num w h sh mine c = 0 → ∀ d ∈ NB w h sh c, ¬ st0 d ≤ 1) : IC w h sh mine st0 cell (upZ M d 1) := by
  obtain ⟨i1, i2, i3, i4⟩ := i
  have dc := nb_cell hd
  have es : tr (M d) = st0 d := by
    rcases i2 d dc.1 dc.2 with q | q
    · exact q
    · omega
  have hc2 : tr (M c) ≠ st0 c := fun q => Z c hc.1 hc.2 (by omega) hz d hd (by omega)
  refine ⟨fun x h0 h1 => ?_, fun x h0 h1 => ?_, ?_, fun S s1 s2 x h0 h1 hne => ?_⟩
  · by_cases e : x = d
    · subst e; rw [upZ_s]; omega
    · rw [upZ_n _ _ e]; exact i1 x h0 h1
  · by_cases e : x = d
    · subst e; rw [upZ_s]; exact Or.inr ⟨by omega, rfl, hm⟩
    · rw [upZ_n _ _ e]; exact i2 x h0 h1
  · by_cases e : cell = d
    · rw [e, upZ_s]; rfl
    · rw [upZ_n _ _ e]; exact i3
  · by_cases e : x = d
    · subst e
      exact s2 c x (i4 S s1 s2 c hc.1 hc.2 hc2) hz hd (by omega) hm
    · rw [upZ_n _ _ e] at hne
      exact i4 S s1 s2 x h0 h1 hne
theorem num_zero {w h sh c : Int} {mine : Int → Int} (hm : ∀ c, 0 ≤ c → c < w * h → mine c = 0 ∨ mine c = 1) (hz : Num w h sh mine c = 0) : ∀ d ∈ NB w h sh c, mine d = 0 := by
  have key : ∀ l : List Int, (∀ x ∈ l, mine x = 0 ∨ mine x = 1) → sumL l mine = 0 → ∀ d ∈ l, mine d = 0 := by
    intro l
    induction l with
    | nil => intro _ _ d hd; cases hd
    | cons a l ih =>
      intro h1 h2 d hd
      rw [sumL_cons] at h2
      have b := (sumL_bound (l := l) (f := mine) (fun x hx => by rcases h1 x (List.mem_cons_of_mem _ hx) with e | e <;> omega)).1
      have a0 := h1 a List.mem_cons_self
      rcases List.mem_cons.mp hd with rfl | hd
      · omega
      · exact ih (fun x hx => h1 x (List.mem_cons_of_mem _ hx)) (by omega) d hd
  exact key _ (fun x hx => by have := nb_cell hx; exact hm x this.1 this.2) hz
theorem s_uncoverM {w h sh cell lives : Int} {near degree mine M : Int → Int} {post : Int → (Int → Int) → Prop} (ok : okB w h sh) (g : GeoM w h sh near degree) (hc : 0 ≤ cell ∧ cell < w * h) (hm : ∀ c, 0 ≤ c → c < w * h → mine c = 0 ∨ mine c = 1) (hs : ∀ c, 0 ≤ c → c < w * h → 0 ≤ M c ∧ M c ≤ 3) (hu : tr (M cell) ≤ 1) (hlv : -1000 ≤ lives ∧ lives ≤ 1000) (Z : ∀ c, 0 ≤ c → c < w * h → tr (M c) = 2 → Num w h sh mine c = 0 → ∀ d ∈ NB w h sh c, ¬ tr (M d) ≤ 1)
    (hp : ∀ (lives' : Int) (M' : Int → Int), (∀ c, 0 ≤ c → c < w * h → 0 ≤ M' c ∧ M' c ≤ 3) → ((mine cell = 1 ∧ lives' = lives - 1 ∧ (fun c => tr (M' c)) = upZ (fun c => tr (M c)) cell 3) ∨ (mine cell = 0 ∧ lives' = lives ∧ FloodR w h sh mine (Num w h sh mine) (fun c => tr (M c)) cell (fun c => tr (M' c)))) → post lives' M') : P_X12_uncover post (w * h) lives near degree mine M cell := by
  have hle := wh_le ok
  have hge := wh_ge ok
  unfold P_X12_uncover
  refine ⟨by omega, fun v ev rv => ⟨fun q => ⟨by omega, fun M1 e1 => ?_⟩, fun q => ⟨by omega, fun M1 e1 => ⟨by omega, fun l2 el2 => ?_⟩⟩⟩⟩
  · have i0 : IC w h sh mine (fun c => tr (M c)) cell M1 := by
      refine ⟨fun x h0 h1 => ?_, fun x h0 h1 => ?_, ?_, fun S s1 s2 x h0 h1 hne => ?_⟩
      · by_cases e : x = cell
        · subst e; rw [e1, upZ_s]; omega
        · rw [e1, upZ_n _ _ e]; exact hs x h0 h1
      · by_cases e : x = cell
        · subst e; rw [e1, upZ_s]; exact Or.inr ⟨hu, rfl, by omega⟩
        · rw [e1, upZ_n _ _ e]; exact Or.inl rfl
      · rw [e1, upZ_s]; rfl
      · by_cases e : x = cell
        · subst e; exact s1
        · rw [e1, upZ_n _ _ e] at hne; exact absurd rfl hne
    have knb : ∀ M : Int → Int, 0 ≤ kn (w * h) (fun c => tr (M c)) ∧ kn (w * h) (fun c => tr (M c)) ≤ w * h := fun M => kn_b (by omega)
    refine ⟨fun n x2 M' => (x2 = 0 ∨ x2 = 1) ∧ IC w h sh mine (fun c => tr (M c)) cell M' ∧ (x2 = 0 → ∀ c, 0 ≤ c → c < w * h → clAt w h sh mine M' c) ∧ n = (if x2 = 0 then 0 else (w * h - kn (w * h) (fun c => tr (M' c))).toNat + 1), ⟨_, Or.inr rfl, i0, fun z => absurd z (by omega), rfl⟩, ?_⟩
    rintro n x2 M' rx ⟨b1, b2, b3, b4⟩
    refine ⟨fun z => ?_, fun z => ?_⟩
    · refine hp lives M' b2.1 (Or.inr ⟨by omega, rfl, b2.2.1, b2.2.2.1, ?_, b2.2.2.2⟩)
      intro c h0 h1 hne hz dd hdd
      refine b3 z c h0 h1 ?_ hz dd hdd
      rcases hne with hne | hne
      · rcases b2.2.1 c h0 h1 with q2 | q2
        · exact absurd q2 hne
        · exact q2.2.1
      · rw [hne]; exact b2.2.2.1
    · rw [if_neg z] at b4
      refine ⟨fun m x2' x3 M2 => m = (w * h - x3).toNat ∧ 0 ≤ x3 ∧ x3 ≤ w * h ∧ (x2' = 0 ∨ x2' = 1) ∧ IC w h sh mine (fun c => tr (M c)) cell M2 ∧ (x2' = 0 → M2 = M' ∧ ∀ c, 0 ≤ c → c < x3 → clAt w h sh mine M2 c) ∧ (x2' = 1 → kn (w * h) (fun c => tr (M' c)) < kn (w * h) (fun c => tr (M2 c))), ⟨_, rfl, by omega, by omega, Or.inl rfl, b2, fun _ => ⟨rfl, fun c h0 h1 => by omega⟩, fun z => absurd z (by omega)⟩, ?_⟩
      rintro m x2' x3 M2 rx2 rx3 ⟨rfl, c1, c2, c3, c4, c5, c6⟩
      refine ⟨fun z3 => ?_, fun z3 => ?_⟩
      · refine ⟨if x2' = 0 then 0 else (w * h - kn (w * h) (fun c => tr (M2 c))).toNat + 1, ?_, c3, c4, fun z4 c h0 h1 => (c5 z4).2 c h0 (by omega), rfl⟩
        have := knb M2
        have := knb M'
        rcases c3 with e | e
        · rw [if_pos e]; omega
        · rw [if_neg (by omega)]
          have := c6 e
          omega
      · have hc3 : 0 ≤ x3 ∧ x3 < w * h := ⟨c1, by omega⟩
        have hl := NB_len ok hc3
        have ge := (g x3 hc3.1 hc3.2).1
        refine ⟨fun m x2'' x4 M3 => m = (degree x3 - x4).toNat ∧ 0 ≤ x4 ∧ x4 ≤ degree x3 ∧ (x2'' = 0 ∨ x2'' = 1) ∧ IC w h sh mine (fun c => tr (M c)) cell M3 ∧ (x2'' = 0 → M3 = M' ∧ (∀ c, 0 ≤ c → c < x3 → clAt w h sh mine M3 c) ∧ ∀ d ∈ (NB w h sh x3).take x4.toNat, tr (M3 x3) = 2 → Num w h sh mine x3 = 0 → ¬ tr (M3 d) ≤ 1) ∧ (x2'' = 1 → kn (w * h) (fun c => tr (M' c)) < kn (w * h) (fun c => tr (M3 c))), ⟨_, rfl, by omega, by omega, c3, c4, fun z => ⟨(c5 z).1, (c5 z).2, fun d hd => by simp at hd⟩, c6⟩, ?_⟩
        rintro m x2'' x4 M3 rx2 rx4 ⟨rfl, d1, d2, d3, d4, d5, d6⟩
        have m3 := d4.1 x3 hc3.1 hc3.2
        refine ⟨by omega, fun v2 ev2 rv2 => ⟨(x2'' = 0 → clAt w h sh mine M3 x3), ⟨fun z4 z5 => ?_, fun z4 => ⟨by omega, fun v3 ev3 rv3 => ⟨fun z5 z6 z7 => ?_, fun z5 => ?_⟩⟩⟩, fun hJ => ⟨by omega, fun y ey => ⟨(w * h - y).toNat, by omega, rfl, by omega, by omega, d3, d4, fun z4 => ⟨(d5 z4).1, fun c h0 h1 => ?_⟩, d6⟩⟩⟩⟩
        · have := (d5 z5).2.2
          rw [rowM_end g hc3 (by omega)] at this
          exact fun o1 o2 d hd => this d hd o1 o2
        · exfalso
          rw [← ev3] at z7
          rcases (show v3 = 0 ∨ v3 = 2 ∨ v3 = 3 by omega) with e | e | e <;> rw [e] at z7 <;> revert z7 <;> decide
        · have ho : tr (M3 x3) = 2 := by rw [← ev3, z5]; rfl
          refine s_numberOf ok g hc3 hm (fun _ => ⟨fun z6 z7 o1 o2 => absurd o2 z6, fun hz => ?_⟩)
          obtain ⟨mm, t⟩ := rowM_at g hc3 d1 (by omega)
          have mc := nb_cell mm
          have mz := num_zero hm hz _ mm
          have next : ∀ (x2n : Int) (M4 : Int → Int), (x2n = 0 ∨ x2n = 1) → IC w h sh mine (fun c => tr (M c)) cell M4 → (x2n = 0 → M4 = M3 ∧ x2'' = 0 ∧ ¬ tr (M4 (near (8 * x3 + x4))) ≤ 1) → (x2n = 1 → kn (w * h) (fun c => tr (M' c)) < kn (w * h) (fun c => tr (M4 c))) → (inR (x4 + 1) ∧ ∀ x4_54 : Int, x4_54 = x4 + 1 → ∃ n_55 : Nat, n_55 < (degree x3 - x4).toNat ∧ (n_55 = (degree x3 - x4_54).toNat ∧ 0 ≤ x4_54 ∧ x4_54 ≤ degree x3 ∧ (x2n = 0 ∨ x2n = 1) ∧ IC w h sh mine (fun c => tr (M c)) cell M4 ∧ (x2n = 0 → M4 = M' ∧ (∀ c, 0 ≤ c → c < x3 → clAt w h sh mine M4 c) ∧ ∀ d ∈ (NB w h sh x3).take x4_54.toNat, tr (M4 x3) = 2 → Num w h sh mine x3 = 0 → ¬ tr (M4 d) ≤ 1) ∧ (x2n = 1 → kn (w * h) (fun c => tr (M' c)) < kn (w * h) (fun c => tr (M4 c))))) := by
            intro x2n M4 q1 q2 q3 q4
            refine ⟨by omega, fun y ey => ⟨(degree x3 - y).toNat, by omega, rfl, by omega, by omega, q1, q2, fun z8 => ?_, q4⟩⟩
            obtain ⟨r1, r2, r3⟩ := q3 z8
            subst r1
            obtain ⟨r4, r5, r6⟩ := d5 r2
            refine ⟨r4, r5, fun d hd o1 o2 => ?_⟩
            rw [show y.toNat = x4.toNat + 1 by omega, t] at hd
            rcases List.mem_append.mp hd with hd | hd
            · exact r6 d hd o1 o2
            · rw [List.mem_singleton.mp hd]; exact r3
          refine ⟨by omega, fun v4 ev4 rv4 => ?_⟩
          subst ev4
          refine s_isUnknownM (by omega) (d4.1 _ mc.1 mc.2) (fun hu2 _ => exJ2i ⟨fun z8 => absurd z8 (by omega), fun _ => ⟨by omega, fun v5 ev5 rv5 => ⟨fun z8 => absurd (by rw [ev5]; exact mz) z8, fun z8 => ⟨by omega, fun M4 e4 _ => ?_⟩⟩⟩⟩) (fun hu2 _ => exJ2i ⟨fun _ _ => next _ _ d3 d4 (fun z8 => ⟨rfl, z8, hu2⟩) d6, fun z8 => absurd rfl z8⟩)
          have ic := d4.more hc3 ho hz mm hu2 mz Z
          subst e4
          refine next 1 _ (Or.inr rfl) ic (fun z8 => absurd z8 (by omega)) (fun _ => ?_)
          rw [tr_up, kn_up mc, show iU (tr (M3 (near (8 * x3 + x4)))) = 1 from if_pos hu2, show iU (tr 1) = 0 from rfl]
          rcases d3 with e | e
          · rw [(d5 e).1]; omega
          · have := d6 e
            omega
        · by_cases ec : c = x3
          · subst ec; exact hJ z4
          · exact (d5 z4).2.1 c h0 (by omega)
  · refine hp l2 M1 ?_ (Or.inl ⟨by omega, by omega, ?_⟩)
    · intro x h0 h1
      by_cases e : x = cell
      · subst e; rw [e1, upZ_s]; omega
      · rw [e1, upZ_n _ _ e]; exact hs x h0 h1
    · rw [e1, tr_up]; rfl
