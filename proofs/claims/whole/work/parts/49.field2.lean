/-! more of Field -/
theorem sumL_const {l : List Int} {f : Int → Int} {k : Int} (h : ∀ x ∈ l, f x = k) : sumL l f = k * l.length := by
  induction l with
  | nil => simp [sumL]
  | cons a l ih =>
    rw [sumL_cons, ih (fun x hx => h x (List.mem_cons_of_mem _ hx)), h a List.mem_cons_self, List.length_cons]
    have : k * ((l.length + 1 : Nat) : Int) = k * (l.length : Int) + k := by
      rw [Int.natCast_add, Int.mul_add]; simp
    omega
def DMi (w h sh : Int) (mined number : Int → Int) (mines : Int) : Prop :=
  (∀ c, 0 ≤ c → c < w * h → mined c = 0 ∨ mined c = 1) ∧ (∀ c, 0 ≤ c → c < w * h → number c = Num w h sh mined c) ∧ mines = sumL (cellsL (w * h)) mined
theorem DMi.num_b {w h sh c mines : Int} {mined number : Int → Int} (ok : okB w h sh) (d : DMi w h sh mined number mines) (h0 : 0 ≤ c) (h1 : c < w * h) : 0 ≤ number c ∧ number c ≤ 8 := by
  rw [d.2.1 c h0 h1]
  have := sumL_bound (l := NB w h sh c) (f := mined) (fun x hx => by have := nb_cell hx; rcases d.1 x this.1 this.2 with e | e <;> omega)
  have := NB_len ok (a := c) ⟨h0, h1⟩
  show 0 ≤ sumL (NB w h sh c) mined ∧ sumL (NB w h sh c) mined ≤ 8
  omega
theorem DMi.mines_b {w h sh mines : Int} {mined number : Int → Int} (ok : okB w h sh) (d : DMi w h sh mined number mines) : 0 ≤ mines ∧ mines ≤ w * h := by
  rw [d.2.2]
  have := sumL_bound (l := cellsL (w * h)) (f := mined) (fun x hx => by have := mem_cells.mp hx; rcases d.1 x this.1 this.2 with e | e <;> omega)
  have := cells_len (n := w * h) (by have := wh_ge ok; omega)
  omega
theorem DMi.zero {w h sh c mines : Int} {mined number : Int → Int} (d : DMi w h sh mined number mines) (h0 : 0 ≤ c) (h1 : c < w * h) (hz : number c = 0) : ∀ d ∈ NB w h sh c, mined d = 0 := num_zero d.1 (by rw [← d.2.1 c h0 h1]; exact hz)
theorem s_setMine {w h sh cell m mines : Int} {mined number near nearEnd : Int → Int} {post : Int → (Int → Int) → (Int → Int) → Prop} (ok : okB w h sh) (g : GeoD w h sh near nearEnd) (d : DMi w h sh mined number mines) (hc : 0 ≤ cell ∧ cell < w * h) (hm : m = 0 ∨ m = 1)
    (hp : ∀ number' mines', DMi w h sh (upZ mined cell m) number' mines' → post mines' (upZ mined cell m) number') : P_X2_setMine post mines mined number near nearEnd cell m := by
  have hle := wh_le ok
  have mb := d.mines_b ok
  have hmc := d.1 cell hc.1 hc.2
  unfold P_X2_setMine
  refine ⟨by omega, fun v ev rv => ⟨fun q => ?_, fun q => ?_⟩⟩
  · refine ⟨fun z => z = m - mined cell, ⟨fun z => by omega, fun z => by omega⟩, fun z rz ez => ⟨by omega, fun mined2 em => ⟨by omega, fun mines2 ems => ⟨by omega, fun x4 ex4 => ?_⟩⟩⟩⟩
    subst em
    refine ⟨fun n x nu => n = (nearEnd cell - x).toNat ∧ 8 * cell ≤ x ∧ x ≤ nearEnd cell ∧ (∀ c, 0 ≤ c → c < w * h → nu c = number c + (if c ∈ (NB w h sh cell).take (x - 8 * cell).toNat then z else 0)), ⟨_, rfl, by omega, by have := (g cell hc.1 hc.2).1; omega, fun c _ _ => by rw [ex4, show (cell * 8 - 8 * cell).toNat = 0 by omega]; simp⟩, ?_⟩
    rintro n x nu rx ⟨rfl, b1, b2, b3⟩
    refine ⟨by omega, fun v2 ev2 rv2 => ⟨fun q2 => ?_, fun q2 => ?_⟩⟩
    · rw [row_end g hc (by omega)] at b3
      refine hp nu mines2 ⟨fun c h0 h1 => ?_, fun c h0 h1 => ?_, ?_⟩
      · by_cases e : c = cell
        · subst e; rw [upZ_s]; exact hm
        · rw [upZ_n _ _ e]; exact d.1 c h0 h1
      · have := sumL_change (f := mined) (g := upZ mined cell m) (x := cell) (pw_nodup (NB_pw (w := w) (h := h) (sh := sh) (a := c))) (fun y _ e => upZ_n _ _ e)
        show nu c = sumL (NB w h sh c) (upZ mined cell m)
        rw [this, b3 c h0 h1, d.2.1 c h0 h1, upZ_s]
        by_cases mm : c ∈ NB w h sh cell
        · rw [if_pos mm, if_pos ((NB_sym ok hc ⟨h0, h1⟩).mp mm), ez]
        · rw [if_neg mm, if_neg (fun z => mm ((NB_sym ok hc ⟨h0, h1⟩).mpr z))]
      · have := sumL_change (f := mined) (g := upZ mined cell m) (x := cell) (pw_nodup (cells_pw (n := w * h))) (fun y _ e => upZ_n _ _ e)
        rw [this, if_pos (mem_cells.mpr hc), ← d.2.2, upZ_s, ems, ez]
    · obtain ⟨mm, t, nm⟩ := row_at g hc b1 (by omega)
      have mc := nb_cell mm
      have hl := NB_len ok hc
      have ge := (g cell hc.1 hc.2).1
      have ub := d.num_b ok mc.1 mc.2
      have u1 := b3 _ mc.1 mc.2
      rw [if_neg nm] at u1
      refine ⟨by omega, fun w1 ew1 rw1 => ?_⟩
      subst ew1
      refine ⟨by omega, fun w2 ew2 rw2 => ⟨by omega, by omega, fun u2 eu2 => ⟨by omega, fun x2 ex2 => ⟨(nearEnd cell - x2).toNat, by omega, rfl, by omega, by omega, fun c h0 h1' => ?_⟩⟩⟩⟩
      rw [show (x2 - 8 * cell).toNat = (x - 8 * cell).toNat + 1 by omega, t, eu2]
      by_cases e : c = near x
      · subst e
        rw [upZ_s, if_pos (List.mem_append_right _ (List.mem_singleton.mpr rfl)), ew2, u1]
        omega
      · rw [upZ_n _ _ e, b3 c h0 h1']
        congr 1
        by_cases m2 : c ∈ (NB w h sh cell).take (x - 8 * cell).toNat
        · rw [if_pos m2, if_pos (List.mem_append_left _ m2)]
        · rw [if_neg m2, if_neg (fun z => (List.mem_append.mp z).elim m2 (fun z => e (List.mem_singleton.mp z)))]
  · have e : upZ mined cell m = mined := by rw [← q, ev, upZ_id]
    have := hp number mines (by rw [e]; exact d)
    rw [e] at this
    exact this
theorem s_fill15 {post : (Int → Int) → Prop} {a : Int → Int} {v : Int} (hp : ∀ b : Int → Int, (∀ j, 0 ≤ j → j < 4 → b j = v) → post b) : P_J7_fill_53178_15 post a v := by
  unfold P_J7_fill_53178_15
  refine ⟨fun n x b => n = (4 - x).toNat ∧ 0 ≤ x ∧ x ≤ 4 ∧ ∀ j, 0 ≤ j → j < x → b j = v, ⟨_, rfl, by omega, by omega, fun j _ _ => by omega⟩, ?_⟩
  rintro n x b rx ⟨rfl, b1, b2, b3⟩
  refine ⟨fun q => hp b (fun j h0 h1 => b3 j h0 (by omega)), fun q => ⟨by omega, fun b' eb => ⟨by omega, fun y ey => ⟨(4 - y).toNat, by omega, rfl, by omega, by omega, fun j h0 h1 => ?_⟩⟩⟩⟩
  by_cases e : j = x
  · subst e; rw [eb, upZ_s]
  · rw [eb, upZ_n _ _ e]; exact b3 j h0 (by omega)
theorem s_closeAllD {w h sh m0 c0 : Int} {st ci un hi near nearEnd : Int → Int} {post : Int → Int → (Int → Int) → (Int → Int) → (Int → Int) → (Int → Int) → Prop} (ok : okB w h sh) (g : GeoD w h sh near nearEnd) (hp : ∀ st' ci' un' hi' : Int → Int, DSt w h sh st' ci' un' hi' → (∀ c, 0 ≤ c → c < w * h → st' c = 0) → post 0 0 st' ci' un' hi') : P_X2_closeAll post m0 c0 (w * h) st ci un hi nearEnd := by
  have hle := wh_le ok
  have hge := wh_ge ok
  unfold P_X2_closeAll
  refine ⟨fun n x s u t => n = (w * h - x).toNat ∧ 0 ≤ x ∧ x ≤ w * h ∧ (∀ c, 0 ≤ c → c < x → s c = 0 ∧ u c = (NB w h sh c).length ∧ t c = 0), ⟨_, rfl, by omega, by omega, fun c _ _ => by omega⟩, ?_⟩
  rintro n x s u t rx ⟨rfl, b1, b2, b3⟩
  refine ⟨fun q => s_fill15 (fun b hb ci2 ec => ?_), fun q => ?_⟩
  · have e : x = w * h := by omega
    subst e
    refine hp s ci2 u t ⟨fun c h0 h1 => by rw [(b3 c h0 h1).1]; omega, fun k h0 h1 => ?_, fun c h0 h1 => ?_, fun c h0 h1 => ?_⟩ (fun c h0 h1 => (b3 c h0 h1).1)
    · have cl := cells_len (n := w * h) (by omega)
      by_cases ek : k = 0
      · subst ek
        rw [sumL_const (k := 1) (fun x hx => by have := mem_cells.mp hx; simp only [(b3 x this.1 this.2).1]; rfl), ec, upZ_s]
        omega
      · rw [sumL_const (k := 0) (fun x hx => by have := mem_cells.mp hx; simp only [(b3 x this.1 this.2).1]; exact if_neg (fun z => ek z.symm)), ec, upZ_n _ _ ek, hb k h0 (by omega)]
        omega
    · rw [sumL_const (k := 1) (fun x hx => by have := nb_cell hx; simp only [(b3 x this.1 this.2).1]; rfl), (b3 c h0 h1).2.1]
      omega
    · rw [sumL_const (k := 0) (fun x hx => by have := nb_cell hx; simp only [(b3 x this.1 this.2).1]; rfl), (b3 c h0 h1).2.2]
      omega
  · have ge := (g x b1 (by omega)).1
    have hl := NB_len ok (a := x) ⟨b1, by omega⟩
    refine ⟨by omega, fun s2 es => ⟨by omega, fun v ev rv => ⟨by omega, by omega, fun u2 eu => ⟨by omega, fun t2 et => ⟨by omega, fun y ey => ⟨(w * h - y).toNat, by omega, rfl, by omega, by omega, fun c h0 h1 => ?_⟩⟩⟩⟩⟩⟩
    by_cases e : c = x
    · subst e; rw [es, eu, et, upZ_s, upZ_s, upZ_s]
      exact ⟨rfl, by omega, rfl⟩
    · rw [es, eu, et, upZ_n _ _ e, upZ_n _ _ e, upZ_n _ _ e]; exact b3 c h0 (by omega)
theorem s_begin {w h sh a1 a2 a3 a4 a5 a6 : Int} {mined number st ci un hi near nearEnd : Int → Int} {post : Int → Int → Int → Int → Int → Int → (Int → Int) → (Int → Int) → (Int → Int) → (Int → Int) → (Int → Int) → (Int → Int) → (Int → Int) → (Int → Int) → Prop} (ok : okB w h sh)
    (hp : ∀ mined' number' st' ci' un' hi' near' nearEnd' : Int → Int, GeoD w h sh near' nearEnd' → DMi w h sh mined' number' 0 → (∀ c, 0 ≤ c → c < w * h → mined' c = 0) → DSt w h sh st' ci' un' hi' → (∀ c, 0 ≤ c → c < w * h → st' c = 0) → post 0 0 0 w h (w * h) mined' number' st' ci' un' hi' near' nearEnd') : P_X2_begin post a1 a2 a3 a4 a5 a6 mined number st ci un hi near nearEnd w h sh := by
  have hle := wh_le ok
  have hge := wh_ge ok
  unfold P_X2_begin
  refine s_lay ok (fun near' nearEnd' g => ?_)
  refine ⟨fun n x mi nu => n = (144 - x).toNat ∧ 0 ≤ x ∧ x ≤ 144 ∧ ∀ c, 0 ≤ c → c < x → mi c = 0 ∧ nu c = 0, ⟨_, rfl, by omega, by omega, fun c _ _ => by omega⟩, ?_⟩
  rintro n x mi nu rx ⟨rfl, b1, b2, b3⟩
  refine ⟨fun q => ?_, fun q => ?_⟩
  · have z : ∀ c, 0 ≤ c → c < w * h → mi c = 0 := fun c h0 h1 => (b3 c h0 (by omega)).1
    refine s_closeAllD ok g (fun st' ci' un' hi' ds z2 => hp mi nu st' ci' un' hi' near' nearEnd' g ⟨fun c h0 h1 => Or.inl (z c h0 h1), fun c h0 h1 => ?_, ?_⟩ z ds z2)
    · rw [(b3 c h0 (by omega)).2]
      show 0 = sumL (NB w h sh c) mi
      rw [sumL_const (k := 0) (fun x hx => by have := nb_cell hx; exact z x this.1 this.2)]
      omega
    · rw [sumL_const (k := 0) (fun x hx => by have := mem_cells.mp hx; exact z x this.1 this.2)]
      omega
  · refine ⟨by omega, fun m2 em => ⟨by omega, fun n2 en => ⟨by omega, fun y ey => ⟨(144 - y).toNat, by omega, rfl, by omega, by omega, fun c h0 h1 => ?_⟩⟩⟩⟩
    by_cases e : c = x
    · subst e; rw [em, en, upZ_s, upZ_s]; exact ⟨rfl, rfl⟩
    · rw [em, en, upZ_n _ _ e, upZ_n _ _ e]; exact b3 c h0 (by omega)
theorem back_succ {cd : Int → Int} {lo : Int} {k : Nat} {st : Int → Int} : back cd lo (k + 1) st = back cd lo k (upZ st (cd (lo + (k : Int)) / 4) (cd (lo + (k : Int)) % 4)) := rfl
theorem s_takeBack {w h sh moves ch : Int} {st ci un hi ms cd near nearEnd : Int → Int} {post : Int → Int → (Int → Int) → (Int → Int) → (Int → Int) → (Int → Int) → Prop} (ok : okB w h sh) (g : GeoD w h sh near nearEnd) (d : DSt w h sh st ci un hi) (hm : 0 < moves ∧ moves ≤ 512) (hlo : 0 ≤ ms (moves - 1) ∧ ms (moves - 1) ≤ ch ∧ ch ≤ 656) (hcd : ∀ i, 0 ≤ i → i < ch → 0 ≤ cd i ∧ cd i < 4 * (w * h))
    (hp : ∀ ci' un' hi' : Int → Int, DSt w h sh (back cd (ms (moves - 1)) (ch - ms (moves - 1)).toNat st) ci' un' hi' → post (moves - 1) (ms (moves - 1)) (back cd (ms (moves - 1)) (ch - ms (moves - 1)).toNat st) ci' un' hi') : P_X2_takeBackMove post moves ch st ci un hi ms cd near nearEnd := by
  have hle := wh_le ok
  unfold P_X2_takeBackMove
  refine ⟨fun _ => ⟨by omega, fun m2 em => ⟨by omega, fun x ex => ?_⟩⟩, fun q => absurd hm.1 q⟩
  subst em
  generalize ms (moves - 1) = lo at *
  refine ⟨fun n i s c u t => n = (i + 1 - lo).toNat ∧ lo ≤ i + 1 ∧ i < ch ∧ DSt w h sh s c u t ∧ back cd lo (i + 1 - lo).toNat s = back cd lo (ch - lo).toNat st, ⟨_, rfl, by omega, by omega, d, by rw [ex, show ch - 1 + 1 - lo = ch - lo by omega]⟩, ?_⟩
  rintro n i s c u t ri ⟨rfl, b1, b2, b3, b4⟩
  refine ⟨by omega, fun v ev rv => ⟨fun q => ⟨by omega, fun v2 ev2 rv2 => ?_⟩, fun q => ⟨by omega, fun v2 ev2 rv2 => ⟨by omega, fun v3 ev3 rv3 => ?_⟩⟩⟩⟩
  · rw [ev2]
    rw [show (i + 1 - lo).toNat = 0 by omega] at b4
    have b4 : s = back cd lo (ch - lo).toNat st := b4
    subst b4
    exact hp c u t b3
  · rw [ev] at q
    subst ev2
    have hv := hcd i (by omega) b2
    subst ev3
    have e1 : (cd i).tdiv 4 = cd i / 4 := Int.tdiv_eq_ediv_of_nonneg hv.1
    have e2 : (cd i).tmod 4 = cd i % 4 := Int.tmod_eq_emod_of_nonneg hv.1
    rw [e1, e2]
    refine ⟨by omega, by omega, s_put ok g b3 (by omega) (by omega) (fun c' u' t' ds => ⟨by omega, fun y ey => ⟨(y + 1 - lo).toNat, by omega, rfl, by omega, by omega, ds, ?_⟩⟩)⟩
    have ek : (i + 1 - lo).toNat = (y + 1 - lo).toNat + 1 := by omega
    have ei : lo + (((y + 1 - lo).toNat : Nat) : Int) = i := by omega
    rw [← b4, ek, back_succ, ei]
