/-! changes that can be taken back; opening -/
theorem exJ8i {α β γ δ ε ζ η : Type} {p : Int → α → β → γ → δ → ε → ζ → η → Prop} {A : (Int → α → β → γ → δ → ε → ζ → η → Prop) → Prop} (h : A (fun x a b c d e f g => inR x → p x a b c d e f g)) : ∃ J : Int → α → β → γ → δ → ε → ζ → η → Prop, A J ∧ ∀ (x : Int) (a : α) (b : β) (c : γ) (d : δ) (e : ε) (f : ζ) (g : η), inR x → J x a b c d e f g → p x a b c d e f g := ⟨_, h, fun _ _ _ _ _ _ _ _ r k => k r⟩
theorem upZ_id {α : Type} (f : Int → α) (i : Int) : upZ f i (f i) = f := by
  funext j
  unfold upZ
  split
  · rename_i h; rw [h]
  · rfl
theorem upZ_upZ {α : Type} (f : Int → α) (i : Int) (a b : α) : upZ (upZ f i a) i b = upZ f i b := by
  funext j
  unfold upZ
  split <;> rfl
/-- the states, with the changes lo + k - 1 down to lo taken back -/
def back (cd : Int → Int) (lo : Int) : Nat → (Int → Int) → (Int → Int)
  | 0, st => st
  | k + 1, st => back cd lo k (upZ st (cd (lo + k) / 4) (cd (lo + k) % 4))
theorem back_congr {cd cd' : Int → Int} {lo : Int} {k : Nat} {st : Int → Int} (h : ∀ j, lo ≤ j → j < lo + k → cd' j = cd j) : back cd' lo k st = back cd lo k st := by
  induction k generalizing st with
  | zero => rfl
  | succ k ih =>
    unfold back
    rw [h (lo + k) (by omega) (by omega), ih (fun j h1 h2 => h j h1 (by omega))]
theorem back_more {cd : Int → Int} {lo c next : Int} {k : Nat} {st : Int → Int} (hs : 0 ≤ st c ∧ st c ≤ 3) : back (upZ cd (lo + k) (c * 4 + st c)) lo (k + 1) (upZ st c next) = back cd lo k st := by
  show back _ lo k (upZ (upZ st c next) (upZ cd (lo + k) (c * 4 + st c) (lo + k) / 4) (upZ cd (lo + k) (c * 4 + st c) (lo + k) % 4)) = _
  rw [upZ_s, show (c * 4 + st c) / 4 = c by omega, show (c * 4 + st c) % 4 = st c by omega, upZ_upZ, upZ_id]
  exact back_congr (fun j h1 h2 => upZ_n _ _ (by omega))
/-- how many cells are no more unknown -/
def kn (n : Int) (st : Int → Int) : Int := sumL (cellsL n) (fun c => 1 - iU (st c))
theorem kn_b {n : Int} {st : Int → Int} (h : 0 ≤ n) : 0 ≤ kn n st ∧ kn n st ≤ n := by
  have := sumL_bound (l := cellsL n) (f := fun c => 1 - iU (st c)) (fun x _ => by have := iU_b (st x); omega)
  have := cells_len h
  unfold kn
  omega
theorem kn_up {n c v : Int} {st : Int → Int} (hc : 0 ≤ c ∧ c < n) : kn n (upZ st c v) = kn n st + iU (st c) - iU v := by
  have := sumL_change (f := fun c => 1 - iU (st c)) (g := fun x => 1 - iU (upZ st c v x)) (x := c) (pw_nodup (cells_pw (n := n))) (fun y _ e => by simp only [upZ_n _ _ e])
  unfold kn
  rw [this, if_pos (mem_cells.mpr hc)]
  simp only [upZ_s]
  omega
theorem kn_lt {n c : Int} {st : Int → Int} (hc : 0 ≤ c ∧ c < n) (hs : st c ≤ 1) : kn n st < n := by
  have h1 := kn_up (v := 2) (st := st) hc
  have h2 := kn_b (n := n) (st := upZ st c 2) (by omega)
  rw [show iU (st c) = 1 from if_pos hs, show iU 2 = 0 from if_neg (by omega)] at h1
  omega
theorem s_isUnknown {post : Int → Prop} {st : Int → Int} {c : Int} (hc : 0 ≤ c ∧ c < 144) (h1 : st c ≤ 1 → post 1) (h0 : ¬ st c ≤ 1 → post 0) : P_X2_isUnknown post st c := by
  unfold P_X2_isUnknown
  refine ⟨hc, fun v ev rv => exJi ⟨fun q _ => ⟨by omega, h0 (by omega)⟩, fun q _ => ⟨by omega, h1 (by omega)⟩⟩⟩
theorem s_change {w h sh cell next ch : Int} {state cellsIn unk hit cd near nearEnd : Int → Int} {post : Int → (Int → Int) → (Int → Int) → (Int → Int) → (Int → Int) → (Int → Int) → Prop} (ok : okB w h sh) (g : GeoD w h sh near nearEnd) (d : DSt w h sh state cellsIn unk hit) (hc : 0 ≤ cell ∧ cell < w * h) (hn : 0 ≤ next ∧ next ≤ 3) (hch : 0 ≤ ch ∧ ch < 656)
    (hp : ∀ cellsIn' unk' hit', DSt w h sh (upZ state cell next) cellsIn' unk' hit' → post (ch + 1) (upZ state cell next) cellsIn' unk' hit' (upZ cd ch (cell * 4 + state cell))) : P_X2_change post ch state cellsIn unk hit cd near nearEnd cell next := by
  have hle := wh_le ok
  have hs := d.1 cell hc.1 hc.2
  unfold P_X2_change
  refine ⟨fun q => absurd q (by omega), fun q => ⟨by omega, fun v ev rv => ⟨by omega, by omega, fun cd2 e2 => ⟨by omega, fun ch2 ec => ?_⟩⟩⟩⟩
  subst ev e2 ec
  exact s_put ok g d hc hn hp
/-- opening from a cell on: what holds while the cells wait -/
def BF (w h sh : Int) (mined number : Int → Int) (cell ch0 : Int) (st0 cd0 : Int → Int) (e ch : Int) (st ci un hi cd wt : Int → Int) : Prop :=
  DSt w h sh st ci un hi ∧ ch = ch0 + e ∧ (∀ j, j < ch0 → cd j = cd0 j) ∧ back cd ch0 e.toNat st = st0 ∧ 1 ≤ e ∧ e = kn (w * h) st - kn (w * h) st0 ∧
  (∀ c, 0 ≤ c → c < w * h → st c = st0 c ∨ (st0 c ≤ 1 ∧ st c = 2 ∧ mined c = 0)) ∧
  (∀ j, 0 ≤ j → j < e → 0 ≤ wt j ∧ wt j < w * h ∧ st (wt j) = 2) ∧
  (∀ c, 0 ≤ c → c < w * h → st c ≠ st0 c → ∃ j, 0 ≤ j ∧ j < e ∧ wt j = c) ∧ st cell = 2 ∧
  (∀ S : Int → Prop, S cell → (∀ c d, S c → number c = 0 → d ∈ NB w h sh c → st0 d ≤ 1 → mined d = 0 → S d) → ∀ j, 0 ≤ j → j < e → S (wt j)) ∧ (∀ i, ch0 ≤ i → i < ch → 0 ≤ cd i ∧ cd i < 4 * (w * h))
theorem BF.more {w h sh cell ch0 e ch j0 d : Int} {mined number st0 cd0 st ci un hi cd wt ci' un' hi' : Int → Int} (b : BF w h sh mined number cell ch0 st0 cd0 e ch st ci un hi cd wt) (hj : 0 ≤ j0 ∧ j0 < e) (hz : number (wt j0) = 0) (hd : d ∈ NB w h sh (wt j0)) (hu : st d ≤ 1) (hm : mined d = 0) (ds : DSt w h sh (upZ st d 2) ci' un' hi') : BF w h sh mined number cell ch0 st0 cd0 (e + 1) (ch + 1) (upZ st d 2) ci' un' hi' (upZ cd ch (d * 4 + st d)) (upZ wt e d) := by
  obtain ⟨b1, b2, b3, b4, b5, b6, b7, b8, b9, b10, b11, b12⟩ := b
  have hc := nb_cell hd
  have es : st0 d = st d := by
    rcases b7 d hc.1 hc.2 with q | q
    · exact q.symm
    · omega
  refine ⟨ds, by omega, fun j hj => by rw [upZ_n _ _ (by omega)]; exact b3 j hj, ?_, by omega, ?_, ?_, ?_, ?_, ?_, ?_, ?_⟩
  · rw [show (e + 1).toNat = e.toNat + 1 by omega, show ch = ch0 + (e.toNat : Int) by omega, back_more (b1.1 d hc.1 hc.2)]
    exact b4
  · rw [kn_up hc, show iU (st d) = 1 from if_pos hu, show iU 2 = 0 from if_neg (by omega)]
    omega
  · intro c h0 h1
    by_cases ec : c = d
    · subst ec; rw [upZ_s]; exact Or.inr ⟨by omega, rfl, hm⟩
    · rw [upZ_n _ _ ec]; exact b7 c h0 h1
  · intro j h0 h1
    by_cases ej : j = e
    · subst ej; rw [upZ_s, upZ_s]; exact ⟨hc.1, hc.2, rfl⟩
    · rw [upZ_n wt _ ej]
      obtain ⟨q1, q2, q3⟩ := b8 j h0 (by omega)
      refine ⟨q1, q2, ?_⟩
      by_cases eq : wt j = d
      · rw [eq, upZ_s]
      · rw [upZ_n _ _ eq]; exact q3
  · intro c h0 h1 hne
    by_cases ec : c = d
    · subst ec; exact ⟨e, by omega, by omega, upZ_s _ _ _⟩
    · rw [upZ_n _ _ ec] at hne
      obtain ⟨j, j0, j1, j2⟩ := b9 c h0 h1 hne
      exact ⟨j, j0, by omega, by rw [upZ_n _ _ (by omega)]; exact j2⟩
  · by_cases ec : cell = d
    · rw [ec, upZ_s]
    · rw [upZ_n _ _ ec]; exact b10
  · intro S s1 s2 j h0 h1
    by_cases ej : j = e
    · subst ej; rw [upZ_s]
      exact s2 _ _ (b11 S s1 s2 j0 hj.1 hj.2) hz hd (by omega) hm
    · rw [upZ_n _ _ ej]; exact b11 S s1 s2 j h0 (by omega)
  · intro i h0 h1
    have sd := b1.1 d hc.1 hc.2
    by_cases ei : i = ch
    · subst ei; rw [upZ_s]; omega
    · rw [upZ_n _ _ ei]; exact b12 i h0 (by omega)
theorem s_usa {w h sh cell ch0 e ch j0 : Int} {mined number st0 cd0 st ci un hi cd wt near nearEnd : Int → Int} {post : Int → Int → (Int → Int) → (Int → Int) → (Int → Int) → (Int → Int) → (Int → Int) → (Int → Int) → Prop} (ok : okB w h sh) (g : GeoD w h sh near nearEnd) (b : BF w h sh mined number cell ch0 st0 cd0 e ch st ci un hi cd wt) (hj : 0 ≤ j0 ∧ j0 < e) (hz : number (wt j0) = 0) (hm : ∀ d ∈ NB w h sh (wt j0), mined d = 0) (h0 : 0 ≤ ch0 ∧ ch0 ≤ 511 + kn (w * h) st0)
    (hp : ∀ (e' ch' : Int) (st' ci' un' hi' cd' wt' : Int → Int), BF w h sh mined number cell ch0 st0 cd0 e' ch' st' ci' un' hi' cd' wt' → e ≤ e' → (∀ j, j < e → wt' j = wt j) → (∀ c, 0 ≤ c → c < w * h → ¬ st c ≤ 1 → ¬ st' c ≤ 1) → (∀ d ∈ NB w h sh (wt j0), ¬ st' d ≤ 1) → post e' ch' st' ci' un' hi' cd' wt') : P_X2_uncoverSafeAround post ch mined st ci un hi cd wt near nearEnd (wt j0) e := by
  have hle := wh_le ok
  have hge := wh_ge ok
  obtain ⟨p1, p2, -⟩ := b.2.2.2.2.2.2.2.1 j0 hj.1 hj.2
  have hc : 0 ≤ wt j0 ∧ wt j0 < w * h := ⟨p1, p2⟩
  generalize ew : wt j0 = c0 at *
  unfold P_X2_uncoverSafeAround
  refine ⟨by omega, fun x4 ex4 => ?_⟩
  refine ⟨fun n e' x ch' st' ci' un' hi' cd' wt' => n = (nearEnd c0 - x).toNat ∧ 8 * c0 ≤ x ∧ x ≤ nearEnd c0 ∧ BF w h sh mined number cell ch0 st0 cd0 e' ch' st' ci' un' hi' cd' wt' ∧ e ≤ e' ∧ (∀ j, j < e → wt' j = wt j) ∧ (∀ c, 0 ≤ c → c < w * h → ¬ st c ≤ 1 → ¬ st' c ≤ 1) ∧ (∀ d ∈ (NB w h sh c0).take (x - 8 * c0).toNat, ¬ st' d ≤ 1), ⟨_, rfl, by omega, by have := (g c0 hc.1 hc.2).1; omega, b, by omega, fun _ _ => rfl, fun _ _ _ q => q, fun d hd => by rw [ex4, show (c0 * 8 - 8 * c0).toNat = 0 by omega] at hd; simp at hd⟩, ?_⟩
  rintro n e' x ch' st' ci' un' hi' cd' wt' re rx ⟨rfl, b1, b2, b3, b4, b5, b6, b7⟩
  refine ⟨by omega, fun v ev rv => ⟨fun q => ?_, fun q => ?_⟩⟩
  · rw [row_end g hc (by omega)] at b7
    exact hp _ _ _ _ _ _ _ _ b3 b4 b5 b6 b7
  · obtain ⟨m, t, nm⟩ := row_at g hc b1 (by omega)
    have mc := nb_cell m
    have hl := NB_len ok hc
    have ge := (g c0 hc.1 hc.2).1
    have next : ∀ (e2 ch2 : Int) (st2 ci2 un2 hi2 cd2 wt2 : Int → Int), BF w h sh mined number cell ch0 st0 cd0 e2 ch2 st2 ci2 un2 hi2 cd2 wt2 → e ≤ e2 → (∀ j, j < e → wt2 j = wt j) → (∀ c, 0 ≤ c → c < w * h → ¬ st' c ≤ 1 → ¬ st2 c ≤ 1) → ¬ st2 (near x) ≤ 1 → (inR (x + 1) ∧ ∀ x4_34 : Int, x4_34 = x + 1 → ∃ n_35 : Nat, n_35 < (nearEnd c0 - x).toNat ∧ (n_35 = (nearEnd c0 - x4_34).toNat ∧ 8 * c0 ≤ x4_34 ∧ x4_34 ≤ nearEnd c0 ∧ BF w h sh mined number cell ch0 st0 cd0 e2 ch2 st2 ci2 un2 hi2 cd2 wt2 ∧ e ≤ e2 ∧ (∀ j, j < e → wt2 j = wt j) ∧ (∀ c, 0 ≤ c → c < w * h → ¬ st c ≤ 1 → ¬ st2 c ≤ 1) ∧ (∀ d ∈ (NB w h sh c0).take (x4_34 - 8 * c0).toNat, ¬ st2 d ≤ 1))) := by
      intro e2 ch2 st2 ci2 un2 hi2 cd2 wt2 k1 k2 k3 k4 k5
      refine ⟨by omega, fun y ey => ⟨(nearEnd c0 - y).toNat, by omega, rfl, by omega, by omega, k1, k2, k3, fun c h0 h1 q => k4 c h0 h1 (b6 c h0 h1 q), fun d hd => ?_⟩⟩
      rw [show (y - 8 * c0).toNat = (x - 8 * c0).toNat + 1 by omega, t] at hd
      rcases List.mem_append.mp hd with hd | hd
      · have := nb_cell (List.mem_of_mem_take hd)
        exact k4 d this.1 this.2 (b7 d hd)
      · rw [List.mem_singleton.mp hd]; exact k5
    refine ⟨by omega, fun v2 ev2 rv2 => ?_⟩
    subst ev2
    refine s_isUnknown (by omega) (fun hu _ => exJ8i ⟨fun z => absurd z (by omega), fun _ => ⟨by omega, fun v3 ev3 rv3 => ⟨fun z => absurd (by rw [ev3]; exact hm _ m) z, fun z => ⟨fun z2 => ?_, fun z2 => ?_⟩⟩⟩⟩) (fun hu _ => exJ8i ⟨fun _ _ => next _ _ _ _ _ _ _ _ b3 b4 b5 (fun _ _ _ q => q) hu, fun z => absurd rfl z⟩)
    · exfalso
      have := kn_lt mc hu
      have := kn_b (n := w * h) (st := st0) (by omega)
      have := b3.2.2.2.2.2.1
      omega
    · have k1 := kn_lt mc hu
      have k2 := kn_b (n := w * h) (st := st0) (by omega)
      have k3 := b3.2.2.2.2.2.1
      have k4 := b3.2.1
      have k5 := b3.2.2.2.2.1
      refine s_change ok g b3.1 mc (by omega) (by omega) (fun ci2 un2 hi2 ds => ⟨by omega, fun wt2 ewt => ⟨by omega, fun e2 ee2 _ => ?_⟩⟩)
      subst ewt ee2
      have hwj : wt' j0 = c0 := by rw [b5 j0 hj.2, ew]
      refine next _ _ _ _ _ _ _ _ (b3.more (j0 := j0) ⟨hj.1, by omega⟩ (by rw [hwj]; exact hz) (by rw [hwj]; exact m) hu (hm _ m) ds) (by omega) (fun j hj => by rw [upZ_n _ _ (by omega)]; exact b5 j hj) (fun c h0 h1 q => ?_) (by rw [upZ_s]; omega)
      by_cases ec : c = near x
      · subst ec; exact absurd hu q
      · rw [upZ_n _ _ ec]; exact q
/-- the cells that open with a cell -/
def FloodR (w h sh : Int) (mined number st : Int → Int) (cell : Int) (st' : Int → Int) : Prop :=
  (∀ c, 0 ≤ c → c < w * h → st' c = st c ∨ (st c ≤ 1 ∧ st' c = 2 ∧ mined c = 0)) ∧ st' cell = 2 ∧
  (∀ c, 0 ≤ c → c < w * h → (st' c ≠ st c ∨ c = cell) → number c = 0 → ∀ d ∈ NB w h sh c, ¬ st' d ≤ 1) ∧
  (∀ S : Int → Prop, S cell → (∀ c d, S c → number c = 0 → d ∈ NB w h sh c → st d ≤ 1 → mined d = 0 → S d) → ∀ c, 0 ≤ c → c < w * h → st' c ≠ st c → S c)
theorem FloodR.uniq {w h sh cell : Int} {mined number st a b : Int → Int} (hc : 0 ≤ cell ∧ cell < w * h) (hm : ∀ c, 0 ≤ c → c < w * h → number c = 0 → ∀ d ∈ NB w h sh c, mined d = 0) (fa : FloodR w h sh mined number st cell a) (fb : FloodR w h sh mined number st cell b) : ∀ c, 0 ≤ c → c < w * h → a c = b c := by
  have key : ∀ a b : Int → Int, FloodR w h sh mined number st cell a → FloodR w h sh mined number st cell b → ∀ c, 0 ≤ c → c < w * h → a c ≠ st c → b c = 2 := by
    intro a b fa fb c h0 h1 hne
    have := fa.2.2.2 (fun c => (0 ≤ c ∧ c < w * h) ∧ b c = 2 ∧ (b c ≠ st c ∨ c = cell)) ⟨hc, fb.2.1, Or.inr rfl⟩ (fun c d ⟨s1, s2, s3⟩ hz hd hu hmd => by
      have hdc := nb_cell hd
      have hb := fb.2.2.1 c s1.1 s1.2 s3 hz d hd
      rcases fb.1 d hdc.1 hdc.2 with q | q
      · omega
      · exact ⟨hdc, q.2.1, Or.inl (by omega)⟩) c h0 h1 hne
    exact this.2.1
  intro c h0 h1
  by_cases ea : a c = st c
  · by_cases eb : b c = st c
    · rw [ea, eb]
    · have k := key b a fb fa c h0 h1 eb
      rcases fb.1 c h0 h1 with q | q
      · exact absurd q eb
      · rw [k, q.2.1]
  · have k := key a b fa fb c h0 h1 ea
    rcases fa.1 c h0 h1 with q | q
    · exact absurd q ea
    · rw [k, q.2.1]
