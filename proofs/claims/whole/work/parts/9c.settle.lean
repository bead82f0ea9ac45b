/-! the class settles a board -/
def NX (w h sh : Int) (st : Int → Int) (c : Int) : Prop := ∃ d ∈ NB w h sh c, st d = 2
def FUq (w h sh : Int) (m st : Int → Int) (x y c : Int) : Prop := st c ≤ 1 ∧ m c = x ∧ (NX w h sh st c ↔ y = 1)
def FU (w h sh : Int) (m st : Int → Int) (x y c : Int) : Prop := (c = -1 ∧ ∀ d, 0 ≤ d → d < w * h → ¬ FUq w h sh m st x y d) ∨ ((0 ≤ c ∧ c < w * h) ∧ FUq w h sh m st x y c ∧ ∀ d, 0 ≤ d → d < c → ¬ FUq w h sh m st x y d)
theorem FU.uniq {w h sh x y c c' : Int} {m st m' st' : Int → Int} (e1 : Eqc (w * h) m m') (e2 : Eqc (w * h) st st') (a : FU w h sh m st x y c) (b : FU w h sh m' st' x y c') : c = c' := by
  have t : ∀ d, 0 ≤ d → d < w * h → (FUq w h sh m st x y d ↔ FUq w h sh m' st' x y d) := by
    intro d d0 d1
    have n : NX w h sh st d ↔ NX w h sh st' d := ⟨fun ⟨e, me, k⟩ => ⟨e, me, by rw [← e2 e (nb_cell me).1 (nb_cell me).2]; exact k⟩, fun ⟨e, me, k⟩ => ⟨e, me, by rw [e2 e (nb_cell me).1 (nb_cell me).2]; exact k⟩⟩
    unfold FUq
    rw [e1 d d0 d1, e2 d d0 d1, n]
  rcases a with ⟨a1, a2⟩ | ⟨a1, a2, a3⟩
  · rcases b with ⟨b1, b2⟩ | ⟨b1, b2, b3⟩
    · omega
    · exact absurd ((t c' b1.1 b1.2).2 b2) (a2 c' b1.1 b1.2)
  · rcases b with ⟨b1, b2⟩ | ⟨b1, b2, b3⟩
    · exact absurd ((t c a1.1 a1.2).1 a2) (b2 c a1.1 a1.2)
    · by_cases k : c < c'
      · exact absurd ((t c a1.1 a1.2).1 a2) (b3 c a1.1 k)
      · by_cases k2 : c' < c
        · exact absurd ((t c' b1.1 b1.2).2 b2) (a3 c' b1.1 k2)
        · omega
theorem s_isNextD {w h sh c : Int} {st near nearEnd : Int → Int} {post : Int → Prop} (ok : okB w h sh) (g : GeoD w h sh near nearEnd) (hc : 0 ≤ c ∧ c < w * h) (hp : ∀ u : Int, (u = 0 ∨ u = 1) → (u = 1 ↔ NX w h sh st c) → post u) : P_X4_isNextToNumber post st near nearEnd c := by
  have hle := wh_le ok
  have hl := NB_len ok hc
  have ge := (g c hc.1 hc.2).1
  unfold P_X4_isNextToNumber
  refine ⟨by omega, fun x0 e0 => ⟨fun n x => n = (nearEnd c - x).toNat ∧ 8 * c ≤ x ∧ x ≤ nearEnd c ∧ ∀ d ∈ (NB w h sh c).take (x - 8 * c).toNat, ¬ st d = 2, ⟨_, rfl, by omega, by omega, fun d md => by rw [e0, show (c * 8 - 8 * c).toNat = 0 by omega] at md; simp at md⟩, ?_⟩⟩
  rintro n x rx ⟨rfl, b1, b2, b3⟩
  refine ⟨by omega, fun v ev rv => ⟨fun z => ?_, fun z => ?_⟩⟩
  · rw [row_end g hc (by omega)] at b3
    exact hp 0 (Or.inl rfl) ⟨fun q => absurd q (by decide), fun ⟨d, md, k⟩ => absurd k (b3 d md)⟩
  · obtain ⟨m, t, -⟩ := row_at g hc b1 (by omega)
    have mc := nb_cell m
    refine ⟨by omega, fun v1 e1 r1 => ?_⟩
    subst e1
    refine ⟨by omega, fun v2 e2 r2 => ⟨fun z1 => nx (by omega) ⟨_, ?_, rfl, by omega, by omega, fun d md => ?_⟩, fun z1 => hp 1 (Or.inr rfl) ⟨fun _ => ⟨_, m, by omega⟩, fun _ => rfl⟩⟩⟩
    · omega
    · rw [show (x + 1 - 8 * c).toNat = (x - 8 * c).toNat + 1 by omega, t] at md
      rcases List.mem_append.mp md with md | md
      · exact b3 d md
      · rw [List.mem_singleton.mp md]; omega
theorem s_firstUnknown {w h sh x y : Int} {mined st near nearEnd : Int → Int} {post : Int → Prop} (ok : okB w h sh) (g : GeoD w h sh near nearEnd) (hm : ∀ c, 0 ≤ c → c < w * h → mined c = 0 ∨ mined c = 1) (hy : y = 0 ∨ y = 1) (hp : ∀ c, FU w h sh mined st x y c → post c) : P_X4_firstUnknown post (w * h) mined st near nearEnd x y := by
  have hle := wh_le ok
  have hge := wh_ge ok
  unfold P_X4_firstUnknown
  refine ⟨fun n k => n = (w * h - k).toNat ∧ 0 ≤ k ∧ k ≤ w * h ∧ ∀ d, 0 ≤ d → d < k → ¬ FUq w h sh mined st x y d, ⟨_, rfl, by omega, by omega, fun d _ _ => by omega⟩, ?_⟩
  rintro n k rk ⟨rfl, b1, b2, b3⟩
  have nxt : ¬ FUq w h sh mined st x y k → k < w * h → (inR (k + 1) ∧ (∀ x1_15 : Int, x1_15 = (k + 1) → (∃ n_16 : Nat, n_16 < (w * h - k).toNat ∧ (n_16 = (w * h - x1_15).toNat ∧ 0 ≤ x1_15 ∧ x1_15 ≤ w * h ∧ ∀ d, 0 ≤ d → d < x1_15 → ¬ FUq w h sh mined st x y d)))) := by
    intro q hk
    refine nx (by omega) ⟨_, ?_, rfl, by omega, by omega, fun d d0 d1 => ?_⟩
    · omega
    · by_cases e : d = k
      · subst e; exact q
      · exact b3 d d0 (by omega)
  refine ⟨fun z => hp (-1) (Or.inl ⟨rfl, fun d d0 d1 => b3 d d0 (by omega)⟩), fun z => s_isUnknownC ⟨by omega, by omega⟩ (fun u hu iu _ => exJ0 ⟨fun z1 => nxt (fun q => by have := iu.2 q.1; omega) (by omega), fun z1 => ⟨by omega, fun v ev hv => ⟨fun z2 => nxt (fun q => by have := q.2.1; omega) (by omega), fun z2 => s_isNextD ok g ⟨b1, by omega⟩ (fun u2 h2 i2 _ => ⟨fun z3 => nxt (fun q => ?_) (by omega), fun z3 => hp k (Or.inr ⟨⟨b1, by omega⟩, ⟨iu.1 (hu.resolve_left z1), by omega, ?_⟩, b3⟩)⟩)⟩⟩⟩)⟩
  · have q2 := q.2.2
    rw [← i2] at q2
    omega
  · rw [← i2]; omega
/-- boards tried one after the other -/
def OT (w h sh most : Int) : Nat → Int → (Int → Int) → (Int → Int) → Int → (Int → Int) → Prop
  | 0, s, m, nb, res, mf => ∃ (z st1 ste : Int → Int) (n : Nat), (∀ c, 0 ≤ c → c < w * h → z c = 0) ∧ UncR w h sh m nb z (fc w h) st1 ∧ PE w h sh m nb most n st1 1 ste ∧ Eqc (w * h) m mf ∧ ((Slv (w * h) m ste ∧ res = 1) ∨ (¬ Slv (w * h) m ste ∧ res = 0 ∧ (100 ≤ s ∨ FU w h sh m ste 1 1 (-1) ∨ FU w h sh m ste 0 0 (-1))))
  | k + 1, s, m, nb, res, mf => ∃ (z st1 ste : Int → Int) (n : Nat) (a b : Int) (nb' : Int → Int), (∀ c, 0 ≤ c → c < w * h → z c = 0) ∧ UncR w h sh m nb z (fc w h) st1 ∧ PE w h sh m nb most n st1 1 ste ∧ ¬ Slv (w * h) m ste ∧ s < 100 ∧ FU w h sh m ste 1 1 a ∧ FU w h sh m ste 0 0 b ∧ 0 ≤ a ∧ 0 ≤ b ∧ (∀ c, 0 ≤ c → c < w * h → nb' c = Num w h sh (upZ (upZ m a 0) b 1) c) ∧ OT w h sh most k (s + 1) (upZ (upZ m a 0) b 1) nb' res mf
theorem GSt.zero {w h sh : Int} {mined number z : Int → Int} (hz : ∀ c, 0 ≤ c → c < w * h → z c = 0) : GSt w h sh mined number z := ⟨fun c c0 c1 => by rw [hz c c0 c1]; omega, fun c c0 c1 e => by rw [hz c c0 c1] at e; omega, fun c c0 c1 e => by rw [hz c c0 c1] at e; omega, fun c c0 c1 e => by rw [hz c c0 c1] at e; omega⟩
theorem kn_zero {n : Int} {z : Int → Int} (hz : ∀ c, 0 ≤ c → c < n → z c = 0) : kn n z = 0 := by
  unfold kn
  rw [sumL_congr (g := fun _ => 0) (fun c mc => by rw [hz c (mem_cells.1 mc).1 (mem_cells.1 mc).2]; rfl), sumL_const (k := 0) (fun _ _ => rfl)]
  omega
theorem s_playAnew {w h sh mines mv ch0 : Int} {near nearEnd mined number st0 ci0 un0 hi0 cd0 wt0 : Int → Int} {post : (Int) → (Int) → (Int → Int) → (Int → Int) → (Int → Int) → (Int → Int) → (Int → Int) → (Int → Int) → Prop} (ok : okB w h sh) (geo : GeoD w h sh near nearEnd) (dm : DMi w h sh mined number mines) (hf : mined (fc w h) = 0)
    (hp : ∀ z st ci un hi cd wt : Int → Int, (∀ c, 0 ≤ c → c < w * h → z c = 0) → UncR w h sh mined number z (fc w h) st → DSt w h sh st ci un hi → GSt w h sh mined number st → 1 ≤ kn (w * h) st → st (fc w h) = 2 → (∀ c, 0 ≤ c → c < w * h → st c ≠ 3) → post 0 (kn (w * h) st) st ci un hi cd wt) :
    P_X4_playAnew post mv ch0 w h (w * h) mined number st0 ci0 un0 hi0 cd0 wt0 near nearEnd := by
  have hle := wh_le ok
  have fb := fc_in ok
  unfold P_X4_playAnew
  refine s_closeAllD ok geo (fun z ci un hi dz hz => s_firstCell ok (fun _ => ?_))
  have k0 := kn_zero hz
  refine s_uncover ok geo dz fb (by rw [hz _ fb.1 fb.2]; decide) ⟨by omega, by omega⟩ (Or.inl hf) (num_zeroD dm) (fun k st ci2 un2 hi2 cd2 wt2 d2 k1 k2 _ _ _ uu => ?_)
  have fl : FloodR w h sh mined number z (fc w h) st := by
    rcases uu with ⟨q, _⟩ | ⟨_, q⟩
    · omega
    · exact q
  have ur : UncR w h sh mined number z (fc w h) st := Or.inr ⟨hf, fl⟩
  have g2 := ((GSt.zero (mined := mined) (number := number) hz).unc fb (by rw [hz _ fb.1 fb.2]; decide) ur).1
  rw [show 0 + k = kn (w * h) st by omega]
  refine hp z st ci2 un2 hi2 cd2 wt2 hz ur d2 g2 (by omega) fl.2.1 (fun c c0 c1 => ?_)
  rcases fl.1 c c0 c1 with e | ⟨_, e, _⟩
  · rw [e, hz c c0 c1]; decide
  · rw [e]; decide
theorem PE.done {w h sh most g : Int} {mined number st : Int → Int} (q : most < g ∨ Slv (w * h) mined st) : PE w h sh mined number most 0 st g st := ⟨q, fun _ _ _ => rfl⟩
