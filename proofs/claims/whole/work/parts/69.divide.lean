/-! the reference's parts -/
def Bd (w h sh : Int) (st : Int → Int) (Ch : Int → Prop) (c : Int) : Prop := (0 ≤ c ∧ c < w * h) ∧ st c ≤ 1 ∧ ∃ n, Ch n ∧ c ∈ NB w h sh n
def UsOk (w h sh : Int) (st us : Int → Int) (Ch : Int → Prop) : Prop := ∀ n, 0 ≤ n → n < w * h → (us n = 0 ∨ us n = 1) ∧ (us n = 1 → st n = 2) ∧ (Ch n ↔ (us n = 1 ∧ ∃ d ∈ NB w h sh n, st d ≤ 1))
/-- labels, after the numbers below x -/
def JL (w h sh : Int) (st : Int → Int) (Ch : Int → Prop) (x : Int) (po : Int → Int) : Prop :=
  (∀ c, 0 ≤ c → c < w * h → po c = -1 ∨ (1000 ≤ po c ∧ po c - 1000 < x ∧ Ch (po c - 1000) ∧ Bd w h sh st Ch c)) ∧
  (∀ n, Ch n → n < x → ∀ d ∈ NB w h sh n, st d ≤ 1 → ¬ po d = -1 ∧ ∀ e ∈ NB w h sh n, st e ≤ 1 → po d = po e) ∧
  (∀ d e, (0 ≤ d ∧ d < w * h) → (0 ≤ e ∧ e < w * h) → ¬ po d = -1 → po d = po e → Cn w h sh st Ch d e)
/-- labels while number n is joined: po0 before, those of the list done -/
def JA (w h sh : Int) (st : Int → Int) (n : Int) (po0 : Int → Int) (l : List Int) (po : Int → Int) : Prop :=
  ∀ c, 0 ≤ c → c < w * h → (((c ∈ l ∧ st c ≤ 1) ∨ (0 ≤ po0 c ∧ ∃ d ∈ l, st d ≤ 1 ∧ po0 d = po0 c)) → po c = 1000 + n) ∧ (¬ ((c ∈ l ∧ st c ≤ 1) ∨ (0 ≤ po0 c ∧ ∃ d ∈ l, st d ≤ 1 ∧ po0 d = po0 c)) → po c = po0 c)
theorem s_joinAround {w h sh n : Int} {near degree mine M mined number st po0 : Int → Int} {post : (Int → Int) → Prop} (E : ME w h sh near degree mine M mined number st) (hn : 0 ≤ n ∧ n < w * h) (hl0 : ∀ c, 0 ≤ c → c < w * h → ¬ po0 c = 1000 + n) (hl1 : ∀ c, 0 ≤ c → c < w * h → -1 ≤ po0 c)
    (hp : ∀ po : Int → Int, JA w h sh st n po0 (NB w h sh n) po → post po) : P_X12_joinAround post (w * h) near degree M po0 n := by
  have ok := E.1
  have g := E.2.1
  have hle := wh_le ok
  have hge := wh_ge ok
  have hl := NB_len ok hn
  have ge := (g n hn.1 hn.2).1
  unfold P_X12_joinAround
  refine ⟨by omega, fun L eL => ⟨fun k x po => k = (degree n - x).toNat ∧ 0 ≤ x ∧ x ≤ degree n ∧ JA w h sh st n po0 ((NB w h sh n).take x.toNat) po, ⟨_, rfl, by omega, by omega, fun c _ _ => ⟨fun y => by rcases y with y | ⟨-, d, hd, -⟩ <;> simp at *, fun _ => rfl⟩⟩, ?_⟩⟩
  rintro k x po rx ⟨rfl, b1, b2, b3⟩
  refine ⟨by omega, fun v ev rv => ⟨fun q => ?_, fun q => ?_⟩⟩
  · rw [rowM_end g hn (by omega)] at b3
    exact hp po b3
  · obtain ⟨m, t⟩ := rowM_at g hn b1 (by omega)
    have mc := nb_cell m
    refine ⟨by omega, fun v2 ev2 rv2 => ?_⟩
    subst ev2
    have e1 : (x + 1).toNat = x.toNat + 1 := by omega
    refine s_unkM E mc (fun u hu iu _ => exJ1 ⟨fun z => nx (by omega) ⟨_, ?_, rfl, by omega, by omega, ?_⟩, fun z => ⟨by omega, fun old eo ro => ⟨by omega, fun po1 ep1 => ?_⟩⟩⟩)
    · omega
    · rw [e1, t]
      have nu : ¬ st (near (8 * n + x)) ≤ 1 := fun y => by have := iu.mpr y; omega
      intro c c0 c1
      refine ⟨fun y => (b3 c c0 c1).1 ?_, fun y => (b3 c c0 c1).2 (fun y2 => y ?_)⟩
      · rcases y with ⟨y1, y2⟩ | ⟨y1, d, hd, y2, y3⟩
        · rcases List.mem_append.mp y1 with y1 | y1
          · exact Or.inl ⟨y1, y2⟩
          · rw [List.mem_singleton.mp y1] at y2; exact absurd y2 nu
        · rcases List.mem_append.mp hd with hd | hd
          · exact Or.inr ⟨y1, d, hd, y2, y3⟩
          · rw [List.mem_singleton.mp hd] at y2; exact absurd y2 nu
      · rcases y2 with ⟨y1, y3⟩ | ⟨y1, d, hd, y3⟩
        · exact Or.inl ⟨List.mem_append_left _ y1, y3⟩
        · exact Or.inr ⟨y1, d, List.mem_append_left _ hd, y3⟩
    · have ux := iu.mp (by omega)
      have bx := b3 _ mc.1 mc.2
      -- old is the label itself, or what stood there before
      have oldc : (old = 1000 + n ∧ 0 ≤ po0 (near (8 * n + x)) ∧ ∃ d ∈ (NB w h sh n).take x.toNat, st d ≤ 1 ∧ po0 d = po0 (near (8 * n + x))) ∨ (old = 1000 + n ∧ near (8 * n + x) ∈ (NB w h sh n).take x.toNat) ∨ old = po0 (near (8 * n + x)) := by
        by_cases y : (near (8 * n + x) ∈ (NB w h sh n).take x.toNat ∧ st (near (8 * n + x)) ≤ 1) ∨ (0 ≤ po0 (near (8 * n + x)) ∧ ∃ d ∈ (NB w h sh n).take x.toNat, st d ≤ 1 ∧ po0 d = po0 (near (8 * n + x)))
        · have := bx.1 y
          rcases y with y | y
          · exact Or.inr (Or.inl ⟨by omega, y.1⟩)
          · exact Or.inl ⟨by omega, y⟩
        · exact Or.inr (Or.inr (by rw [eo]; exact bx.2 y))
      have fin : ∀ po2 : Int → Int, (∀ c, 0 ≤ c → c < w * h → po2 c = (if 0 ≤ old ∧ po1 c = old then 1000 + n else po1 c)) → ∃ k : Nat, k < (degree n - x).toNat ∧ (k = (degree n - (x + 1)).toNat ∧ 0 ≤ x + 1 ∧ x + 1 ≤ degree n ∧ JA w h sh st n po0 ((NB w h sh n).take (x + 1).toNat) po2) := by
        intro po2 h2
        refine ⟨_, ?_, rfl, by omega, by omega, ?_⟩
        · omega
        · rw [e1, t]
          intro c c0 c1
          have bc := b3 c c0 c1
          rw [h2 c c0 c1, ep1]
          by_cases ec : c = near (8 * n + x)
          · rw [ec, upZ_s]
            refine ⟨fun _ => by split <;> omega, fun y => absurd (Or.inl ⟨List.mem_append_right _ (List.mem_singleton.mpr rfl), ux⟩) y⟩
          · rw [upZ_n _ _ ec]
            refine ⟨fun y => ?_, fun y => ?_⟩
            · -- c takes the label
              by_cases was : (c ∈ (NB w h sh n).take x.toNat ∧ st c ≤ 1) ∨ (0 ≤ po0 c ∧ ∃ d ∈ (NB w h sh n).take x.toNat, st d ≤ 1 ∧ po0 d = po0 c)
              · rw [bc.1 was]; split <;> omega
              · rw [bc.2 was]
                have key : 0 ≤ po0 c ∧ po0 (near (8 * n + x)) = po0 c := by
                  rcases y with ⟨y1, y2⟩ | ⟨y1, d, hd, y2, y3⟩
                  · rcases List.mem_append.mp y1 with y1 | y1
                    · exact absurd (Or.inl ⟨y1, y2⟩) was
                    · exact absurd (List.mem_singleton.mp y1) ec
                  · rcases List.mem_append.mp hd with hd | hd
                    · exact absurd (Or.inr ⟨y1, d, hd, y2, y3⟩) was
                    · rw [List.mem_singleton.mp hd] at y3; exact ⟨y1, y3⟩
                have : old = po0 c := by
                  rcases oldc with ⟨-, -, d, hd, y2, y3⟩ | ⟨-, hm⟩ | y2
                  · exact absurd (Or.inr ⟨key.1, d, hd, y2, by omega⟩) was
                  · exact absurd (Or.inr ⟨key.1, _, hm, ux, key.2⟩) was
                  · omega
                rw [if_pos ⟨by omega, this.symm⟩]
            · have was : ¬ ((c ∈ (NB w h sh n).take x.toNat ∧ st c ≤ 1) ∨ (0 ≤ po0 c ∧ ∃ d ∈ (NB w h sh n).take x.toNat, st d ≤ 1 ∧ po0 d = po0 c)) := by
                intro y2
                apply y
                rcases y2 with ⟨y1, y3⟩ | ⟨y1, d, hd, y3⟩
                · exact Or.inl ⟨List.mem_append_left _ y1, y3⟩
                · exact Or.inr ⟨y1, d, List.mem_append_left _ hd, y3⟩
              rw [bc.2 was, if_neg]
              rintro ⟨y1, y2⟩
              have l0 := hl0 c c0 c1
              rcases oldc with ⟨y3, -⟩ | ⟨y3, -⟩ | y3
              · omega
              · omega
              · exact y (Or.inr ⟨by omega, _, List.mem_append_right _ (List.mem_singleton.mpr rfl), ux, by omega⟩)
      refine ⟨fun k y po2 => k = (w * h - y).toNat ∧ 0 ≤ y ∧ y ≤ w * h ∧ (∀ c, 0 ≤ c → c < w * h → po2 c = (if c < y ∧ 0 ≤ old ∧ po1 c = old then 1000 + n else po1 c)), ⟨_, rfl, by omega, by omega, fun c _ _ => (if_neg (by omega)).symm⟩, ?_⟩
      rintro k y po2 ry ⟨rfl, c1, c2, c3⟩
      refine ⟨fun z2 => nx (by omega) (fin po2 (fun c h0 h1 => ?_)), fun z2 => ⟨fun z3 => nx (by omega) (fin po2 (fun c h0 h1 => ?_)), fun z3 => ⟨by omega, fun v3 ev3 rv3 => ?_⟩⟩⟩
      · rw [c3 c h0 h1]
        by_cases z3 : 0 ≤ old ∧ po1 c = old
        · rw [if_pos z3, if_pos ⟨by omega, z3⟩]
        · rw [if_neg z3, if_neg (fun y2 => z3 y2.2)]
      · rw [c3 c h0 h1, if_neg (by omega), if_neg (by omega)]
      · have py : po2 y = po1 y := by rw [c3 y c1 (by omega), if_neg (by omega)]
        refine ⟨fun z => z = (if po1 y = old then 1000 + n else po1 y), ⟨fun z4 => ⟨by omega, fun v4 ev4 rv4 => ?_⟩, fun z4 => ?_⟩, fun z4 _ ez4 => ⟨by omega, fun po3 ep3 => nx (by omega) ⟨_, ?_, rfl, by omega, by omega, fun c h0 h1 => ?_⟩⟩⟩
        · rw [if_neg (by omega)]; omega
        · rw [if_pos (by omega)]; exact eL
        · omega
        · rw [ep3]
          by_cases ec : c = y
          · rw [ec, upZ_s, ez4]
            by_cases z5 : po1 y = old
            · rw [if_pos z5, if_pos ⟨by omega, by omega, z5⟩]
            · rw [if_neg z5, if_neg (fun y2 => z5 y2.2.2)]
          · rw [upZ_n _ _ ec, c3 c h0 h1]
            by_cases z5 : c < y ∧ 0 ≤ old ∧ po1 c = old
            · rw [if_pos z5, if_pos ⟨by omega, z5.2⟩]
            · rw [if_neg z5, if_neg (fun y2 => z5 ⟨by omega, y2.2⟩)]
theorem JL.step {w h sh n : Int} {st us po0 po : Int → Int} {Ch : Int → Prop} (hn : 0 ≤ n ∧ n < w * h) (us1 : us n = 1) (uk : UsOk w h sh st us Ch) (cok : ChOk w h sh st Ch) (j : JL w h sh st Ch n po0) (a : JA w h sh st n po0 (NB w h sh n) po) : JL w h sh st Ch (n + 1) po := by
  obtain ⟨j1, j2, j3⟩ := j
  have chn : ∀ d ∈ NB w h sh n, st d ≤ 1 → Ch n := fun d hd ud => (uk n hn.1 hn.2).2.2.mpr ⟨us1, d, hd, ud⟩
  refine ⟨fun c c0 c1 => ?_, fun m hm hmn d hd ud => ?_, fun d e hd he hne hde => ?_⟩
  · by_cases y : (c ∈ NB w h sh n ∧ st c ≤ 1) ∨ (0 ≤ po0 c ∧ ∃ d ∈ NB w h sh n, st d ≤ 1 ∧ po0 d = po0 c)
    · rw [(a c c0 c1).1 y, show 1000 + n - 1000 = n by omega]
      rcases y with y | ⟨y1, d, hd, ud, -⟩
      · exact Or.inr ⟨by omega, by omega, chn c y.1 y.2, ⟨c0, c1⟩, y.2, n, chn c y.1 y.2, y.1⟩
      · rcases j1 c c0 c1 with z | z
        · omega
        · exact Or.inr ⟨by omega, by omega, chn d hd ud, z.2.2.2⟩
    · rw [(a c c0 c1).2 y]
      rcases j1 c c0 c1 with z | z
      · exact Or.inl z
      · exact Or.inr ⟨z.1, by omega, z.2.2⟩
  · by_cases em : m = n
    · rw [em] at hd ⊢
      have dc := nb_cell hd
      refine ⟨by rw [(a d dc.1 dc.2).1 (Or.inl ⟨hd, ud⟩)]; omega, fun e he ue => ?_⟩
      have ec := nb_cell he
      rw [(a d dc.1 dc.2).1 (Or.inl ⟨hd, ud⟩), (a e ec.1 ec.2).1 (Or.inl ⟨he, ue⟩)]
    · have dc := nb_cell hd
      obtain ⟨q1, q2⟩ := j2 m hm (by omega) d hd ud
      have pos : 0 ≤ po0 d := by rcases j1 d dc.1 dc.2 with z | z <;> omega
      constructor
      · by_cases y : (d ∈ NB w h sh n ∧ st d ≤ 1) ∨ (0 ≤ po0 d ∧ ∃ d' ∈ NB w h sh n, st d' ≤ 1 ∧ po0 d' = po0 d)
        · rw [(a d dc.1 dc.2).1 y]; omega
        · rw [(a d dc.1 dc.2).2 y]; exact q1
      · intro e he ue
        have ec := nb_cell he
        have qe := q2 e he ue
        have flip : ∀ x y : Int, (0 ≤ x ∧ x < w * h) → (0 ≤ y ∧ y < w * h) → 0 ≤ po0 x → po0 x = po0 y → ((x ∈ NB w h sh n ∧ st x ≤ 1) ∨ (0 ≤ po0 x ∧ ∃ d' ∈ NB w h sh n, st d' ≤ 1 ∧ po0 d' = po0 x)) → ((y ∈ NB w h sh n ∧ st y ≤ 1) ∨ (0 ≤ po0 y ∧ ∃ d' ∈ NB w h sh n, st d' ≤ 1 ∧ po0 d' = po0 y)) := by
          intro x y xc yc px pxy hh
          rcases hh with hh | ⟨-, d', hd', ud', e'⟩
          · exact Or.inr ⟨by omega, x, hh.1, hh.2, pxy⟩
          · exact Or.inr ⟨by omega, d', hd', ud', by omega⟩
        by_cases y : (d ∈ NB w h sh n ∧ st d ≤ 1) ∨ (0 ≤ po0 d ∧ ∃ d' ∈ NB w h sh n, st d' ≤ 1 ∧ po0 d' = po0 d)
        · rw [(a d dc.1 dc.2).1 y, (a e ec.1 ec.2).1 (flip d e dc ec pos qe y)]
        · rw [(a d dc.1 dc.2).2 y, (a e ec.1 ec.2).2 (fun z => y (flip e d ec dc (by omega) qe.symm z))]
          exact qe
  · have tie : ∀ x : Int, (0 ≤ x ∧ x < w * h) → po x = 1000 + n → ∃ d ∈ NB w h sh n, st d ≤ 1 ∧ Cn w h sh st Ch x d := by
      intro x xc px
      by_cases y : (x ∈ NB w h sh n ∧ st x ≤ 1) ∨ (0 ≤ po0 x ∧ ∃ d' ∈ NB w h sh n, st d' ≤ 1 ∧ po0 d' = po0 x)
      · rcases y with y | ⟨y1, d', hd', ud', e'⟩
        · exact ⟨x, y.1, y.2, Cn.refl⟩
        · exact ⟨d', hd', ud', j3 x d' xc (nb_cell hd') (by omega) e'.symm⟩
      · rw [(a x xc.1 xc.2).2 y] at px
        rcases j1 x xc.1 xc.2 with z | z
        · omega
        · omega
    by_cases pl : po d = 1000 + n
    · obtain ⟨x, hx, ux, cx⟩ := tie d hd pl
      obtain ⟨y, hy, uy, cy⟩ := tie e he (by omega)
      exact cx.trans ((Cn.one (chn x hx ux) hx ux hy uy).trans cy.symm)
    · have nd : ¬ ((d ∈ NB w h sh n ∧ st d ≤ 1) ∨ (0 ≤ po0 d ∧ ∃ d' ∈ NB w h sh n, st d' ≤ 1 ∧ po0 d' = po0 d)) := fun z => pl ((a d hd.1 hd.2).1 z)
      have ne : ¬ ((e ∈ NB w h sh n ∧ st e ≤ 1) ∨ (0 ≤ po0 e ∧ ∃ d' ∈ NB w h sh n, st d' ≤ 1 ∧ po0 d' = po0 e)) := fun z => pl (by rw [hde]; exact (a e he.1 he.2).1 z)
      rw [(a d hd.1 hd.2).2 nd] at hne hde
      rw [(a e he.1 he.2).2 ne] at hde
      exact j3 d e hd he hne hde
