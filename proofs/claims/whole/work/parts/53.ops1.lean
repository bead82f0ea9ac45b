/-! the two sides on one board, and the calls that change it -/
def RB (w h sh bb mines moves ch : Int) (mined number st ci un hi ms cd near nearEnd : Int → Int) (ib lives mvs : Int) (mnear degree mine M : Int → Int) (H : Int → Int64) (old : Int → Int) : Prop :=
  okB w h sh ∧ GeoD w h sh near nearEnd ∧ GeoM w h sh mnear degree ∧ DMi w h sh mined number mines ∧ Eqc (w * h) mine mined ∧ DSt w h sh st ci un hi ∧ (∀ c, 0 ≤ c → c < w * h → M c = tr (st c)) ∧ GSt w h sh mined number st ∧ lives = 3 - hits (w * h) st ∧ mvs = moves ∧ LOG w h sh mined number moves ch st ms cd H old ∧ ib = bb
theorem tr_b {s : Int} (h : 0 ≤ s ∧ s ≤ 3) : 0 ≤ tr s ∧ tr s ≤ 3 := by
  rcases (show s = 0 ∨ s = 1 ∨ s = 2 ∨ s = 3 by omega) with e | e | e | e <;> subst e <;> decide
theorem trEq {n : Int} {M st : Int → Int} (h : ∀ c, 0 ≤ c → c < n → M c = tr (st c)) : Eqc n (fun c => tr (M c)) st := fun c h0 h1 => by
  show tr (M c) = st c
  rw [h c h0 h1, tr_tr]
theorem num_congr {w h sh : Int} {mine mined : Int → Int} (e : Eqc (w * h) mine mined) {c : Int} : Num w h sh mine c = Num w h sh mined c := sumL_congr (fun x hx => by have := nb_cell hx; exact e x this.1 this.2)
theorem s_needBoard1 {post : Prop} {px : Int → Prop} (hp : post) : P_X11_needBoard post px 1 := ⟨fun _ => hp, fun q => absurd q (by omega)⟩
theorem s_needBoard0 {post : Prop} {px : Int → Prop} (hp : px 1) : P_X11_needBoard post px 0 := ⟨fun q => absurd rfl q, fun _ => hp⟩
theorem s_cellAt1 {post px : Int → Prop} {w h sh r c : Int} (ok : okB w h sh) (h1 : (0 ≤ r ∧ r < h ∧ 0 ≤ c ∧ c < w) → post (r * w + c)) (h0 : ¬ (0 ≤ r ∧ r < h ∧ 0 ≤ c ∧ c < w) → px 2) : P_X11_cellAt post px 1 w h r c := by
  have hle := wh_le ok
  unfold P_X11_cellAt
  refine s_needBoard1 (s_has (fun q _ => ⟨fun _ => ?_, fun z => absurd z (by omega)⟩) (fun q _ => ⟨fun z => absurd rfl z, fun _ => h0 q⟩))
  have := rc_lt q.1 q.2.1 q.2.2.1 q.2.2.2
  exact s_cell (by omega) (fun _ => h1 q)
theorem s_cellAt0 {post px : Int → Prop} {w h r c : Int} (hp : px 1) : P_X11_cellAt post px 0 w h r c := s_needBoard0 hp
theorem s_hasM1 {post : Int → Int → Prop} {w h sh r c : Int} (ok : okB w h sh) (h1 : (0 ≤ r ∧ r < h ∧ 0 ≤ c ∧ c < w) → post 1 0) (h0 : ¬ (0 ≤ r ∧ r < h ∧ 0 ≤ c ∧ c < w) → post 0 2) : P_X12_has post 0 w h 1 r c := by
  obtain ⟨w0, w1, hh0, hh3, -⟩ := id ok
  unfold P_X12_has
  refine ⟨fun z => (z = 0 ∧ (0 ≤ r ∧ r < h ∧ 0 ≤ c ∧ c < w)) ∨ (z = 2 ∧ ¬ (0 ≤ r ∧ r < h ∧ 0 ≤ c ∧ c < w)), ⟨fun _ => ?_, fun z => absurd z (by omega)⟩, fun z hz => exJi ⟨fun q _ => ⟨by omega, ?_⟩, fun q _ => ⟨by omega, ?_⟩⟩⟩
  · unfold P_X12_isCell
    refine ⟨by omega, s_within (fun q1 _ => exJi ⟨¬ (0 ≤ c ∧ c < w), ⟨fun z => absurd z (by omega), fun _ => ⟨by omega, s_within (fun q2 _ => ⟨fun z => absurd z (by omega), fun _ _ => ⟨by omega, fun _ => ⟨fun _ => Or.inl ⟨rfl, by omega⟩, fun z => absurd z (by omega)⟩⟩⟩) (fun q2 _ => ⟨fun _ => by omega, fun z => absurd rfl z⟩)⟩⟩, fun q2 _ => ⟨by omega, fun _ => ⟨fun z => absurd rfl z, fun _ => Or.inr ⟨rfl, by omega⟩⟩⟩⟩) (fun q1 _ => exJi ⟨True, ⟨fun _ => trivial, fun z => absurd rfl z⟩, fun _ _ => ⟨by omega, fun _ => ⟨fun z => absurd rfl z, fun _ => Or.inr ⟨rfl, by omega⟩⟩⟩⟩)⟩
  · rcases hz with hz | hz
    · omega
    · rw [hz.1]; exact h0 hz.2
  · rcases hz with hz | hz
    · rw [hz.1]; exact h1 hz.2
    · omega
theorem s_hasM0 {post : Int → Int → Prop} {w h r c : Int} (hp : post 0 1) : P_X12_has post 0 w h 0 r c := by
  unfold P_X12_has
  exact ⟨fun z => z = 1, ⟨fun z => absurd rfl z, fun _ => rfl⟩, fun z hz => exJi ⟨fun q _ => ⟨by omega, by rw [hz]; exact hp⟩, fun q => by omega⟩⟩
theorem in3_hits {w h sh : Int} {st ci un hi : Int → Int} (d : DSt w h sh st ci un hi) : ci 3 = hits (w * h) st := d.2.1 3 (by omega) (by omega)
theorem s_lives {post : Int → Prop} {w h sh : Int} {st ci un hi : Int → Int} (ok : okB w h sh) (d : DSt w h sh st ci un hi) (hp : post (3 - hits (w * h) st)) : P_X2_lives post ci := by
  have hle := wh_le ok
  have hge := wh_ge ok
  have := hits_b (n := w * h) (st := st) (by omega)
  intro v ev rv
  rw [in3_hits d] at ev
  subst ev
  exact ⟨by omega, hp⟩
theorem s_allowsMove {post : Int → Prop} {w h sh moves : Int} {st ci un hi : Int → Int} (ok : okB w h sh) (d : DSt w h sh st ci un hi) (h1 : 0 < 3 - hits (w * h) st ∧ moves < 512 → post 1) (h0 : ¬ (0 < 3 - hits (w * h) st ∧ moves < 512) → post 0) : P_X2_allowsMove post moves ci := by
  unfold P_X2_allowsMove
  refine s_lives ok d ?_
  repeat' (first | refine exJi ?_ | refine exJ0 ?_ | refine And.intro ?_ ?_ | intro _)
  all_goals first | omega | exact h1 (by omega) | exact h0 (by omega)
theorem wrc {w r c : Int} : w * r + c = r * w + c := by rw [Int.mul_comm]
theorem op_open {w h sh bb mines moves ch ib lives mvs thr r c : Int} {mined number st ci un hi ms cd wt near nearEnd mnear degree mine M old : Int → Int} {H : Int → Int64} (R : RB w h sh bb mines moves ch mined number st ci un hi ms cd near nearEnd ib lives mvs mnear degree mine M H old) (hmv : moves ≤ 511) :
    P_X11_open (fun res moves' ch' st' ci' un' hi' ms' cd' _ => P_X12_open (fun b t lives' mvs' M' H' old' => t = 0 ∧ b = res ∧ RB w h sh bb mines moves' ch' mined number st' ci' un' hi' ms' cd' near nearEnd ib lives' mvs' mnear degree mine M' H' old' ∧ moves' = moves + 1) thr w h (w * h) 1 lives mvs mnear degree mine M H old r c)
      (fun k moves' ch' st' ci' un' hi' ms' cd' _ => P_X12_open (fun _ t lives' mvs' M' H' old' => t = k ∧ RB w h sh bb mines moves' ch' mined number st' ci' un' hi' ms' cd' near nearEnd ib lives' mvs' mnear degree mine M' H' old' ∧ moves' = moves) thr w h (w * h) 1 lives mvs mnear degree mine M H old r c)
      1 moves ch w h mined number st ci un hi ms cd wt near nearEnd r c := by
  obtain ⟨ok, gD, gM, dm, em, ds, eM, gs, el, emv, L, eb⟩ := id R
  have hle := wh_le ok
  have hge := wh_ge ok
  subst el
  replace emv := emv.symm
  subst emv
  have hb := hits_b (n := w * h) (st := st) (by omega)
  have l1 := L.1
  unfold P_X11_open
  refine s_cellAt1 ok (fun q => ?_) (fun q => ?_)
  · have hc := rc_lt q.1 q.2.1 q.2.2.1 q.2.2.2
    intro _
    generalize ec : r * w + c = cell at *
    have hsc := ds.1 cell hc.1 hc.2
    have bad : ¬ (st cell = 0 ∧ 0 < 3 - hits (w * h) st) → P_X12_open (fun _ t lives' mvs' M' H' old' => t = 3 ∧ RB w h sh bb mines moves ch mined number st ci un hi ms cd near nearEnd ib lives' mvs' mnear degree mine M' H' old' ∧ moves = moves) thr w h (w * h) 1 (3 - hits (w * h) st) moves mnear degree mine M H old r c := by
      intro hbad
      unfold P_X12_open
      refine s_hasM1 ok (fun _ _ => ⟨fun _ => ⟨by rw [wrc, ec]; omega, fun x ex => ?_⟩, fun z => absurd z (by omega)⟩) (fun z => absurd q z)
      rw [wrc, ec] at ex
      subst ex
      refine ⟨by omega, fun v ev rv => ⟨True, ⟨fun _ => trivial, fun z => ⟨fun z2 => ?_, fun _ => trivial⟩⟩, fun _ => fun _ => ⟨rfl, R, rfl⟩⟩⟩
      exfalso
      rw [ev, eM x hc.1 hc.2] at z
      refine hbad ⟨?_, by omega⟩
      rcases (show st x = 0 ∨ st x = 1 ∨ st x = 2 ∨ st x = 3 by omega) with e | e | e | e
      · exact e
      all_goals (rw [e] at z; exact absurd z (by decide))
    refine s_allowsMove ok ds (fun q2 _ => ⟨fun z => absurd z (by omega), fun _ => ⟨by omega, fun v ev rv => ⟨fun z => ?_, fun z => bad (fun y => z (by omega))⟩⟩⟩) (fun q2 _ => ⟨fun _ => bad (fun y => q2 ⟨y.2, by omega⟩), fun z => absurd rfl z⟩)
    refine ⟨fun z2 => absurd z2 (by omega), fun _ => ⟨by have := L.1; omega, fun ms2 ems => ⟨by omega, fun mv2 emv2 => ?_⟩⟩⟩
    subst ems emv2
    have l3 := L.2.2.1
    refine s_uncover ok gD ds hc (by omega) ⟨L.2.1, by omega⟩ (dm.1 cell hc.1 hc.2) (fun x x0 x1 => dm.zero x0 x1) (fun k st' ci' un' hi' cd' wt' ds' k1 k2 k3 k4 k5 k6 => ⟨by omega, fun v2 ev2 rv2 => ?_⟩)
    have kn0 := kn_b (n := w * h) (st := st) (by omega)
    have u1 : UncR w h sh mined number st cell st' := by
      rcases k6 with k6 | k6
      · exact Or.inl ⟨k6.1, fun x _ _ => by rw [k6.2]⟩
      · exact Or.inr k6
    obtain ⟨gs', hh'⟩ := gs.unc hc (by omega) u1
    have main : ∀ res : Int, res = (if mined cell = 0 then number cell else 9) → P_X12_open (fun b t lives' mvs' M' H' old' => t = 0 ∧ b = res ∧ RB w h sh bb mines (moves + 1) (ch + k) mined number st' ci' un' hi' (upZ ms moves ch) cd' near nearEnd ib lives' mvs' mnear degree mine M' H' old' ∧ moves + 1 = moves + 1) thr w h (w * h) 1 (3 - hits (w * h) st) moves mnear degree mine M H old r c := by
      intro res hres
      unfold P_X12_open
      refine s_hasM1 ok (fun _ _ => ⟨fun _ => ⟨by rw [wrc, ec]; omega, fun x ex => ?_⟩, fun z => absurd z (by omega)⟩) (fun z => absurd q z)
      rw [wrc, ec] at ex
      subst ex
      have m0 : M x = 0 := by rw [eM x hc.1 hc.2, show st x = 0 by omega]; rfl
      refine ⟨by omega, fun v ev rv => ⟨False, ⟨fun z3 => absurd (by rw [ev]; exact m0) z3, fun z3 => ⟨fun z4 => ?_, fun z4 => absurd z4 (by omega)⟩⟩, fun z3 => z3.elim⟩⟩
      refine s_keep ⟨by omega, by omega⟩ ⟨by omega, by omega⟩ (fun y y0 y1 => by rw [eM y y0 y1]; exact tr_b (ds.1 y y0 y1)) (fun H' hH1 hH2 => ?_)
      refine s_uncoverM ok gM hc (fun y y0 y1 => by rw [em y y0 y1]; exact dm.1 y y0 y1) (fun y y0 y1 => by rw [eM y y0 y1]; exact tr_b (ds.1 y y0 y1)) (by rw [m0]; decide) (by omega) (fun y y0 y1 hy hz dd hdd => ?_) (fun lives' M' hM' hu => ⟨by omega, fun v3 ev3 rv3 => ?_⟩)
      · have dc := nb_cell hdd
        rw [eM y y0 y1, tr_tr] at hy
        rw [eM dd dc.1 dc.2, tr_tr]
        exact gs.2.2.2 y y0 y1 hy (by rw [dm.2.1 y y0 y1, ← num_congr em]; exact hz) dd hdd
      · have u2 : UncR w h sh mine (Num w h sh mine) (fun y => tr (M y)) x (fun y => tr (M' y)) := by
          rcases hu with hu | hu
          · exact Or.inl ⟨hu.1, fun y _ _ => by rw [hu.2.2]⟩
          · exact Or.inr ⟨hu.1, hu.2.2⟩
        have eq : Eqc (w * h) (fun y => tr (M' y)) st' := UncR.uniq hc em (fun y y0 y1 => by rw [num_congr em, ← dm.2.1 y y0 y1]) (trEq eM) (fun y y0 y1 => dm.zero y0 y1) u2 u1
        have eM' : ∀ y, 0 ≤ y → y < w * h → M' y = tr (st' y) := fun y y0 y1 => by rw [← eq y y0 y1, tr_tr]
        have elv : lives' = 3 - hits (w * h) st' := by
          rw [hh']
          have := em x hc.1 hc.2
          rcases hu with hu | hu
          · omega
          · omega
        have L' := L.push (k := k) (st' := st') hle gs (by omega) (by omega) k3 k4 k5 (H' := H') (fun y y0 y1 => by rw [hH1 y y0 y1]; exact eM y y0 y1) hH2
        have RB' : RB w h sh bb mines (moves + 1) (ch + k) mined number st' ci' un' hi' (upZ ms moves ch) cd' near nearEnd ib lives' (moves + 1) mnear degree mine M' H' (upZ old moves (3 - hits (w * h) st)) := ⟨ok, gD, gM, dm, em, ds', eM', gs', elv, rfl, L', eb⟩
        have s3 : st' x = 3 ↔ mined x = 1 := by
          rcases u1 with u | u
          · rw [u.2 x hc.1 hc.2, upZ_s]; exact ⟨fun _ => u.1, fun _ => rfl⟩
          · rw [u.2.2.1]; exact ⟨fun y => absurd y (by omega), fun y => by omega⟩
        have mx := dm.1 x hc.1 hc.2
        have v3e : v3 = 3 ↔ mined x = 1 := by
          rw [ev3, eM' x hc.1 hc.2, ← s3]
          have := ds'.1 x hc.1 hc.2
          rcases (show st' x = 0 ∨ st' x = 1 ∨ st' x = 2 ∨ st' x = 3 by omega) with e | e | e | e <;> rw [e] <;> decide
        refine exJi ⟨fun z5 => s_numberOf ok gM hc (fun y y0 y1 => by rw [em y y0 y1]; exact dm.1 y y0 y1) (fun _ _ => ⟨rfl, ?_, RB', rfl⟩), fun z5 _ => ⟨rfl, ?_, RB', rfl⟩⟩
        · rw [hres, if_pos (by rcases mx with e | e <;> first | exact e | exact absurd (v3e.mpr e) z5), num_congr em, dm.2.1 x hc.1 hc.2]
        · rw [hres, if_neg (by have := v3e.mp z5; omega)]
    refine exJi ⟨fun z2 => ⟨by omega, fun v3 ev3 rv3 _ => main v3 ?_⟩, fun z2 _ => main 9 ?_⟩
    · rw [if_pos (by omega)]; exact ev3
    · rw [if_neg (by omega)]
  · unfold P_X12_open
    refine s_hasM1 ok (fun z => absurd z q) (fun _ _ => ⟨fun z => absurd rfl z, fun _ => ⟨rfl, R, rfl⟩⟩)
