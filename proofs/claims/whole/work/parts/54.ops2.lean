/-! flag, undo, shown, edit on both sides -/
theorem op_flag {w h sh bb mines moves ch ib lives mvs thr r c : Int} {mined number st ci un hi ms cd near nearEnd mnear degree mine M old : Int → Int} {H : Int → Int64} (R : RB w h sh bb mines moves ch mined number st ci un hi ms cd near nearEnd ib lives mvs mnear degree mine M H old) (hmv : moves ≤ 511) :
    P_X11_flag (fun res moves' ch' st' ci' un' hi' ms' cd' => P_X12_flag (fun b t mvs' M' H' old' => t = 0 ∧ b = res ∧ RB w h sh bb mines moves' ch' mined number st' ci' un' hi' ms' cd' near nearEnd ib lives mvs' mnear degree mine M' H' old' ∧ moves' = moves + 1) thr w h (w * h) 1 lives mvs M H old r c)
      (fun k moves' ch' st' ci' un' hi' ms' cd' => P_X12_flag (fun _ t mvs' M' H' old' => t = k ∧ RB w h sh bb mines moves' ch' mined number st' ci' un' hi' ms' cd' near nearEnd ib lives mvs' mnear degree mine M' H' old' ∧ moves' = moves) thr w h (w * h) 1 lives mvs M H old r c)
      1 moves ch w h st ci un hi ms cd near nearEnd r c := by
  obtain ⟨ok, gD, gM, dm, em, ds, eM, gs, el, emv, L, eb⟩ := id R
  have hle := wh_le ok
  have hge := wh_ge ok
  subst el
  replace emv := emv.symm
  subst emv
  have hb := hits_b (n := w * h) (st := st) (by omega)
  have l1 := L.1
  unfold P_X11_flag
  refine s_cellAt1 ok (fun q => ?_) (fun q => ?_)
  · have hc := rc_lt q.1 q.2.1 q.2.2.1 q.2.2.2
    intro _
    generalize ec : r * w + c = cell at *
    have hsc := ds.1 cell hc.1 hc.2
    have hsM : 0 ≤ M cell ∧ M cell ≤ 3 := by rw [eM cell hc.1 hc.2]; exact tr_b hsc
    have trM : tr (M cell) = st cell := by rw [eM cell hc.1 hc.2, tr_tr]
    have bad : ¬ (st cell ≤ 1 ∧ 0 < 3 - hits (w * h) st) → P_X12_flag (fun _ t mvs' M' H' old' => t = 3 ∧ RB w h sh bb mines moves ch mined number st ci un hi ms cd near nearEnd ib (3 - hits (w * h) st) mvs' mnear degree mine M' H' old' ∧ moves = moves) thr w h (w * h) 1 (3 - hits (w * h) st) moves M H old r c := by
      intro hbad
      unfold P_X12_flag
      refine s_hasM1 ok (fun _ _ => ⟨fun _ => ⟨by rw [wrc, ec]; omega, fun x ex => ?_⟩, fun z => absurd z (by omega)⟩) (fun z => absurd q z)
      rw [wrc, ec] at ex
      subst ex
      have fin : P_X12_fail (fun (c_10 : Int) (M_thrown_11 : Int) => inR c_10 → (∃ J_12 : (Int) → Prop, ((c_10 ≤ 0 → (J_12 0)) ∧ (¬ c_10 ≤ 0 → (J_12 1))) ∧ (∀ (z_14 : Int), inR z_14 → J_12 z_14 → ((z_14 = 0 ∨ z_14 = 1) ∧ (M_thrown_11 = 3 ∧ RB w h sh bb mines moves ch mined number st ci un hi ms cd near nearEnd ib (3 - hits (w * h) st) moves mnear degree mine M H old ∧ moves = moves))))) 0 3 := fun _ => exJi ⟨fun _ _ => ⟨by omega, rfl, R, rfl⟩, fun z => absurd z (by omega)⟩
      refine s_isUnknownM (by omega) hsM (fun hu _ => ⟨True, ⟨fun _ => trivial, fun _ => ⟨fun z2 => ?_, fun _ => trivial⟩⟩, fun _ => fin⟩) (fun hu _ => ⟨True, ⟨fun _ => trivial, fun z => absurd rfl z⟩, fun _ => fin⟩)
      exact absurd ⟨by omega, by omega⟩ hbad
    refine s_allowsMove ok ds (fun q2 _ => ⟨fun z => absurd z (by omega), fun _ => s_isUnknown (by omega) (fun hu _ => ⟨fun _ => ⟨by omega, fun v ev rv => ?_⟩, fun z => absurd z (by omega)⟩) (fun hu _ => ⟨fun z => absurd rfl z, fun _ => bad (fun y => hu y.1)⟩)⟩) (fun q2 _ => ⟨fun _ => bad (fun y => q2 ⟨y.2, by omega⟩), fun z => absurd rfl z⟩)
    refine ⟨fun z => z = 1 - st cell, ⟨fun z => by omega, fun z => by omega⟩, fun z rz ez => ?_⟩
    refine ⟨fun z2 => absurd z2 (by omega), fun _ => ⟨by omega, fun ms2 ems => ⟨by omega, fun mv2 emv2 => ?_⟩⟩⟩
    subst ems emv2
    refine ⟨fun y => y = z, ⟨fun y => y.symm, fun y => by omega⟩, fun z2 _ ez2 => ?_⟩
    subst ez2
    have l3 := L.2.2.1
    have kn0 := kn_b (n := w * h) (st := st) (by omega)
    have hk : kn (w * h) (upZ st cell z2) = kn (w * h) st := by
      rw [kn_up hc, show iU (st cell) = 1 from if_pos hu, show iU z2 = 1 from if_pos (by omega)]; omega
    have hh : hits (w * h) (upZ st cell z2) = hits (w * h) st := by
      rw [hits_up hc, show iH (st cell) = 0 from if_neg (by omega), show iH z2 = 0 from if_neg (by omega)]; omega
    refine s_change ok gD ds hc (by omega) ⟨L.2.1, by omega⟩ (fun ci' un' hi' ds' => ⟨by omega, ?_⟩)
    have gs' : GSt w h sh mined number (upZ st cell z2) := by
      obtain ⟨g1, g2, g3, g4⟩ := gs
      refine ⟨ds'.1, fun y y0 y1 e => ?_, fun y y0 y1 e => ?_, fun y y0 y1 e hz dd hdd => ?_⟩
      · by_cases qq : y = cell
        · rw [qq, upZ_s] at e; omega
        · rw [upZ_n _ _ qq] at e; exact g2 y y0 y1 e
      · by_cases qq : y = cell
        · rw [qq, upZ_s] at e; omega
        · rw [upZ_n _ _ qq] at e; exact g3 y y0 y1 e
      · by_cases qq : y = cell
        · rw [qq, upZ_s] at e; omega
        · rw [upZ_n _ _ qq] at e
          have := g4 y y0 y1 e hz dd hdd
          by_cases q3 : dd = cell
          · rw [q3] at this; omega
          · rw [upZ_n _ _ q3]; exact this
    unfold P_X12_flag
    refine s_hasM1 ok (fun _ _ => ⟨fun _ => ⟨by rw [wrc, ec]; omega, fun x ex => ?_⟩, fun z => absurd z (by omega)⟩) (fun z => absurd q z)
    rw [wrc, ec] at ex
    subst ex
    refine s_isUnknownM (by omega) hsM (fun hu2 _ => ⟨False, ⟨fun z => absurd z (by omega), fun _ => ⟨fun z3 => ?_, fun z3 => absurd z3 (by omega)⟩⟩, fun z => z.elim⟩) (fun hu2 => absurd (by omega) hu2)
    refine s_keep ⟨by omega, by omega⟩ ⟨by omega, by omega⟩ (fun y y0 y1 => by rw [eM y y0 y1]; exact tr_b (ds.1 y y0 y1)) (fun H' hH1 hH2 => ?_)
    have L' := L.push (k := 1) (st' := upZ st x z2) (cd' := upZ cd ch (x * 4 + st x)) hle gs (by omega) (by omega) (fun j hj => upZ_n _ _ (by omega)) (by
      have := back_more (cd := cd) (lo := ch) (k := 0) (next := z2) (st := st) (c := x) hsc
      rw [show ch + ((0 : Nat) : Int) = ch by omega] at this
      exact this) (fun i i0 i1 => by rw [show i = ch by omega, upZ_s]; omega) (H' := H') (fun y y0 y1 => by rw [hH1 y y0 y1]; exact eM y y0 y1) hH2
    refine ⟨by omega, fun v2 ev2 rv2 => ⟨fun y => y = tr z2, ⟨fun y => ?_, fun y => ?_⟩, fun y ry ey => ⟨by omega, fun M' eM' => ⟨by omega, fun v3 ev3 rv3 => ?_⟩⟩⟩⟩
    · rcases (show st x = 0 ∨ st x = 1 by omega) with e | e
      · exfalso; apply y; rw [ev2, eM x hc.1 hc.2, e]; rfl
      · rw [show z2 = 0 by omega]; rfl
    · rcases (show st x = 0 ∨ st x = 1 by omega) with e | e
      · rw [show z2 = 1 by omega]; rfl
      · exfalso; rw [ev2, eM x hc.1 hc.2, e] at y; exact absurd y (by decide)
    · have RB' : RB w h sh bb mines (moves + 1) (ch + 1) mined number (upZ st x z2) ci' un' hi' (upZ ms moves ch) (upZ cd ch (x * 4 + st x)) near nearEnd ib (3 - hits (w * h) st) (moves + 1) mnear degree mine M' H' (upZ old moves (3 - hits (w * h) st)) := by
        refine ⟨ok, gD, gM, dm, em, ds', fun y2 y0 y1 => ?_, gs', by rw [hh], rfl, L', eb⟩
        by_cases qq : y2 = x
        · rw [qq, eM', upZ_s, upZ_s]; exact ey
        · rw [eM', upZ_n _ _ qq, upZ_n _ _ qq]; exact eM y2 y0 y1
      rw [eM', upZ_s, ey] at ev3
      rcases (show z2 = 0 ∨ z2 = 1 by omega) with e | e
      · exact exJi ⟨fun _ _ => ⟨by omega, rfl, e.symm, RB', rfl⟩, fun y2 => absurd y2 (by rw [ev3, e]; decide)⟩
      · exact exJi ⟨fun y2 => absurd (by rw [ev3, e]; rfl) y2, fun _ _ => ⟨by omega, rfl, e.symm, RB', rfl⟩⟩
  · unfold P_X12_flag
    refine s_hasM1 ok (fun z => absurd z q) (fun _ _ => ⟨fun z => absurd rfl z, fun _ => ⟨rfl, R, rfl⟩⟩)
theorem op_undo {w h sh bb mines moves ch ib lives mvs thr : Int} {mined number st ci un hi ms cd near nearEnd mnear degree mine M old : Int → Int} {H : Int → Int64} (R : RB w h sh bb mines moves ch mined number st ci un hi ms cd near nearEnd ib lives mvs mnear degree mine M H old) (hmv : moves ≤ 512) :
    P_X11_undo (fun res moves' ch' st' ci' un' hi' => P_X12_undo (fun b t lives' mvs' M' => t = 0 ∧ b = res ∧ RB w h sh bb mines moves' ch' mined number st' ci' un' hi' ms cd near nearEnd ib lives' mvs' mnear degree mine M' H old ∧ moves' ≤ moves) thr (w * h) 1 lives mvs M H old)
      (fun k moves' ch' st' ci' un' hi' => P_X12_undo (fun _ t lives' mvs' M' => k = 3 ∧ t = 2 ∧ RB w h sh bb mines moves' ch' mined number st' ci' un' hi' ms cd near nearEnd ib lives' mvs' mnear degree mine M' H old ∧ moves' = moves) thr (w * h) 1 lives mvs M H old)
      1 moves ch st ci un hi ms cd near nearEnd := by
  obtain ⟨ok, gD, gM, dm, em, ds, eM, gs, el, emv, L, eb⟩ := id R
  have hle := wh_le ok
  have hge := wh_ge ok
  replace emv := emv.symm
  subst emv
  have l1 := L.1
  unfold P_X11_undo
  refine s_needBoard1 ⟨fun q => ?_, fun q => ?_⟩
  · obtain ⟨p1, p2, p3, p4, p5⟩ := L.2.2.2.2.1 (moves - 1) (by omega) (by omega)
    have l3 := L.2.2.1
    have kn0 := kn_b (n := w * h) (st := st) (by omega)
    refine s_takeBack ok gD ds ⟨by omega, hmv⟩ ⟨p1.1, p1.2, by omega⟩ L.2.2.2.1 (fun ci' un' hi' ds' => ?_)
    have L' := L.pop (by omega)
    unfold P_X12_undo
    refine ⟨fun _ => ⟨fun _ => ⟨by omega, fun m2 em2 => ?_⟩, fun z => absurd z q⟩, fun z => absurd z (by omega)⟩
    subst em2
    refine ⟨fun n x M' => n = (w * h - x).toNat ∧ 0 ≤ x ∧ x ≤ w * h ∧ ∀ y, 0 ≤ y → y < x → M' y = hD H (moves - 1) y, ⟨_, rfl, by omega, by omega, fun y _ _ => by omega⟩, ?_⟩
    rintro n x M' rx ⟨rfl, b1, b2, b3⟩
    refine ⟨fun z => ⟨by omega, fun v ev rv => ⟨rfl, rfl, ?_, by omega⟩⟩, fun z => ?_⟩
    · exact ⟨ok, gD, gM, dm, em, ds', fun y y0 y1 => by rw [b3 y y0 (by omega)]; exact p4 y y0 y1, p2, by rw [ev]; exact p5, rfl, L', eb⟩
    · have e1 : x.tdiv 32 = x / 32 := Int.tdiv_eq_ediv_of_nonneg b1
      have e2 : x.tmod 32 = x % 32 := Int.tmod_eq_emod_of_nonneg b1
      rw [e1, e2]
      refine ⟨by omega, fun v ev => ⟨by omega, fun M2 eM2 => ⟨by omega, fun y ey => ⟨(w * h - y).toNat, by omega, rfl, by omega, by omega, fun k k0 k1 => ?_⟩⟩⟩⟩
      by_cases ek : k = x
      · rw [ek, eM2, upZ_s, ev]; rfl
      · rw [eM2, upZ_n _ _ ek]; exact b3 k k0 (by omega)
  · unfold P_X12_undo
    exact ⟨fun _ => ⟨fun z => absurd q z, fun _ => fun _ => ⟨rfl, rfl, R, rfl⟩⟩, fun z => absurd z (by omega)⟩
theorem op_shown {w h sh bb mines moves ch ib lives mvs thr r c : Int} {mined number st ci un hi ms cd near nearEnd mnear degree mine M old : Int → Int} {H : Int → Int64} (R : RB w h sh bb mines moves ch mined number st ci un hi ms cd near nearEnd ib lives mvs mnear degree mine M H old) :
    P_X11_shown (fun res => P_X12_shown (fun b t => t = 0 ∧ b = res) thr w h 1 mnear degree mine M r c) (fun k => P_X12_shown (fun _ t => t = k) thr w h 1 mnear degree mine M r c) 1 w h number st r c := by
  obtain ⟨ok, gD, gM, dm, em, ds, eM, gs, el, emv, L, eb⟩ := id R
  have hle := wh_le ok
  unfold P_X11_shown
  refine s_cellAt1 ok (fun q => ?_) (fun q => ?_)
  · have hc := rc_lt q.1 q.2.1 q.2.2.1 q.2.2.2
    intro _
    generalize ec : r * w + c = cell at *
    have hsc := ds.1 cell hc.1 hc.2
    have main : ∀ res : Int, (st cell = 0 → res = 10) → (st cell = 1 → res = 11) → (st cell = 2 → res = number cell) → (st cell = 3 → res = 12) → P_X12_shown (fun b t => t = 0 ∧ b = res) thr w h 1 mnear degree mine M r c := by
      intro res h0 h1 h2 h3
      unfold P_X12_shown
      refine s_hasM1 ok (fun _ _ => ⟨fun _ => ⟨by rw [wrc, ec]; omega, fun x ex => ?_⟩, fun z => absurd z (by omega)⟩) (fun z => absurd q z)
      rw [wrc, ec] at ex
      subst ex
      have eMx := eM x hc.1 hc.2
      refine ⟨by omega, fun v ev rv => exJi ⟨fun z => ⟨by omega, fun v2 ev2 rv2 => ⟨fun z2 => ⟨by omega, fun v3 ev3 rv3 => ⟨fun z3 _ => ⟨rfl, ?_⟩, fun z3 _ => ⟨rfl, ?_⟩⟩⟩, fun z2 _ => ⟨rfl, ?_⟩⟩⟩, fun z => s_numberOf ok gM hc (fun y y0 y1 => by rw [em y y0 y1]; exact dm.1 y y0 y1) (fun _ _ => ⟨rfl, ?_⟩)⟩⟩
      · rw [ev, eMx] at z
        rw [ev2, eMx] at z2
        rw [ev3, eMx] at z3
        rcases (show st x = 0 ∨ st x = 1 ∨ st x = 2 ∨ st x = 3 by omega) with e | e | e | e
        · rw [e] at z2; exact absurd rfl z2
        · rw [e] at z3; exact absurd rfl z3
        · rw [e] at z; exact absurd rfl z
        · exact (h3 e).symm
      · rw [ev3, eMx] at z3
        rcases (show st x = 0 ∨ st x = 1 ∨ st x = 2 ∨ st x = 3 by omega) with e | e | e | e
        · rw [e] at z3; exact absurd z3 (by decide)
        · exact (h1 e).symm
        · rw [e] at z3; exact absurd z3 (by decide)
        · rw [e] at z3; exact absurd z3 (by decide)
      · rw [ev2, eMx] at z2
        rcases (show st x = 0 ∨ st x = 1 ∨ st x = 2 ∨ st x = 3 by omega) with e | e | e | e
        · exact (h0 e).symm
        · rw [e] at z2; exact absurd z2 (by decide)
        · rw [e] at z2; exact absurd z2 (by decide)
        · rw [e] at z2; exact absurd z2 (by decide)
      · rw [ev, eMx] at z
        rcases (show st x = 0 ∨ st x = 1 ∨ st x = 2 ∨ st x = 3 by omega) with e | e | e | e
        · rw [e] at z; exact absurd z (by decide)
        · rw [e] at z; exact absurd z (by decide)
        · rw [h2 e, num_congr em, dm.2.1 x hc.1 hc.2]
        · rw [e] at z; exact absurd z (by decide)
    refine ⟨by omega, fun v ev rv => ⟨fun z => main 11 (by omega) (by omega) (by omega) (by omega), fun z => ⟨by omega, fun v2 ev2 rv2 => main v2 (by omega) (by omega) (fun _ => ev2) (by omega)⟩, fun z => main 12 (by omega) (by omega) (by omega) (by omega), fun z => main 10 (by omega) (by omega) (by omega) (by omega)⟩⟩
  · unfold P_X12_shown
    exact s_hasM1 ok (fun z => absurd z q) (fun _ _ => ⟨fun z => absurd rfl z, fun _ => rfl⟩)
theorem op_edit {w h sh bb mines moves ch ib lives mvs thr r c m : Int} {mined number st ci un hi ms cd near nearEnd mnear degree mine M old : Int → Int} {H : Int → Int64} (R : RB w h sh bb mines moves ch mined number st ci un hi ms cd near nearEnd ib lives mvs mnear degree mine M H old) (hm : m = 0 ∨ m = 1) :
    P_X11_edit (fun res mines' mined' number' => P_X12_edit (fun b t mine' => t = 0 ∧ b = res ∧ RB w h sh bb mines' moves ch mined' number' st ci un hi ms cd near nearEnd ib lives mvs mnear degree mine' M H old) thr w h (w * h) 1 ib mvs mine r c m)
      (fun k mines' mined' number' => P_X12_edit (fun _ t mine' => t = k ∧ RB w h sh bb mines' moves ch mined' number' st ci un hi ms cd near nearEnd ib lives mvs mnear degree mine' M H old) thr w h (w * h) 1 ib mvs mine r c m)
      1 bb mines moves w h mined number near nearEnd r c m := by
  obtain ⟨ok, gD, gM, dm, em, ds, eM, gs, el, emv, L, eb⟩ := id R
  have hle := wh_le ok
  have hge := wh_ge ok
  replace emv := emv.symm
  subst emv
  subst eb
  have l1 := L.1
  unfold P_X11_edit
  refine s_cellAt1 ok (fun q => ?_) (fun q => ?_)
  · have hc := rc_lt q.1 q.2.1 q.2.2.1 q.2.2.2
    intro _
    generalize ec : r * w + c = cell at *
    have bad : ¬ (¬ ib = 0 ∧ moves ≤ 0) → P_X12_edit (fun _ t mine' => t = 3 ∧ RB w h sh ib mines moves ch mined number st ci un hi ms cd near nearEnd ib lives moves mnear degree mine' M H old) thr w h (w * h) 1 ib moves mine r c m := by
      intro hb
      unfold P_X12_edit
      exact s_hasM1 ok (fun _ _ => ⟨fun _ => ⟨True, ⟨fun _ => trivial, fun z => ⟨fun z2 => absurd ⟨z, z2⟩ hb, fun _ => trivial⟩⟩, fun _ => fun _ => ⟨rfl, R⟩⟩, fun z => absurd z (by omega)⟩) (fun z => absurd q z)
    refine ⟨fun z => bad (fun y => y.1 z), fun z => ⟨fun z2 => ?_, fun z2 => bad (fun y => z2 y.2)⟩⟩
    refine s_setMine ok gD dm hc hm (fun number' mines' dm' => ?_)
    have em' : Eqc (w * h) (upZ mine cell m) (upZ mined cell m) := fun y y0 y1 => by
      by_cases e : y = cell
      · rw [e, upZ_s, upZ_s]
      · rw [upZ_n _ _ e, upZ_n _ _ e]; exact em y y0 y1
    have hz : ∀ y, 0 ≤ y → y < w * h → st y = 0 := by
      obtain ⟨-, -, -, -, -, -, l7, -, l9⟩ := L
      have := l7 (by omega)
      subst this
      exact l9
    have RB' : RB w h sh ib mines' moves ch (upZ mined cell m) number' st ci un hi ms cd near nearEnd ib lives moves mnear degree (upZ mine cell m) M H old := by
      refine ⟨ok, gD, gM, dm', em', ds, eM, ⟨gs.1, fun y y0 y1 e => ?_, fun y y0 y1 e => ?_, fun y y0 y1 e => ?_⟩, el, rfl, ?_, rfl⟩
      · rw [hz y y0 y1] at e; omega
      · rw [hz y y0 y1] at e; omega
      · rw [hz y y0 y1] at e; omega
      · obtain ⟨a1, a2, a3, a4, a5, a6, a7, a8, a9⟩ := L
        exact ⟨a1, a2, a3, a4, fun y y0 y1 => by omega, a6, a7, a8, a9⟩
    unfold P_X12_edit
    refine s_hasM1 ok (fun _ _ => ⟨fun _ => ⟨False, ⟨fun z3 => absurd z3 z, fun _ => ⟨fun _ => ?_, fun z3 => absurd z2 z3⟩⟩, fun z3 => z3.elim⟩, fun z => absurd z (by omega)⟩) (fun z => absurd q z)
    rw [wrc, ec]
    refine ⟨by omega, fun mine' emi => ?_⟩
    subst emi
    exact s_minesM ⟨by omega, by omega⟩ (fun y y0 y1 => by rw [em' y y0 y1]; exact dm'.1 y y0 y1) (fun _ => ⟨rfl, by rw [dm'.2.2]; exact sumL_congr (fun y hy => by have := mem_cells.mp hy; exact em' y this.1 this.2), RB'⟩)
  · unfold P_X12_edit
    exact s_hasM1 ok (fun z => absurd z q) (fun _ _ => ⟨fun z => absurd rfl z, fun _ => ⟨rfl, R⟩⟩)
