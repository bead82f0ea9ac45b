/-! make on both sides -/
theorem US.keep {w h sh c : Int} {mined number f : Int → Int} (hc : 0 ≤ c ∧ c < w * h) : ∀ {k : Nat} {st st' : Int → Int} {a a' : Int}, US w h sh mined number f k st a st' a' → st c = 2 → st' c = 2 := by
  intro k
  induction k with
  | zero => intro st st' a a' q e; rw [← q.1 c hc.1 hc.2]; exact e
  | succ k ih =>
    intro st st' a a' q e
    by_cases kk : f (w * h - 1 - k) = 1 ∧ st (w * h - 1 - k) ≤ 1
    · obtain ⟨st1, ur, us⟩ := q.1 kk
      refine ih us ?_
      rcases ur with ⟨_, er⟩ | ⟨_, fl⟩
      · rw [er c hc.1 hc.2, upZ_n _ _ (fun r => by rw [← r] at kk; omega)]; exact e
      · rcases fl.1 c hc.1 hc.2 with r | ⟨r, _⟩
        · rw [r]; exact e
        · omega
    · exact ih (q.2 kk) e
theorem PE.keep {w h sh most c : Int} {mined number : Int → Int} (hc : 0 ≤ c ∧ c < w * h) : ∀ {n : Nat} {st st' : Int → Int} {g : Int}, PE w h sh mined number most n st g st' → st c = 2 → st' c = 2 := by
  intro n
  induction n with
  | zero => intro st st' g q e; rw [← q.2 c hc.1 hc.2]; exact e
  | succ n ih =>
    rintro st st' g ⟨_, f, st1, a, _, us, pe⟩ e
    exact ih pe (us.keep hc e)
theorem s_makeM {w h sh many seed most res thr a1 a2 a3 a4 a5 a6 a7 a8 a9 a10 a11 a12 a13 : Int} {near0 degree0 mine0 M0 sf0 mf0 us0 po0 pl0 sz0 ways0 wth0 ms0 rs0 rc0 mo0 bt z0 md0 nb0 mf9 : Int → Int} {K : Nat} {post : Int → (Int) → (Int) → (Int) → (Int) → (Int) → (Int) → (Int) → (Int) → (Int) → (Int) → (Int) → (Int) → (Int) → (Int) → (Int → Int) → (Int → Int) → (Int → Int) → (Int → Int) → (Int → Int) → (Int → Int) → (Int → Int) → (Int → Int) → (Int → Int) → (Int → Int) → (Int → Int) → (Int → Int) → (Int → Int) → (Int → Int) → (Int → Int) → (Int → Int) → Prop} (ok : okB w h sh) (hmany : 1 ≤ many ∧ many ≤ w * h - 1 - (NB w h sh (fc w h)).length) (hmost : 1 ≤ most ∧ most ≤ 3) (bt_ok : BT bt) (hz0 : ∀ c, 0 ≤ c → c < w * h → z0 c = 0) (sc : ScR w h sh many.toNat (andI seed 2147483647) z0 md0) (hm01 : ∀ c, 0 ≤ c → c < w * h → md0 c = 0 ∨ md0 c = 1) (hnb : ∀ c, 0 ≤ c → c < w * h → nb0 c = Num w h sh md0 c) (ot : OT w h sh most K 0 md0 nb0 res mf9) (hres : res = 0 ∨ res = 1)
    (hp : ∀ (q N : Int) (near degree mine M sf mf us po pl sz ways wth ms rs rc mo : Int → Int), GeoM w h sh near degree → Eqc (w * h) mine mf9 → (∀ c, 0 ≤ c → c < w * h → M c = 0) → post res 0 w h (w * h) sh res 0 3 0 q N 0 0 0 near degree mine M sf mf us po pl sz ways wth ms rs rc mo) :
    P_X12_make post thr a1 a2 a3 a4 a5 a6 a7 a8 a9 a10 a11 a12 a13 near0 degree0 mine0 M0 sf0 mf0 us0 po0 pl0 sz0 ways0 wth0 ms0 rs0 bt rc0 mo0 w h many sh seed most := by
  have hle := wh_le ok
  have hge := wh_ge ok
  have fb := fc_in ok
  obtain ⟨w0, w1, hh0, hh1, -⟩ := id ok
  have e1 : h.tdiv 2 = h / 2 := Int.tdiv_eq_ediv_of_nonneg (by omega)
  have e2 : w.tdiv 2 = w / 2 := Int.tdiv_eq_ediv_of_nonneg (by omega)
  unfold P_X12_make
  refine s_canBe (fun _ _ => ⟨False, ⟨fun y => absurd y (by decide), fun _ => ⟨fun y => by omega, fun _ => s_within (fun _ _ => ⟨fun y => absurd y (by decide), fun _ => s_isTooMany ok (fun y => absurd hmany.2 y) (fun _ _ => ⟨fun _ => ?_, fun y => absurd rfl y⟩)⟩) (fun y => by omega)⟩⟩, fun f => f.elim⟩) (fun y => absurd ok y)
  refine s_setUp ok (fun near1 degree1 mine1 M1 g1 z1 zM1 => ?_)
  rw [e1, e2]
  refine ⟨by show inR (fc w h); omega, fun F eF => ?_⟩
  have eF' : F = fc w h := eF
  subst eF'
  have cf1 : CF w h sh mine1 = w * h - 1 - (NB w h sh (fc w h)).length := CF.start ok z1
  refine s_layM ok g1 z1 ⟨hmany.1, by omega⟩ (fun mine2 m2 sc2 => ?_)
  have em2 : Eqc (w * h) mine2 md0 := ScR.uniq (fun c c0 c1 => by rw [z1 c c0 c1, hz0 c c0 c1]) sc2 sc
  have hfc : md0 (fc w h) = 0 := sc.first ok (hz0 _ fb.1 fb.2)
  refine ⟨fun n s g lv q N mine M sf mf us po pl sz ways wth ms rs rc mo => n = (102 - s).toNat ∧ (0 ≤ s ∧ s ≤ 101) ∧ lv = 3 ∧ ((g = 1 ∧ s ≤ 100 ∧ ∃ (k : Nat) (m nb : Int → Int), Eqc (w * h) mine m ∧ (∀ c, 0 ≤ c → c < w * h → m c = 0 ∨ m c = 1) ∧ (∀ c, 0 ≤ c → c < w * h → nb c = Num w h sh m c) ∧ m (fc w h) = 0 ∧ OT w h sh most k s m nb res mf9) ∨ (g = 0 ∧ res = 0 ∧ Eqc (w * h) mine mf9)), ⟨_, rfl, by omega, rfl, Or.inl ⟨rfl, by omega, K, md0, nb0, em2, hm01, hnb, hfc, ot⟩⟩, ?_⟩
  rintro n s g lv q N mine M sf mf us po pl sz ways wth ms rs rc mo rs' rg ⟨rfl, b1, rfl, b2⟩
  -- the end
  have fin : ∀ (lv' q' N' : Int) (M' sf' mf' us' po' pl' sz' ways' wth' ms' rs'' rc' mo' : Int → Int), g = res → Eqc (w * h) mine mf9 → P_X12_closeAll (fun (M_state_74 : Int → Int) => ((g = 0 ∨ g = 1) ∧ (∃ J_76 : (Int) → Prop, ((g = 0 → (J_76 0)) ∧ (¬ g = 0 → (J_76 1))) ∧ (∀ (z_78 : Int), inR z_78 → J_76 z_78 → (post z_78 0 w h (w * h) sh g 0 3 0 q' N' 0 0 0 near1 degree1 mine M_state_74 sf' mf' us' po' pl' sz' ways' wth' ms' rs'' rc' mo'))))) (w * h) M' := by
    intro lv' q' N' M' sf' mf' us' po' pl' sz' ways' wth' ms' rs'' rc' mo' eg emf
    subst eg
    refine s_closeAllM ⟨by omega, hle⟩ (fun M2 hM2 _ => ⟨hres, ?_⟩)
    refine exJi ⟨fun y _ => ?_, fun y _ => ?_⟩
    · have := hp q' N' near1 degree1 mine M2 sf' mf' us' po' pl' sz' ways' wth' ms' rs'' rc' mo' g1 emf hM2
      rw [y] at this ⊢
      exact this
    · have := hp q' N' near1 degree1 mine M2 sf' mf' us' po' pl' sz' ways' wth' ms' rs'' rc' mo' g1 emf hM2
      rw [hres.resolve_left y] at this ⊢
      exact this
  refine ⟨fun lv' q' N' M' sf' mf' us' po' pl' sz' ways' wth' ms' rs'' rc' mo' => g = res ∧ Eqc (w * h) mine mf9, ⟨fun y => ?_, fun y => ?_⟩, fun lv' q' N' M' sf' mf' us' po' pl' sz' ways' wth' ms' rs'' rc' mo' ⟨q1, q2⟩ => fin lv' q' N' M' sf' mf' us' po' pl' sz' ways' wth' ms' rs'' rc' mo' q1 q2⟩
  · rcases b2 with b2 | b2
    · omega
    · exact ⟨by omega, b2.2.2⟩
  · obtain ⟨g1', s100, k, m, nb, em, m01, en, mf0, ot'⟩ := b2.resolve_right (fun r => y r.1)
    -- the play that stands in the trace
    have tr1 : ∃ (z st1 ste : Int → Int) (n : Nat), (∀ c, 0 ≤ c → c < w * h → z c = 0) ∧ UncR w h sh m nb z (fc w h) st1 ∧ PE w h sh m nb most n st1 1 ste ∧ ((Slv (w * h) m ste ∧ res = 1 ∧ Eqc (w * h) m mf9) ∨ (¬ Slv (w * h) m ste ∧ ((res = 0 ∧ Eqc (w * h) m mf9 ∧ (100 ≤ s ∨ FU w h sh m ste 1 1 (-1) ∨ FU w h sh m ste 0 0 (-1))) ∨ (s < 100 ∧ ∃ (k' : Nat) (a b : Int) (nb' : Int → Int), FU w h sh m ste 1 1 a ∧ FU w h sh m ste 0 0 b ∧ 0 ≤ a ∧ 0 ≤ b ∧ (∀ c, 0 ≤ c → c < w * h → nb' c = Num w h sh (upZ (upZ m a 0) b 1) c) ∧ OT w h sh most k' (s + 1) (upZ (upZ m a 0) b 1) nb' res mf9)))) := by
      cases k with
      | zero =>
        obtain ⟨z, st1, ste, n, o1, o2, o3, o4, o5⟩ := ot'
        refine ⟨z, st1, ste, n, o1, o2, o3, ?_⟩
        rcases o5 with o5 | o5
        · exact Or.inl ⟨o5.1, o5.2, o4⟩
        · exact Or.inr ⟨o5.1, Or.inl ⟨o5.2.1, o4, o5.2.2⟩⟩
      | succ k =>
        obtain ⟨z, st1, ste, n, a, b, nb', o1, o2, o3, o4, o5, o6, o7, o8, o9, o10, o11⟩ := ot'
        exact ⟨z, st1, ste, n, o1, o2, o3, Or.inr ⟨o4, Or.inr ⟨o5, k, a, b, nb', o6, o7, o8, o9, o10, o11⟩⟩⟩
    obtain ⟨z, st1, ste, n, o1, o2, o3, o4⟩ := tr1
    refine s_isPlayedM ok g1 em m01 en bt_ok hmost (by omega) mf0 o1 o2 o3 (fun v q2 N2 M2 sf2 mf2 us2 po2 pl2 sz2 ways2 wth2 ms2 rs2 rc2 mo2 v01 iv E2 _ => ⟨fun y2 => ?_, fun y2 => ?_⟩)
    · have sv := iv.1 (v01.resolve_left y2)
      rcases o4 with o4 | o4
      · exact ⟨by rw [g1', o4.2.1], fun c c0 c1 => by rw [em c c0 c1]; exact o4.2.2 c c0 c1⟩
      · exact absurd sv o4.1
    · have nsv : ¬ Slv (w * h) m ste := fun k => by
        have := iv.2 k
        rw [y2] at this
        exact absurd this (by decide)
      have o5 := (o4.resolve_left (fun r => nsv r.1)).2
      have go : ∀ (mine' : Int → Int) (z' : Int), ((z' = 0 ∧ res = 0 ∧ Eqc (w * h) mine' mf9) ∨ (z' = 1 ∧ s < 100 ∧ ∃ (k : Nat) (m nb : Int → Int), Eqc (w * h) mine' m ∧ (∀ c, 0 ≤ c → c < w * h → m c = 0 ∨ m c = 1) ∧ (∀ c, 0 ≤ c → c < w * h → nb c = Num w h sh m c) ∧ m (fc w h) = 0 ∧ OT w h sh most k (s + 1) m nb res mf9)) → inR z' → (inR (s + 1) ∧ (∀ x8_104 : Int, x8_104 = (s + 1) → (∃ n_105 : Nat, n_105 < (102 - s).toNat ∧ (n_105 = (102 - x8_104).toNat ∧ (0 ≤ x8_104 ∧ x8_104 ≤ 101) ∧ (3 : Int) = 3 ∧ ((z' = 1 ∧ x8_104 ≤ 100 ∧ ∃ (k : Nat) (m nb : Int → Int), Eqc (w * h) mine' m ∧ (∀ c, 0 ≤ c → c < w * h → m c = 0 ∨ m c = 1) ∧ (∀ c, 0 ≤ c → c < w * h → nb c = Num w h sh m c) ∧ m (fc w h) = 0 ∧ OT w h sh most k x8_104 m nb res mf9) ∨ (z' = 0 ∧ res = 0 ∧ Eqc (w * h) mine' mf9)))))) := by
        intro mine' z' hh _
        refine nx (by omega) ⟨_, ?_, rfl, by omega, rfl, ?_⟩
        · omega
        · rcases hh with hh | ⟨h1, h2, h3⟩
          · exact Or.inr hh
          · exact Or.inl ⟨h1, by omega, h3⟩
      have no : (res = 0 ∧ Eqc (w * h) m mf9) → _ := fun r => go mine 0 (Or.inl ⟨rfl, r.1, fun c c0 c1 => by rw [em c c0 c1]; exact r.2 c c0 c1⟩)
      refine ⟨fun mine' z' => ((z' = 0 ∧ res = 0 ∧ Eqc (w * h) mine' mf9) ∨ (z' = 1 ∧ s < 100 ∧ ∃ (k : Nat) (m nb : Int → Int), Eqc (w * h) mine' m ∧ (∀ c, 0 ≤ c → c < w * h → m c = 0 ∨ m c = 1) ∧ (∀ c, 0 ≤ c → c < w * h → nb c = Num w h sh m c) ∧ m (fc w h) = 0 ∧ OT w h sh most k (s + 1) m nb res mf9)), ⟨fun mine' => res = 0 ∧ Eqc (w * h) mine' mf9, ⟨fun y3 => ?_, fun y3 => ?_⟩, fun mine' r => Or.inl ⟨rfl, r⟩⟩, fun mine' z' rz hh => go mine' z' hh rz⟩
      · rcases o5 with o5 | o5
        · exact ⟨o5.1, fun c c0 c1 => by rw [em c c0 c1]; exact o5.2.1 c c0 c1⟩
        · omega
      · refine s_isMendedM E2 (fun a b fa fb' => ⟨fun r _ => ⟨fun _ => ?_, fun r2 => absurd rfl r2⟩, fun r _ => ⟨fun r2 => absurd r2 (by decide), fun _ => ?_⟩⟩)
        · rcases o5 with o5 | ⟨_, k', a', b', nb', p1, p2, p3, p4, _⟩
          · exact ⟨o5.1, fun c c0 c1 => by rw [em c c0 c1]; exact o5.2.1 c c0 c1⟩
          · have ea := fa.uniq (fun _ _ _ => rfl) (fun _ _ _ => rfl) p1
            have eb := fb'.uniq (fun _ _ _ => rfl) (fun _ _ _ => rfl) p2
            omega
        · rcases o5 with ⟨_, _, o6⟩ | ⟨p0, k', a', b', nb', p1, p2, p3, p4, p5, p6⟩
          · exfalso
            rcases o6 with o6 | o6 | o6
            · omega
            · exact r (Or.inl (fa.uniq (fun _ _ _ => rfl) (fun _ _ _ => rfl) o6))
            · exact r (Or.inr (fb'.uniq (fun _ _ _ => rfl) (fun _ _ _ => rfl) o6))
          · have ea := fa.uniq (fun _ _ _ => rfl) (fun _ _ _ => rfl) p1
            have eb := fb'.uniq (fun _ _ _ => rfl) (fun _ _ _ => rfl) p2
            subst ea eb
            have fa' := fa.resolve_left (fun q => by have := q.1; omega)
            have fb2 := fb'.resolve_left (fun q => by have := q.1; omega)
            have sfc : ste (fc w h) = 2 := by
              have s1 : st1 (fc w h) = 2 := by
                rcases o2 with ⟨r, _⟩ | ⟨_, fl⟩
                · omega
                · exact fl.2.1
              exact PE.keep fb o3 s1
            have hbf : ¬ b = fc w h := fun e => by
              have := fb2.2.1.1
              rw [e, sfc] at this
              omega
            refine Or.inr ⟨rfl, p0, k', _, nb', fun c c0 c1 => ?_, fun c c0 c1 => ?_, p5, ?_, p6⟩
            · by_cases k1 : c = b
              · rw [k1, upZ_s, upZ_s]
              · rw [upZ_n _ _ k1, upZ_n _ _ k1]
                by_cases k2 : c = a
                · rw [k2, upZ_s, upZ_s]
                · rw [upZ_n _ _ k2, upZ_n _ _ k2]; exact em c c0 c1
            · by_cases k1 : c = b
              · rw [k1, upZ_s]; exact Or.inr rfl
              · rw [upZ_n _ _ k1]
                by_cases k2 : c = a
                · rw [k2, upZ_s]; exact Or.inl rfl
                · rw [upZ_n _ _ k2]; exact m01 c c0 c1
            · rw [upZ_n _ _ (fun e => hbf e.symm)]
              by_cases e : fc w h = a
              · rw [e, upZ_s]
              · rw [upZ_n _ _ e]; exact mf0
theorem op_make {w h sh many seed most thr b1 b2 b3 b4 b5 b6 b7 b8 b9 b10 b11 b12 b13 b14 b15 b16 b17 b18 b19 b20 m1 m2 m3 m4 m5 m6 m7 m8 m9 m10 m11 m12 m13 : Int} {md nb st ci un hi cd wt near nearEnd cho po rs uk ps cs ms ss pS ta as go gz lk le pk gm gs f oe nd wt2 ws com met mnear degree mine M sf mf us mpo pl sz ways wth mms mrs bt rc mo ms9 cd9 old : Int → Int} {S nS H : Int → Int64} (rh : inR h) (h0 : ps 0 = 0) (bt_ok : BT bt) :
    P_X11_make (fun res hb bb mines moves ch gw gh gs' _ _ _ _ _ _ _ ag _ _ aw an md' nb' st' ci' un' hi' cd' _ near' nearEnd' _ _ _ _ ps' _ _ _ _ _ _ _ _ _ _ _ _ _ _ _ _ _ _ _ _ _ _ => P_X12_make (fun b t mw mh mc msh ib isb lives mvs _ _ mg mr mt mnear' degree' mine' M' _ _ _ _ _ _ _ _ _ _ _ _ => t = 0 ∧ b = res ∧ (res = 0 ∨ res = 1) ∧ okB w h sh ∧ hb = res ∧ bb = 0 ∧ gw = w ∧ gh = h ∧ gs' = w * h ∧ mw = w ∧ mh = h ∧ mc = w * h ∧ msh = sh ∧ ib = res ∧ isb = 0 ∧ ag = 0 ∧ aw = 0 ∧ an = 0 ∧ mg = 0 ∧ mr = 0 ∧ mt = 0 ∧ RB w h sh 0 mines moves ch md' nb' st' ci' un' hi' ms9 cd9 near' nearEnd' 0 lives mvs mnear' degree' mine' M' H old ∧ moves = 0 ∧ ps' 0 = 0) thr m1 m2 m3 m4 m5 m6 m7 m8 m9 m10 m11 m12 m13 mnear degree mine M sf mf us mpo pl sz ways wth mms mrs bt rc mo w h many sh seed most)
      (fun k hb bb mines moves ch gw gh gs' c1 c2 c3 c4 c5 c6 c7 ag c8 c9 aw an md' nb' st' ci' un' hi' cd' d1 near' nearEnd' d2 d3 d4 d5 ps' d6 d7 d8 d9 d10 d11 d12 d13 d14 d15 d16 d17 d18 d19 d20 d21 d22 d23 d24 d25 d26 d27 => P_X12_make (fun _ t mw mh mc msh ib isb lives mvs _ _ mg mr mt mnear' degree' mine' M' _ _ _ _ _ _ _ _ _ _ _ _ => (k = 4 ∧ t = 1) ∧ (hb = b1 ∧ bb = b2 ∧ mines = b3 ∧ moves = b4 ∧ ch = b5 ∧ gw = b6 ∧ gh = b7 ∧ gs' = b8 ∧ ag = b16 ∧ aw = b19 ∧ an = b20 ∧ md' = md ∧ nb' = nb ∧ st' = st ∧ ci' = ci ∧ un' = un ∧ hi' = hi ∧ cd' = cd ∧ near' = near ∧ nearEnd' = nearEnd ∧ ps' = ps) ∧ (mw = m1 ∧ mh = m2 ∧ mc = m3 ∧ msh = m4 ∧ ib = m5 ∧ isb = m6 ∧ lives = m7 ∧ mvs = m8 ∧ mg = m11 ∧ mr = m12 ∧ mt = m13 ∧ mnear' = mnear ∧ degree' = degree ∧ mine' = mine ∧ M' = M)) thr m1 m2 m3 m4 m5 m6 m7 m8 m9 m10 m11 m12 m13 mnear degree mine M sf mf us mpo pl sz ways wth mms mrs bt rc mo w h many sh seed most)
      b1 b2 b3 b4 b5 b6 b7 b8 b9 b10 b11 b12 b13 b14 b15 b16 b17 b18 b19 b20 md nb st ci un hi cd wt near nearEnd cho po rs uk ps cs ms ss pS ta as go gz lk le pk gm gs S nS f oe nd wt2 ws com met w h many sh seed most := by
  -- a call that is refused
  have bad : ∀ {post : Int → (Int) → (Int) → (Int) → (Int) → (Int) → (Int) → (Int) → (Int) → (Int) → (Int) → (Int) → (Int) → (Int) → (Int) → (Int → Int) → (Int → Int) → (Int → Int) → (Int → Int) → (Int → Int) → (Int → Int) → (Int → Int) → (Int → Int) → (Int → Int) → (Int → Int) → (Int → Int) → (Int → Int) → (Int → Int) → (Int → Int) → (Int → Int) → (Int → Int) → Prop}, ¬ (okB w h sh ∧ 1 ≤ many ∧ many ≤ w * h - 1 - (NB w h sh (fc w h)).length ∧ 1 ≤ most ∧ most ≤ 3) → post 0 1 m1 m2 m3 m4 m5 m6 m7 m8 m9 m10 m11 m12 m13 mnear degree mine M sf mf us mpo pl sz ways wth mms mrs rc mo → P_X12_make post thr m1 m2 m3 m4 m5 m6 m7 m8 m9 m10 m11 m12 m13 mnear degree mine M sf mf us mpo pl sz ways wth mms mrs bt rc mo w h many sh seed most := by
    intro post hn hp
    unfold P_X12_make
    refine s_canBe (fun ok _ => ⟨True, ⟨fun _ => trivial, fun _ => ⟨fun _ => trivial, fun y => s_within (fun y2 _ => ⟨fun _ => trivial, fun _ => s_isTooMany ok (fun _ _ => ⟨fun r => absurd r (by decide), fun _ => trivial⟩) (fun y3 _ => ⟨fun _ => absurd ⟨ok, by omega, y3, y2.1, y2.2⟩ hn, fun _ => trivial⟩)⟩) (fun _ _ => ⟨fun _ => trivial, fun r => absurd rfl r⟩)⟩⟩, fun _ => s_failM (fun _ => hp)⟩) (fun nok _ => ⟨True, ⟨fun _ => trivial, fun r => absurd rfl r⟩, fun _ => s_failM (fun _ => hp)⟩)
  unfold P_X11_make
  refine s_isPossible rh (fun ok _ => ⟨fun z => absurd z (by decide), fun _ => ⟨fun z => bad (fun k => by omega) ⟨⟨rfl, rfl⟩, ⟨rfl, rfl, rfl, rfl, rfl, rfl, rfl, rfl, rfl, rfl, rfl, rfl, rfl, rfl, rfl, rfl, rfl, rfl, rfl, rfl, rfl⟩, rfl, rfl, rfl, rfl, rfl, rfl, rfl, rfl, rfl, rfl, rfl, rfl, rfl, rfl, rfl⟩, fun z => s_freeCellsX ok (fun _ => ⟨fun z1 => bad (fun k => by omega) ⟨⟨rfl, rfl⟩, ⟨rfl, rfl, rfl, rfl, rfl, rfl, rfl, rfl, rfl, rfl, rfl, rfl, rfl, rfl, rfl, rfl, rfl, rfl, rfl, rfl, rfl⟩, rfl, rfl, rfl, rfl, rfl, rfl, rfl, rfl, rfl, rfl, rfl, rfl, rfl, rfl, rfl⟩, fun z1 => ⟨fun z2 => bad (fun k => by omega) ⟨⟨rfl, rfl⟩, ⟨rfl, rfl, rfl, rfl, rfl, rfl, rfl, rfl, rfl, rfl, rfl, rfl, rfl, rfl, rfl, rfl, rfl, rfl, rfl, rfl, rfl⟩, rfl, rfl, rfl, rfl, rfl, rfl, rfl, rfl, rfl, rfl, rfl, rfl, rfl, rfl, rfl⟩, fun z2 => ⟨fun z3 => ?_, fun z3 => bad (fun k => by omega) ⟨⟨rfl, rfl⟩, ⟨rfl, rfl, rfl, rfl, rfl, rfl, rfl, rfl, rfl, rfl, rfl, rfl, rfl, rfl, rfl, rfl, rfl, rfl, rfl, rfl, rfl⟩, rfl, rfl, rfl, rfl, rfl, rfl, rfl, rfl, rfl, rfl, rfl, rfl, rfl, rfl, rfl⟩⟩⟩⟩)⟩⟩) (fun nok _ => ⟨fun _ => bad (fun k => nok k.1) ⟨⟨rfl, rfl⟩, ⟨rfl, rfl, rfl, rfl, rfl, rfl, rfl, rfl, rfl, rfl, rfl, rfl, rfl, rfl, rfl, rfl, rfl, rfl, rfl, rfl, rfl⟩, rfl, rfl, rfl, rfl, rfl, rfl, rfl, rfl, rfl, rfl, rfl, rfl, rfl, rfl, rfl⟩, fun z => absurd rfl z⟩)
  have hle := wh_le ok
  have hge := wh_ge ok
  have fb := fc_in ok
  refine s_begin ok (fun md1 nb1 st1 ci1 un1 hi1 near1 nearEnd1 g1 g2 g3 g4 g5 => ?_)
  unfold P_X0_forget
  have cf := CF.start (m := md1) ok g3
  refine s_scatter ok g1 g2 g3 ⟨by omega, by omega⟩ (fun mn2 md2 nb2 d2 sc => ?_)
  have hf2 : md2 (fc w h) = 0 := sc.first ok (g3 _ fb.1 fb.2)
  refine s_settle ok g1 d2 hf2 h0 ⟨by omega, z3⟩ (fun res mn3 mv3 ch3 P3 lg3 N3 ag3 tk3 wc3 mc3 md3 nb3 st3 ci3 un3 hi3 cd3 wt3 cho3 po3 rs3 uk3 ps3 cs3 ms3 ss3 pS3 ta3 as3 go3 gz3 lk3 le3 pk3 gm3 gs3 S3 nS3 f3 oe3 nd3 wt23 ws3 com3 met3 r01 p03 d3 hot _ => ?_)
  obtain ⟨K, ot⟩ := hot
  refine s_closeAllD ok g1 (fun st4 ci4 un4 hi4 ds4 hz4 => ?_)
  have don : ∀ z : Int, z = res → P_X12_make (fun b t mw mh mc msh ib isb lives mvs _ _ mg mr mt mnear' degree' mine' M' _ _ _ _ _ _ _ _ _ _ _ _ => t = 0 ∧ b = z ∧ (z = 0 ∨ z = 1) ∧ okB w h sh ∧ res = z ∧ (0 : Int) = 0 ∧ w = w ∧ h = h ∧ w * h = w * h ∧ mw = w ∧ mh = h ∧ mc = w * h ∧ msh = sh ∧ ib = z ∧ isb = 0 ∧ (0 : Int) = 0 ∧ (0 : Int) = 0 ∧ (0 : Int) = 0 ∧ mg = 0 ∧ mr = 0 ∧ mt = 0 ∧ RB w h sh 0 mn3 0 0 md3 nb3 st4 ci4 un4 hi4 ms9 cd9 near1 nearEnd1 0 lives mvs mnear' degree' mine' M' H old ∧ (0 : Int) = 0 ∧ ps3 0 = 0) thr m1 m2 m3 m4 m5 m6 m7 m8 m9 m10 m11 m12 m13 mnear degree mine M sf mf us mpo pl sz ways wth mms mrs bt rc mo w h many sh seed most := by
    intro z ez
    subst ez
    refine s_makeM ok ⟨by omega, by omega⟩ ⟨by omega, z3⟩ bt_ok g3 sc d2.1 d2.2.1 ot r01 (fun q N mnear' degree' mine' M' sf' mf' us' po' pl' sz' ways' wth' ms' rs' rc' mo' gM em zM => ⟨rfl, rfl, r01, ok, rfl, rfl, rfl, rfl, rfl, rfl, rfl, rfl, rfl, rfl, rfl, rfl, rfl, rfl, rfl, rfl, rfl, ?_, rfl, p03⟩)
    exact RB.start ok g1 gM d3 em ds4 hz4 zM
  exact exJi ⟨fun r _ => don 0 r.symm, fun r _ => don 1 (r01.resolve_left r).symm⟩
