/-! the class settles a board: the loop -/
theorem s_settle {w h sh most mn0 mv0 ch00 P0 lg0 N0 ag0 tk0 wc0 mc0 : Int} {near nearEnd md0 nb0 st0 ci0 un0 hi0 cd0 wt0 cho0 po0 rs0 uk0 ps0 cs0 ms0 ss0 pS0 ta0 as0 go0 gz0 lk0 le0 pk0 gm0 gs0 f0 oe0 nd0 wt20 ws0 com0 met0 : Int → Int} {S0 nS0 : Int → Int64} {post : Int → (Int) → (Int) → (Int) → (Int) → (Int) → (Int) → (Int) → (Int) → (Int) → (Int) → (Int → Int) → (Int → Int) → (Int → Int) → (Int → Int) → (Int → Int) → (Int → Int) → (Int → Int) → (Int → Int) → (Int → Int) → (Int → Int) → (Int → Int) → (Int → Int) → (Int → Int) → (Int → Int) → (Int → Int) → (Int → Int) → (Int → Int) → (Int → Int) → (Int → Int) → (Int → Int) → (Int → Int) → (Int → Int) → (Int → Int) → (Int → Int) → (Int → Int) → (Int → Int) → (Int → Int64) → (Int → Int64) → (Int → Int) → (Int → Int) → (Int → Int) → (Int → Int) → (Int → Int) → (Int → Int) → (Int → Int) → Prop} (ok : okB w h sh) (geo : GeoD w h sh near nearEnd) (dm : DMi w h sh md0 nb0 mn0) (hf : md0 (fc w h) = 0) (h0 : ps0 0 = 0) (hmost : 1 ≤ most ∧ most ≤ 3)
    (hp : ∀ (res mn mv ch P lg N ag tk wc mc : Int) (md nb st ci un hi cd wt cho po rs uk ps cs ms ss pS ta as go gz lk le pk gm gs : Int → Int) (S nS : Int → Int64) (f oe nd wt2 ws com met : Int → Int), (res = 0 ∨ res = 1) → ps 0 = 0 → DMi w h sh md nb mn → (∃ K, OT w h sh most K 0 md0 nb0 res md) → post res mn mv ch P lg N ag tk wc mc md nb st ci un hi cd wt cho po rs uk ps cs ms ss pS ta as go gz lk le pk gm gs S nS f oe nd wt2 ws com met) :
    P_X4_settle post mn0 mv0 ch00 w h (w * h) P0 lg0 N0 ag0 tk0 wc0 mc0 md0 nb0 st0 ci0 un0 hi0 cd0 wt0 near nearEnd cho0 po0 rs0 uk0 ps0 cs0 ms0 ss0 pS0 ta0 as0 go0 gz0 lk0 le0 pk0 gm0 gs0 S0 nS0 f0 oe0 nd0 wt20 ws0 com0 met0 most := by
  have hle := wh_le ok
  have hge := wh_ge ok
  have fb := fc_in ok
  unfold P_X4_settle
  refine s_playAnew ok geo dm hf (fun z1 st1 ci1 un1 hi1 cd1 wt1 hz ur d1 g1 k1 f1 nh => ?_)
  refine ⟨fun n s g t mn mv ch P lg N ag tk wc mc md nb st ci un hi cd wt cho po rs uk ps cs ms ss pS ta as go gz lk le pk gm gs S nS f oe nd wt2 ws com met => n = (43935 - t).toNat ∧ 0 ≤ t ∧ (0 ≤ s ∧ s ≤ 100) ∧ (1 ≤ g ∧ g ≤ most + 1) ∧ t ≤ 435 * s + 3 * (143 - w * h + kn (w * h) st) + (g - 1) ∧ ps 0 = 0 ∧ DE w h sh near nearEnd md nb st ci un hi mn ∧ ch = kn (w * h) st ∧ md (fc w h) = 0 ∧ st (fc w h) = 2 ∧ (∀ c, 0 ≤ c → c < w * h → st c ≠ 3) ∧ (g ≤ 3 → RW w h sh (mn - ci 3) md st g wc f oe nd wt2 ws com) ∧ (∃ z st1 : Int → Int, (∀ c, 0 ≤ c → c < w * h → z c = 0) ∧ UncR w h sh md nb z (fc w h) st1 ∧ ∀ (n : Nat) (ste : Int → Int), PE w h sh md nb most n st g ste → ∃ n', PE w h sh md nb most n' st1 1 ste) ∧ (∀ (k : Nat) (res : Int) (mf : Int → Int), OT w h sh most k s md nb res mf → ∃ K, OT w h sh most K 0 md0 nb0 res mf), ⟨_, rfl, by omega, by omega, by omega, by omega, h0, ⟨ok, geo, dm, d1, g1⟩, rfl, hf, f1, nh, fun _ => ⟨fun y => by omega, fun y => absurd rfl y⟩, ⟨z1, st1, hz, ur, fun n ste q => ⟨n, q⟩⟩, fun k res mf q => ⟨k, q⟩⟩, ?_⟩
  rintro n s g t mn mv ch P lg N ag tk wc mc md nb st ci un hi cd wt cho po rs uk ps cs ms ss pS ta as go gz lk le pk gm gs S nS f oe nd wt2 ws com met rs' rg rt ⟨rfl, b1, b2, b3, b4, b5, b6, b7, b8, b9, b10, b11, ⟨z, st1', hz', ur', b12⟩, b13⟩
  have kb := kn_bd (n := w * h) (st := st) ⟨by omega, hle⟩
  have dm' := b6.2.2.1
  have ds' := b6.2.2.2.1
  have gs' := b6.2.2.2.2
  have hm := dm'.1
  have solvedEnd : Slv (w * h) md st → post 1 mn mv ch P lg N ag tk wc mc md nb st ci un hi cd wt cho po rs uk ps cs ms ss pS ta as go gz lk le pk gm gs S nS f oe nd wt2 ws com met := by
    intro sv
    obtain ⟨n', pe⟩ := b12 0 st (PE.done (Or.inr sv))
    obtain ⟨K, ot⟩ := b13 0 1 md ⟨z, st1', st, n', hz', ur', pe, fun _ _ _ => rfl, Or.inl ⟨sv, rfl⟩⟩
    exact hp 1 _ _ _ _ _ _ _ _ _ _ _ _ _ _ _ _ _ _ _ _ _ _ _ _ _ _ _ _ _ _ _ _ _ _ _ _ _ _ _ _ _ _ _ _ _ (Or.inr rfl) b5 dm' ⟨K, ot⟩
  refine ⟨Slv (w * h) md st, ⟨fun y => by omega, fun y => s_isSolved ok dm' ds' gs' (fun sv _ => ⟨fun _ => sv, fun q => absurd q (by decide)⟩) (fun nsv _ => ⟨fun q => absurd rfl q, fun _ => ?_⟩)⟩, fun sv => s_isSolved ok dm' ds' gs' (fun _ _ => solvedEnd sv) (fun k => absurd sv k)⟩
  -- not solved yet: a cell is unknown
  have unk : kn (w * h) st < w * h := by
    have e : ∃ c, (0 ≤ c ∧ c < w * h) ∧ st c ≤ 1 := by
      apply Classical.byContradiction
      intro ne
      refine nsv (fun c c0 c1 => ?_)
      have := gs'.1 c c0 c1
      have n3 := b10 c c0 c1
      by_cases u : st c ≤ 1
      · exact absurd ⟨c, ⟨c0, c1⟩, u⟩ ne
      · exact Or.inr (by omega)
    obtain ⟨c, hc, hu⟩ := e
    have := sumL_lt1 (l := cellsL (w * h)) (f := fun c => 1 - iU (st c)) (x := c) (fun y _ => by have := iU_b (st y); omega) (mem_cells.2 hc) (by rw [show iU (st c) = 1 from if_pos hu]; rfl)
    have := cells_len (n := w * h) (by omega)
    unfold kn
    omega
  have give : (100 ≤ s ∨ FU w h sh md st 1 1 (-1) ∨ FU w h sh md st 0 0 (-1)) → most < g → post 0 mn mv ch P lg N ag tk wc mc md nb st ci un hi cd wt cho po rs uk ps cs ms ss pS ta as go gz lk le pk gm gs S nS f oe nd wt2 ws com met := by
    intro hh hg
    obtain ⟨n', pe⟩ := b12 0 st (PE.done (Or.inl hg))
    obtain ⟨K, ot⟩ := b13 0 0 md ⟨z, st1', st, n', hz', ur', pe, fun _ _ _ => rfl, Or.inr ⟨nsv, rfl, hh⟩⟩
    exact hp 0 _ _ _ _ _ _ _ _ _ _ _ _ _ _ _ _ _ _ _ _ _ _ _ _ _ _ _ _ _ _ _ _ _ _ _ _ _ _ _ _ _ _ _ _ _ (Or.inl rfl) b5 dm' ⟨K, ot⟩
  refine ⟨fun s g mn mv ch P lg N ag tk wc mc md nb st ci un hi cd wt cho po rs uk ps cs ms ss pS ta as go gz lk le pk gm gs S nS f oe nd wt2 ws com met => ∃ t' : Int, t' = t + 1 ∧ 0 ≤ t' ∧ (0 ≤ s ∧ s ≤ 100) ∧ (1 ≤ g ∧ g ≤ most + 1) ∧ t' ≤ 435 * s + 3 * (143 - w * h + kn (w * h) st) + (g - 1) ∧ ps 0 = 0 ∧ DE w h sh near nearEnd md nb st ci un hi mn ∧ ch = kn (w * h) st ∧ md (fc w h) = 0 ∧ st (fc w h) = 2 ∧ (∀ c, 0 ≤ c → c < w * h → st c ≠ 3) ∧ (g ≤ 3 → RW w h sh (mn - ci 3) md st g wc f oe nd wt2 ws com) ∧ (∃ z st1 : Int → Int, (∀ c, 0 ≤ c → c < w * h → z c = 0) ∧ UncR w h sh md nb z (fc w h) st1 ∧ ∀ (n : Nat) (ste : Int → Int), PE w h sh md nb most n st g ste → ∃ n', PE w h sh md nb most n' st1 1 ste) ∧ (∀ (k : Nat) (res : Int) (mf : Int → Int), OT w h sh most k s md nb res mf → ∃ K, OT w h sh most K 0 md0 nb0 res mf), ⟨fun y => ⟨fun y2 => give (Or.inl y2) y, fun y2 => ?_⟩, fun y => ?_⟩, ?_⟩
  · -- a mine is shifted
    unfold P_X4_shiftMine
    refine s_firstUnknown ok geo hm (Or.inr rfl) (fun a fa _ => s_firstUnknown ok geo hm (Or.inl rfl) (fun b fb' _ => ⟨fun y3 _ => ⟨fun q => absurd rfl q, fun _ => give (Or.inr (Or.inl (y3 ▸ fa))) y⟩, fun y3 => ⟨fun y4 => ?_, fun y4 _ => ⟨fun q => absurd rfl q, fun _ => give (Or.inr (Or.inr (y4 ▸ fb'))) y⟩⟩⟩))
    have fa' := fa.resolve_left (fun q => y3 q.1)
    have fb2 := fb'.resolve_left (fun q => y4 q.1)
    refine s_setMine ok geo dm' fa'.1 (Or.inl rfl) (fun nb1 mn1 dm1 => s_setMine ok geo dm1 fb2.1 (Or.inr rfl) (fun nb2 mn2 dm2 _ => ⟨fun _ => ⟨by omega, fun s2 es2 => ?_⟩, fun q => absurd q (by decide)⟩))
    have hbf : ¬ b = fc w h := fun e => by
      have := fb2.2.1.1
      rw [e, b9] at this
      omega
    have hf2 : upZ (upZ md a 0) b 1 (fc w h) = 0 := by
      rw [upZ_n _ _ (fun e => hbf e.symm)]
      by_cases e : fc w h = a
      · rw [e, upZ_s]
      · rw [upZ_n _ _ e]; exact b8
    refine s_playAnew ok geo dm2 hf2 (fun z2 st2 ci2 un2 hi2 cd2 wt3 hz2 ur2 d2 g2 k2 f2 nh2 => ⟨t + 1, rfl, by omega, by omega, by omega, by omega, b5, ⟨ok, geo, dm2, d2, g2⟩, rfl, hf2, f2, nh2, fun _ => ⟨fun q => by omega, fun q => absurd rfl q⟩, ⟨z2, st2, hz2, ur2, fun n ste q => ⟨n, q⟩⟩, fun k res mf q => ?_⟩)
    obtain ⟨n', pe⟩ := b12 0 st (PE.done (Or.inl y))
    subst es2
    exact b13 (k + 1) res mf ⟨z, st1', st, n', a, b, nb2, hz', ur', pe, nsv, by omega, fa, fb', fa'.1.1, fb2.1.1, dm2.2.1, q⟩
  · -- a grade is tried
    refine s_raise b6 b5 ⟨b3.1, by omega⟩ (b11 (by omega)) (fun P2 lg2 N2 ag2 tk2 wc2 mc2 cho2 po2 rs2 uk2 ps2 cs2 ms2 ss2 pS2 ta2 as2 go2 gz2 lk2 le2 pk2 gm2 gs2 S2 nS2 f2 oe2 nd2 wt22 ws2 com2 met2 p0 qg rw2 => ?_)
    have lf := lfS_eq b6
    have snd : ∀ c, 0 ≤ c → c < w * h → f2 c = 1 → md c = 0 := QG.sound ⟨b3.1, by omega⟩ hm gs' (by rw [lf]; exact qg)
    subst b7
    refine s_uncoverSafe ok geo dm' ds' gs' snd (fun a st2 ci2 un2 hi2 cd2 wt3 a01 us d2 g2 ka0 ka1 kop kh same _ => ?_)
    have step : ∀ g2 : Int, g2 = (if a = 0 then g + 1 else 1) → (inR g2) → (∃ t' : Int, t' = t + 1 ∧ 0 ≤ t' ∧ (0 ≤ s ∧ s ≤ 100) ∧ (1 ≤ g2 ∧ g2 ≤ most + 1) ∧ t' ≤ 435 * s + 3 * (143 - w * h + kn (w * h) st2) + (g2 - 1) ∧ ps2 0 = 0 ∧ DE w h sh near nearEnd md nb st2 ci2 un2 hi2 mn ∧ kn (w * h) st2 = kn (w * h) st2 ∧ md (fc w h) = 0 ∧ st2 (fc w h) = 2 ∧ (∀ c, 0 ≤ c → c < w * h → st2 c ≠ 3) ∧ (g2 ≤ 3 → RW w h sh (mn - ci2 3) md st2 g2 wc2 f2 oe2 nd2 wt22 ws2 com2) ∧ (∃ z st1 : Int → Int, (∀ c, 0 ≤ c → c < w * h → z c = 0) ∧ UncR w h sh md nb z (fc w h) st1 ∧ ∀ (n : Nat) (ste : Int → Int), PE w h sh md nb most n st2 g2 ste → ∃ n', PE w h sh md nb most n' st1 1 ste) ∧ (∀ (k : Nat) (res : Int) (mf : Int → Int), OT w h sh most k s md nb res mf → ∃ K, OT w h sh most K 0 md0 nb0 res mf)) := by
      intro g2' eg _
      refine ⟨t + 1, rfl, by omega, by omega, ?_, ?_, p0, ⟨ok, geo, dm', d2, g2⟩, rfl, b8, kop _ fb.1 fb.2 b9, fun c c0 c1 => kh c c0 c1 (b10 c c0 c1), fun hg3 => ?_, ⟨z, st1', hz', ur', fun n ste q => ?_⟩, b13⟩
      · rw [eg]; split <;> omega
      · rw [eg]
        rcases a01 with e | e
        · rw [if_pos e]; have := ka0 e; omega
        · rw [if_neg (by omega)]; have := ka1 e; omega
      · rcases a01 with e | e
        · obtain ⟨e1, e2, e3, e4⟩ := same e
          rw [eg, if_pos e, e1, e2]
          exact rw2
        · rw [eg, if_neg (by omega)]
          exact ⟨fun q => absurd q (by decide), fun q => absurd rfl q⟩
      · refine b12 (n + 1) ste ⟨by omega, f2, st2, a, by rw [lf]; exact qg, us, ?_⟩
        rw [← eg]
        exact q
    exact exJi ⟨fun q => ⟨by omega, step _ (by rw [if_pos q])⟩, fun q => step _ (by rw [if_neg q])⟩
  · rintro s2 g2 mn2 mv2 ch2 P2 lg2 N2 ag2 tk2 wc2 mc2 md9 nb9 st9 ci9 un9 hi9 cd9 wt9 cho9 po9 rs9 uk9 ps9 cs9 ms9 ss9 pS9 ta9 as9 go9 gz9 lk9 le9 pk9 gm9 gs9 S9 nS9 f9 oe9 nd9 wt29 ws9 com9 met9 rs2 rg2 ⟨t', et, q⟩
    subst et
    refine nx (by omega) ⟨_, ?_, rfl, q⟩
    omega
