/-! hint on both sides -/
theorem RB.de {w h sh bb mines moves ch ib lives mvs : Int} {mined number st ci un hi ms cd near nearEnd mnear degree mine M old : Int → Int} {H : Int → Int64} (R : RB w h sh bb mines moves ch mined number st ci un hi ms cd near nearEnd ib lives mvs mnear degree mine M H old) : DE w h sh near nearEnd mined number st ci un hi mines := ⟨R.1, R.2.1, R.2.2.2.1, R.2.2.2.2.2.1, R.2.2.2.2.2.2.2.1⟩
theorem RB.me {w h sh bb mines moves ch ib lives mvs : Int} {mined number st ci un hi ms cd near nearEnd mnear degree mine M old : Int → Int} {H : Int → Int64} (R : RB w h sh bb mines moves ch mined number st ci un hi ms cd near nearEnd ib lives mvs mnear degree mine M H old) : ME w h sh mnear degree mine M mined number st := ⟨R.1, R.2.2.1, R.2.2.2.2.1, R.2.2.2.1.1, R.2.2.2.2.2.2.2.1, R.2.2.2.2.2.2.1, R.2.2.2.1.2.1⟩
theorem left_eq {w h sh mines : Int} {near nearEnd mined number st ci un hi mnear degree mine M : Int → Int} (D : DE w h sh near nearEnd mined number st ci un hi mines) (E : ME w h sh mnear degree mine M mined number st) : MLf (w * h) mine M = mines - ci 3 := by
  unfold MLf
  rw [D.2.2.1.2.2, D.2.2.2.1.2.1 3 (by omega) (by omega), sumL_congr (g := mined) (fun c mc => E.2.2.1 c (mem_cells.1 mc).1 (mem_cells.1 mc).2)]
  congr 1
  refine sumL_congr (fun c mc => ?_)
  have hc := mem_cells.1 mc
  have e := E.2.2.2.2.2.1 c hc.1 hc.2
  have b := D.2.2.2.1.1 c hc.1 hc.2
  rw [e]
  show (if tr (st c) = 3 then (1 : Int) else 0) = if st c = 3 then 1 else 0
  have : tr (st c) = 3 ↔ st c = 3 := by
    unfold tr
    split
    · omega
    · split <;> omega
  by_cases k : st c = 3
  · rw [if_pos k, if_pos (this.2 k)]
  · rw [if_neg k, if_neg (fun y => k (this.1 y))]
theorem Bd.c1 {w h sh : Int} {mined st : Int → Int} : C1 w h sh mined st (Bd w h sh st (AllCh w h sh st)) := fun c c0 c1 h2 _ d md ud => ⟨nb_cell md, ud, c, ⟨⟨c0, c1⟩, h2, d, md, ud⟩, md⟩
theorem Bd.c2 {w h sh : Int} {mined st : Int → Int} : C2 w h sh mined st (Bd w h sh st (AllCh w h sh st)) := fun a b _ hb _ _ sb _ _ d md ud _ => ⟨nb_cell md, ud, b, ⟨hb, sb, d, md, ud⟩, md⟩
theorem SK.unk {w h sh left g c : Int} {mined st f : Int → Int} (hm : ∀ c, 0 ≤ c → c < w * h → mined c = 0 ∨ mined c = 1) (a : SK w h sh left mined st g c f) (hc : ¬ c = -1) : st c ≤ 1 := by
  obtain ⟨h1, h2, h3, h4⟩ := a.tl hc
  apply Classical.byContradiction
  intro k
  have := (QG.val h1 hm h3 c h2.1 h2.2).2 k
  rcases h4 with y | y <;> omega
theorem SK.bd {w h sh left g c : Int} {mined st f : Int → Int} (hm : ∀ c, 0 ≤ c → c < w * h → mined c = 0 ∨ mined c = 1) (a : SK w h sh left mined st g c f) (hc : ¬ c = -1) (nf : ¬ Fit w h sh st (AllCh w h sh st)) : Bd w h sh st (AllCh w h sh st) c := by
  obtain ⟨h1, h2, h3, h4⟩ := a.tl hc
  have hu := a.unk hm hc
  have kf : Kf (w * h) st f c := ⟨h2, hu, by rcases h4 with y | y <;> omega⟩
  by_cases e1 : g = 1
  · exact (h3.1 e1).2.2 _ Bd.c1 c kf
  · by_cases e2 : g = 2
    · exact (h3.2.1 e2).2.2.2 _ Bd.c1 Bd.c2 c kf
    · exact ((h3.2.2 (by omega)).1 nf).2.2.2 _ Bd.c1 Bd.c2 c kf
theorem s_hintM {w h sh thr q0 N0 mg mr mt : Int} {near degree mine M mined number st sf0 mf0 us0 po0 pl0 sz0 ways0 wth0 ms0 rs0 bt rc0 mo0 rea0 : Int → Int} {post : Int → (Int) → (Int) → (Int) → (Int) → (Int) → (Int) → (Int → Int) → (Int → Int) → (Int → Int) → (Int → Int) → (Int → Int) → (Int → Int) → (Int → Int) → (Int → Int) → (Int → Int) → (Int → Int) → (Int → Int) → (Int → Int) → (Int → Int) → Prop} (E : ME w h sh near degree mine M mined number st) (bt_ok : BT bt)
    (hp0 : ∀ (q N : Int) (sf mf us po pl sz ways wth ms rs rc mo : Int → Int), NT w h sh (MLf (w * h) mine M) mined st 4 → post 0 0 q N 0 0 0 sf mf us po pl sz ways wth ms rs rc mo rea0)
    (hp1 : ∀ (g c z b : Int) (f : Int → Int) (q N : Int) (sf mf us po pl sz ways wth ms rs rc mo rea : Int → Int), SK w h sh (MLf (w * h) mine M) mined st g c f → ¬ c = -1 → (z = 0 ∨ z = 1) → (z = 1 ↔ f c = 2) → (z = 0 → b = 1) → (¬ z = 0 → b = 0) → seg rea 0 (FinL w h sh st mined (MLf (w * h) mine M) c b).length = FinL w h sh st mined (MLf (w * h) mine M) c b → post (1 + 2 * c + z) 0 q N g (FinL w h sh st mined (MLf (w * h) mine M) c b).length (iB (W0 w h sh st mined (MLf (w * h) mine M) c b)) sf mf us po pl sz ways wth ms rs rc mo rea) :
    P_X12_hint post thr w h (w * h) sh 1 q0 N0 mg mr mt near degree mine M sf0 mf0 us0 po0 pl0 sz0 ways0 wth0 ms0 rs0 bt rc0 mo0 rea0 := by
  have ok := E.1
  have hm := E.2.2.2.1
  have hle := wh_le ok
  generalize eL : MLf (w * h) mine M = left at *
  unfold P_X12_hint P_X12_noReason
  refine ⟨fun _ => ?_, fun z => absurd z (by decide)⟩
  refine ⟨fun n c x q N g sf mf us po pl sz ways wth ms rs rc mo => n = (4 - x).toNat ∧ 1 ≤ x ∧ x ≤ 4 ∧ (c = -1 ∨ 0 ≤ c) ∧ (c = -1 → g = 0 ∧ NT w h sh left mined st x) ∧ (¬ c = -1 → SK w h sh left mined st g c (fM st sf mf) ∧ (sf c = 0 ∨ sf c = 1)), ⟨_, rfl, by omega, by omega, Or.inl rfl, fun _ => ⟨rfl, fun k k0 k1 => by omega⟩, fun y => absurd rfl y⟩, ?_⟩
  rintro n c x q N g sf mf us po pl sz ways wth ms rs rc mo rc' rx ⟨rfl, b1, b2, b0, b4, b5⟩
  have fin : (3 < x ∨ 0 ≤ c) → ((0 ≤ c → ((0 ≤ c ∧ c < 144) ∧ (∀ v_32 : Int, v_32 = sf c → (v_32 = 0 ∨ v_32 = 1) → (∃ J_33 : (Int) → Prop, ((¬ v_32 = 0 → (J_33 0)) ∧ (v_32 = 0 → (J_33 1))) ∧ (∀ (z_35 : Int), inR z_35 → J_33 z_35 → ((z_35 = 0 ∨ z_35 = 1) ∧ (P_X12_findReason (fun (M_parts_37 : Int) (M_numbers_38 : Int) (M_reasons_39 : Int) (M_total_40 : Int) (M_used_41 : Int → Int) (M_partOf_42 : Int → Int) (M_placeOf_43 : Int → Int) (M_partSize_44 : Int → Int) (M_ways_45 : Int → Int) (M_with_46 : Int → Int) (M_masks_47 : Int → Int) (M_rests_48 : Int → Int) (M_reach_49 : Int → Int) (M_more_50 : Int → Int) (M_reason_51 : Int → Int) => (∃ J_52 : (Int) → Prop, ((z_35 = 0 → (J_52 0)) ∧ (¬ z_35 = 0 → (J_52 1))) ∧ (∀ (z_54 : Int), inR z_54 → J_52 z_54 → (inR ((1 + (2 * c)) + z_54) ∧ (post ((1 + (2 * c)) + z_54) 0 M_parts_37 M_numbers_38 g M_reasons_39 M_total_40 sf mf M_used_41 M_partOf_42 M_placeOf_43 M_partSize_44 M_ways_45 M_with_46 M_masks_47 M_rests_48 M_reach_49 M_more_50 M_reason_51))))) (w * h) q N 0 0 near degree mine M us po pl sz ways wth ms rs bt rc mo rea0 c z_35))))))) ∧ (¬ 0 ≤ c → (post 0 0 q N g 0 0 sf mf us po pl sz ways wth ms rs rc mo rea0))) := by
    intro hh
    refine ⟨fun y => ?_, fun y => ?_⟩
    · have nc : ¬ c = -1 := by omega
      obtain ⟨sk, s01⟩ := b5 nc
      have tl := sk.tl nc
      have hu := sk.unk hm nc
      have fc : fM st sf mf c = 2 ↔ sf c = 0 := by
        have t := tl.2.2.2
        unfold TL at t
        rw [fM_u hu] at t ⊢
        by_cases k : sf c = 0
        · rw [if_pos k] at t ⊢
          by_cases k2 : mf c = 0
          · rw [if_pos k2] at t
            omega
          · rw [if_neg k2]
            exact ⟨fun _ => k, fun _ => rfl⟩
        · rw [if_neg k]
          exact ⟨fun q => absurd q (by decide), fun q => absurd q k⟩
      refine ⟨by omega, fun v ev hv => ⟨fun z => (z = 0 ∨ z = 1) ∧ (z = 1 ↔ fM st sf mf c = 2), ⟨fun r => ⟨Or.inl rfl, ⟨fun q => absurd q (by decide), fun q => absurd (ev.trans (fc.1 q)) r⟩⟩, fun r => ⟨Or.inr rfl, ⟨fun _ => fc.2 (ev.symm.trans r), fun _ => rfl⟩⟩⟩, fun z rz ⟨z01, zf⟩ => ⟨z01, ?_⟩⟩⟩
      have hb0 : z = 0 → 1 - z = 1 := fun r => by omega
      have hb1 : ¬ z = 0 → 1 - z = 0 := fun r => by omega
      refine s_findReasonM (b := 1 - z) E bt_ok tl.2.1 hu hb0 hb1 (fun nf => sk.bd hm nc nf) (fun q2 N2 us2 po2 pl2 sz2 ways2 wth2 ms2 rs2 rc2 mo2 rea2 hs => ?_)
      rw [eL] at hs ⊢
      have don : ∀ z' : Int, z' = z → (inR ((1 + (2 * c)) + z') ∧ (post ((1 + (2 * c)) + z') 0 q2 N2 g (FinL w h sh st mined left c (1 - z)).length (iB (W0 w h sh st mined left c (1 - z))) sf mf us2 po2 pl2 sz2 ways2 wth2 ms2 rs2 rc2 mo2 rea2)) := by
        intro z' ez
        refine ⟨by have := tl.2.1; omega, ?_⟩
        rw [ez]
        exact hp1 g c z (1 - z) (fM st sf mf) _ _ _ _ _ _ _ _ _ _ _ _ _ _ _ sk nc z01 zf hb0 hb1 hs
      exact exJi ⟨fun r _ => don 0 r.symm, fun r _ => don 1 (by omega)⟩
    · obtain ⟨q1, q2⟩ := b4 (by omega)
      have : x = 4 := by omega
      subst this
      rw [q1]
      exact hp0 _ _ _ _ _ _ _ _ _ _ _ _ _ _ q2
  refine ⟨_, ⟨fun z => fin (Or.inl z), fun z => ⟨fun z1 => fin (Or.inr z1), fun z1 => ?_⟩⟩, fun jj => jj⟩
  obtain ⟨q1, q2⟩ := b4 (by omega)
  refine s_findUpToM E bt_ok ⟨b1, by omega⟩ (fun q3 N3 sf3 mf3 us3 po3 pl3 sz3 ways3 wth3 ms3 rs3 rc3 mo3 qg h01 => s_firstFound E h01 (fun c3 fs _ => ?_))
  rw [eL] at qg
  refine ⟨fun g' => (c3 < 0 → g' = g) ∧ (¬ c3 < 0 → g' = x), ⟨fun y => ⟨fun _ => rfl, fun k => absurd y k⟩, fun y => ⟨fun k => absurd k y, fun _ => rfl⟩⟩, fun g' ⟨e1, e2⟩ => nx (by omega) ⟨_, ?_, rfl, by omega, by omega, ?_, fun y => ?_, fun y => ?_⟩⟩
  · omega
  · rcases fs with fs | fs
    · exact Or.inl fs.1
    · exact Or.inr fs.1.1
  · exact ⟨by rw [e1 (by omega)]; exact q1, q2.succ ⟨b1, by omega⟩ qg (y ▸ fs)⟩
  · rcases fs with fs | fs
    · exact absurd fs.1 y
    · rw [e2 (by omega)]
      exact ⟨Or.inr ⟨⟨b1, by omega⟩, fs.1, q2, qg, Or.inr fs⟩, (h01 c3 fs.1.1 fs.1.2).1⟩
/-- what is told, on both sides -/
def AR (n ag aw an : Int) (nm : Int → Int) (mg mt mr : Int) (rea : Int → Int) : Prop := ag = mg ∧ aw = mt ∧ (aw = 0 ∨ aw = 1) ∧ an = mr ∧ (0 ≤ an ∧ an ≤ 144) ∧ (0 ≤ ag ∧ ag ≤ 3) ∧ ∀ i, 0 ≤ i → i < an → nm i = rea i ∧ 0 ≤ nm i ∧ nm i < n
theorem AR.of {w h sh g : Int} {l : List Int} {nm rea : Int → Int} {p : Prop} (ok : okB w h sh) (hl : ∀ x ∈ l, 0 ≤ x ∧ x < w * h) (nd : l.Nodup) (h1 : seg nm 0 l.length = l) (h2 : seg rea 0 l.length = l) (hg : 0 ≤ g ∧ g ≤ 3) : AR (w * h) g (iB p) l.length nm g (iB p) l.length rea := by
  have hle := wh_le ok
  have hge := wh_ge ok
  have len : (l.length : Int) ≤ w * h := by
    have := nd_sub_len (m := cellsL (w * h)) nd (fun x mx => mem_cells.2 (hl x mx))
    have := cells_len (n := w * h) (by omega)
    omega
  refine ⟨rfl, rfl, by have := iB_b p; omega, rfl, ⟨by omega, by omega⟩, hg, fun i i0 i1 => ?_⟩
  have e1 := seg_get (f := nm) (b := 0) (k := l.length) (i := i.toNat) (by omega)
  have e2 := seg_get (f := rea) (b := 0) (k := l.length) (i := i.toNat) (by omega)
  rw [h1, show (0 : Int) + ((i.toNat : Nat) : Int) = i by omega] at e1
  rw [h2, show (0 : Int) + ((i.toNat : Nat) : Int) = i by omega] at e2
  have : nm i = rea i := by
    rw [e1] at e2
    exact Option.some.inj e2
  exact ⟨this, hl _ (List.mem_of_getElem? e1)⟩
theorem FinL_mem {w h sh left c b x : Int} {st mined : Int → Int} (m : x ∈ FinL w h sh st mined left c b) : 0 ≤ x ∧ x < w * h := mem_cells.1 (List.mem_filter.1 m).1
theorem FinL_nd {w h sh left c b : Int} {st mined : Int → Int} : (FinL w h sh st mined left c b).Nodup := cells_nd.sublist List.filter_sublist
theorem op_hint {w h sh mines thr P0 lg0 N0 ag0 tk0 wc mc a1 a2 a3 a4 a5 q0 NN0 mg mr mt : Int} {near nearEnd mined number st ci un hi ch0 po0 rs0 uk0 ps0 cs0 mset0 sset0 pS0 ta0 as0 go0 gz0 links0 le0 pk0 gm0 gs0 f0 oe0 nd0 wt0 ws0 com0 met0 nm0 mnear degree mine M sf0 mf0 us0 mpo0 pl0 sz0 ways0 wth0 ms0 mrs0 bt rc0 mo0 rea0 : Int → Int} {S0 nS0 : Int → Int64} {px : Int → (Int) → (Int) → (Int) → (Int) → (Int) → (Int) → (Int) → (Int) → (Int) → (Int) → (Int) → (Int) → (Int → Int) → (Int → Int) → (Int → Int) → (Int → Int) → (Int → Int) → (Int → Int) → (Int → Int) → (Int → Int) → (Int → Int) → (Int → Int) → (Int → Int) → (Int → Int) → (Int → Int) → (Int → Int) → (Int → Int) → (Int → Int) → (Int → Int) → (Int → Int) → (Int → Int64) → (Int → Int64) → (Int → Int) → (Int → Int) → (Int → Int) → (Int → Int) → (Int → Int) → (Int → Int) → (Int → Int) → (Int → Int) → Prop} (D : DE w h sh near nearEnd mined number st ci un hi mines) (E : ME w h sh mnear degree mine M mined number st) (h0 : ps0 0 = 0) (bt_ok : BT bt) :
    P_X11_hint (fun res _ _ _ _ _ _ _ ag _ _ aw an _ _ _ _ ps' _ _ _ _ _ _ _ _ _ _ _ _ _ _ _ _ _ _ _ _ _ _ nm' => P_X12_hint (fun b t _ _ mg' mr' mt' _ _ _ _ _ _ _ _ _ _ _ _ rea' => t = 0 ∧ b = res ∧ ps' 0 = 0 ∧ AR (w * h) ag aw an nm' mg' mt' mr' rea') thr w h (w * h) sh 1 q0 NN0 mg mr mt mnear degree mine M sf0 mf0 us0 mpo0 pl0 sz0 ways0 wth0 ms0 mrs0 bt rc0 mo0 rea0) px
      1 mines (w * h) P0 lg0 N0 ag0 tk0 wc mc a1 a2 a3 a4 a5 number st ci un hi near nearEnd ch0 po0 rs0 uk0 ps0 cs0 mset0 sset0 pS0 ta0 as0 go0 gz0 links0 le0 pk0 gm0 gs0 S0 nS0 f0 oe0 nd0 wt0 ws0 com0 met0 nm0 := by
  have ok := D.1
  have hm := D.2.2.1.1
  have hle := wh_le ok
  have el := left_eq D E
  unfold P_X11_hint
  refine s_needBoard1 (s_seek D h0 (fun P lg N ag tk wc' mc' g c v ch po rs uk ps cs mset sset pS ta as go gz links le pk gm gs S nS f oe nd wt ws com met p0 sk v01 iv => ⟨fun z => ?_, fun z => ?_⟩))
  · have nc : ¬ c = -1 := fun k => by
      rcases sk with sk | sk
      · exact z sk.2.1
      · omega
    have tl := sk.tl nc
    have hu := sk.unk hm nc
    have hb0 : v = 0 → 1 - v = 1 := fun r => by omega
    have hb1 : ¬ v = 0 → 1 - v = 0 := fun r => by omega
    refine s_explain (b := 1 - v) D p0 tl.2.1 hu hb0 hb1 (fun P2 lg2 N2 ag2 tk2 ch2 po2 rs2 uk2 ps2 cs2 mset2 sset2 pS2 ta2 as2 go2 gz2 links2 le2 pk2 gm2 gs2 S2 nS2 nm2 p02 hs => ?_)
    have don : ∀ z' : Int, z' = v → (inR ((1 + (2 * c)) + z') ∧ P_X12_hint (fun b t _ _ mg' mr' mt' _ _ _ _ _ _ _ _ _ _ _ _ rea' => t = 0 ∧ b = 1 + 2 * c + z' ∧ ps2 0 = 0 ∧ AR (w * h) g (iB (W0 w h sh st mined (mines - ci 3) c (1 - v))) (FinL w h sh st mined (mines - ci 3) c (1 - v)).length nm2 mg' mt' mr' rea') thr w h (w * h) sh 1 q0 NN0 mg mr mt mnear degree mine M sf0 mf0 us0 mpo0 pl0 sz0 ways0 wth0 ms0 mrs0 bt rc0 mo0 rea0) := by
      intro z' ez
      refine ⟨by have := tl.2.1; omega, s_hintM E bt_ok (fun q N sf mf us po pl sz ways wth ms rs rc mo nt => ?_) (fun g' c' z2 b f' q N sf mf us po pl sz ways wth ms rs rc mo rea sk' nc' o2 i2 hb0' hb1' hs' => ?_)⟩
      · rw [el] at nt
        exact absurd tl.2.2.2 (nt g tl.1.1 (by omega) f tl.2.2.1 c tl.2.1.1 tl.2.1.2)
      · rw [el] at sk' hs' ⊢
        obtain ⟨e1, e2, e3⟩ := sk.eq sk'
        subst e1 e2
        have e4 := e3 nc
        have ezz : z2 = v := by
          by_cases k : f c = 2
          · have := iv.2 ⟨nc, k⟩
            have := i2.2 (by omega)
            omega
          · have : ¬ v = 1 := fun y => k (iv.1 y).2
            have : ¬ z2 = 1 := fun y => k (by have := i2.1 y; omega)
            omega
        have eb : b = 1 - v := by
          by_cases k : v = 0
          · rw [hb0' (by omega)]; omega
          · rw [hb1' (by omega)]; omega
        subst eb
        refine ⟨rfl, by omega, p02, AR.of ok (fun x mx => FinL_mem mx) FinL_nd hs hs' ⟨by omega, by omega⟩⟩
    exact exJi ⟨fun r _ => don 0 r.symm, fun r _ => don 1 (by omega)⟩
  · have ec : c = -1 ∧ NT w h sh (mines - ci 3) mined st 4 := by
      rcases sk with sk | sk
      · exact ⟨sk.1, sk.2.2⟩
      · omega
    refine s_hintM E bt_ok (fun q N sf mf us po pl sz ways wth ms rs rc mo nt => ⟨rfl, rfl, p0, z, rfl, Or.inl rfl, rfl, by omega, by omega, fun i i0 i1 => by omega⟩) (fun g' c' z2 b f' q N sf mf us po pl sz ways wth ms rs rc mo rea sk' nc' o2 i2 hb0' hb1' hs' => ?_)
    rw [el] at sk'
    have tl := sk'.tl nc'
    exact absurd tl.2.2.2 (ec.2 g' tl.1.1 (by omega) f' tl.2.2.1 c' tl.2.1.1 tl.2.1.2)
