/-! chord on both sides -/
theorem sumL_add {l : List Int} {f g k : Int → Int} (h : ∀ x ∈ l, f x = g x + k x) : sumL l f = sumL l g + sumL l k := by
  induction l with
  | nil => simp [sumL]
  | cons a l ih =>
    rw [sumL_cons, sumL_cons, sumL_cons, ih (fun x hx => h x (List.mem_cons_of_mem _ hx)), h a List.mem_cons_self]
    omega
theorem sumL_pos {l : List Int} {f : Int → Int} (h : ∀ x ∈ l, 0 ≤ f x) : 0 ≤ sumL l f := by
  induction l with
  | nil => simp [sumL]
  | cons a l ih =>
    rw [sumL_cons]
    have := ih (fun x hx => h x (List.mem_cons_of_mem _ hx))
    have := h a List.mem_cons_self
    omega
theorem iU_split {s : Int} (h : 0 ≤ s ∧ s ≤ 3) : iU s = iK 0 s + iK 1 s := by
  rcases (show s = 0 ∨ s = 1 ∨ s = 2 ∨ s = 3 by omega) with e | e | e | e <;> subst e <;> decide
theorem iK_tr {k s : Int} (h : 0 ≤ s ∧ s ≤ 3) : iK k (tr s) = iK (tr k) s := by
  unfold iK
  by_cases e : tr s = k
  · rw [if_pos e, if_pos (by rw [← e, tr_tr])]
  · rw [if_neg e, if_neg (fun z => e (by rw [z, tr_tr]))]
theorem kn_uk {n : Int} {st : Int → Int} (hn : 0 ≤ n) (hs : ∀ c, 0 ≤ c → c < n → 0 ≤ st c ∧ st c ≤ 3) : sumL (cellsL n) (fun c => iK 0 (st c)) + sumL (cellsL n) (fun c => iK 1 (st c)) = n - kn n st := by
  have h1 := sumL_add (l := cellsL n) (f := fun c => iU (st c)) (g := fun c => iK 0 (st c)) (k := fun c => iK 1 (st c)) (fun x hx => by have := mem_cells.mp hx; exact iU_split (hs x this.1 this.2))
  have h2 := sumL_add (l := cellsL n) (f := fun _ => 1) (g := fun c => iU (st c)) (k := fun c => 1 - iU (st c)) (fun x hx => by omega)
  rw [sumL_const (k := 1) (fun _ _ => rfl)] at h2
  have h3 := cells_len hn
  unfold kn
  omega
theorem s_unknownCells {w h sh : Int} {st ci un hi : Int → Int} {post : Int → Prop} (ok : okB w h sh) (d : DSt w h sh st ci un hi) (hp : post (w * h - kn (w * h) st)) : P_X2_unknownCells post ci := by
  have hle := wh_le ok
  have hge := wh_ge ok
  have k := kn_uk (n := w * h) (st := st) (by omega) d.1
  have b := kn_b (n := w * h) (st := st) (by omega)
  rw [← d.2.1 0 (by omega) (by omega), ← d.2.1 1 (by omega) (by omega)] at k
  intro v1 e1 r1 v2 e2 r2
  subst e1 e2
  rw [k]
  exact ⟨by omega, hp⟩
/-- whether a cell can be the middle of a chord -/
abbrev rdy (w h sh : Int) (number st : Int → Int) (c : Int) : Prop := st c = 2 ∧ 0 < sumL (NB w h sh c) (fun d => iK 0 (st d)) ∧ sumL (NB w h sh c) (fun d => iK 1 (st d)) + sumL (NB w h sh c) (fun d => iH (st d)) = number c
theorem s_ready {w h sh c mines : Int} {mined number st ci un hi near nearEnd : Int → Int} {post : Int → Prop} (ok : okB w h sh) (g : GeoD w h sh near nearEnd) (dm : DMi w h sh mined number mines) (d : DSt w h sh st ci un hi) (hc : 0 ≤ c ∧ c < w * h) (h1 : rdy w h sh number st c → post 1) (h0 : ¬ rdy w h sh number st c → post 0) : P_X2_isReadyToChord post number st un hi near nearEnd c := by
  have hle := wh_le ok
  have hl := NB_len ok hc
  have ge := (g c hc.1 hc.2).1
  unfold P_X2_isReadyToChord
  refine ⟨by omega, fun v ev rv => ⟨fun q => ⟨by omega, fun x0 ex0 => ?_⟩, fun q => h0 (fun z => q (by rw [ev]; exact z.1))⟩⟩
  refine ⟨fun n s x => n = (nearEnd c - x).toNat ∧ 8 * c ≤ x ∧ x ≤ nearEnd c ∧ s = sumL ((NB w h sh c).take (x - 8 * c).toNat) (fun d => iK 1 (st d)), ⟨_, rfl, by omega, by omega, by rw [ex0, show (c * 8 - 8 * c).toNat = 0 by omega]; rfl⟩, ?_⟩
  rintro n s x rs rx ⟨rfl, b1, b2, b3⟩
  refine ⟨by omega, fun v2 ev2 rv2 => ⟨fun q2 => ⟨by omega, fun v3 ev3 rv3 => ?_⟩, fun q2 => ?_⟩⟩
  · rw [row_end g hc (by omega)] at b3
    have hu := d.2.2.1 c hc.1 hc.2
    have hh := d.2.2.2 c hc.1 hc.2
    have hsp := sumL_add (l := NB w h sh c) (f := fun d => iU (st d)) (g := fun d => iK 0 (st d)) (k := fun d => iK 1 (st d)) (fun x hx => by have := nb_cell hx; exact iU_split (d.1 x this.1 this.2))
    have hb := d.hit_b ok hc.1 hc.2
    have ub := d.unk_b ok hc.1 hc.2
    have p0 := sumL_pos (l := NB w h sh c) (f := fun d => iK 0 (st d)) (fun x _ => (iK_b _ _).1)
    have p1 := sumL_pos (l := NB w h sh c) (f := fun d => iK 1 (st d)) (fun x _ => (iK_b _ _).1)
    refine exJi ⟨¬ rdy w h sh number st c, ⟨fun z => ?_, fun z => ⟨by omega, fun v4 ev4 rv4 => ⟨by omega, fun v5 ev5 rv5 => ⟨by omega, fun z2 => ?_, fun z2 _ => ⟨by omega, h1 ?_⟩⟩⟩⟩⟩, fun z _ => ⟨by omega, h0 z⟩⟩
    · rintro ⟨-, y, -⟩; omega
    · rintro ⟨-, -, y⟩; omega
    · exact ⟨by omega, by omega, by omega⟩
  · obtain ⟨m, t, nm⟩ := row_at g hc b1 (by omega)
    have mc := nb_cell m
    have tb := take_b (k := (x - 8 * c).toNat) (f := fun d => iK 1 (st d)) ok hc (fun x _ => iK_b _ _)
    refine ⟨by omega, fun v3 ev3 rv3 => ?_⟩
    subst ev3
    refine ⟨by omega, fun v4 ev4 rv4 => ⟨fun y => y = s + iK 1 (st (near x)), ⟨fun z => ?_, fun z => ⟨by omega, fun s2 es2 => ?_⟩⟩, fun s2 rs2 es2 => ⟨by omega, fun y ey => ⟨(nearEnd c - y).toNat, by omega, rfl, by omega, by omega, ?_⟩⟩⟩⟩
    · rw [show iK 1 (st (near x)) = 0 from if_neg (by rw [← ev4]; exact z)]; omega
    · rw [show iK 1 (st (near x)) = 1 from if_pos (by rw [← ev4]; exact z)]; exact es2
    · rw [show (y - 8 * c).toNat = (x - 8 * c).toNat + 1 by omega, t, sumL_snoc, es2, b3]
theorem op_chord {w h sh bb mines moves ch ib lives mvs thr r c : Int} {mined number st ci un hi ms cd wt near nearEnd mnear degree mine M old : Int → Int} {H : Int → Int64} (R : RB w h sh bb mines moves ch mined number st ci un hi ms cd near nearEnd ib lives mvs mnear degree mine M H old) (hmv : moves ≤ 511) :
    P_X11_chord (fun res moves' ch' st' ci' un' hi' ms' cd' _ => P_X12_chord (fun b t lives' mvs' M' H' old' => t = 0 ∧ b = res ∧ RB w h sh bb mines moves' ch' mined number st' ci' un' hi' ms' cd' near nearEnd ib lives' mvs' mnear degree mine M' H' old' ∧ moves' = moves + 1) thr w h (w * h) sh 1 lives mvs mnear degree mine M H old r c)
      (fun k moves' ch' st' ci' un' hi' ms' cd' _ => P_X12_chord (fun _ t lives' mvs' M' H' old' => t = k ∧ RB w h sh bb mines moves' ch' mined number st' ci' un' hi' ms' cd' near nearEnd ib lives' mvs' mnear degree mine M' H' old' ∧ moves' = moves) thr w h (w * h) sh 1 lives mvs mnear degree mine M H old r c)
      1 moves ch w h mined number st ci un hi ms cd wt near nearEnd r c := by
  obtain ⟨ok, gD, gM, dm, em, ds, eM, gs, el, emv, L, eb⟩ := id R
  have hle := wh_le ok
  have hge := wh_ge ok
  subst el
  replace emv := emv.symm
  subst emv
  have hb := hits_b (n := w * h) (st := st) (by omega)
  have l1 := L.1
  have hmine : ∀ y, 0 ≤ y → y < w * h → mine y = 0 ∨ mine y = 1 := fun y y0 y1 => by rw [em y y0 y1]; exact dm.1 y y0 y1
  unfold P_X11_chord
  refine s_cellAt1 ok (fun q => ?_) (fun q => ?_)
  · have hc := rc_lt q.1 q.2.1 q.2.2.1 q.2.2.2
    intro _
    generalize ec : r * w + c = cell at *
    have hsc := ds.1 cell hc.1 hc.2
    have sr : ∀ (k : Int), sumL (NB w h sh cell) (fun d => iK k (M d)) = sumL (NB w h sh cell) (fun d => iK (tr k) (st d)) := fun k => sumL_congr (fun x hx => by have := nb_cell hx; rw [eM x this.1 this.2]; exact iK_tr (ds.1 x this.1 this.2))
    have eMc : M cell = 1 ↔ st cell = 2 := by
      rw [eM cell hc.1 hc.2]
      rcases (show st cell = 0 ∨ st cell = 1 ∨ st cell = 2 ∨ st cell = 3 by omega) with e | e | e | e <;> rw [e] <;> decide
    have nb8 := dm.num_b ok hc.1 hc.2
    have bK : ∀ k : Int, 0 ≤ sumL (NB w h sh cell) (fun d => iK k (M d)) ∧ sumL (NB w h sh cell) (fun d => iK k (M d)) ≤ 8 := fun k => by
      have := sumL_bound (l := NB w h sh cell) (f := fun d => iK k (M d)) (fun x _ => iK_b _ _)
      have := NB_len ok hc
      omega
    have bk0 := bK 0
    have bk2 := bK 2
    have bk3 := bK 3
    have enum : Num w h sh mine cell = number cell := by rw [num_congr em, dm.2.1 cell hc.1 hc.2]
    have e0 : sumL (NB w h sh cell) (fun d => iK 0 (M d)) = sumL (NB w h sh cell) (fun d => iK 0 (st d)) := sr 0
    have e2 : sumL (NB w h sh cell) (fun d => iK 2 (M d)) = sumL (NB w h sh cell) (fun d => iK 1 (st d)) := sr 2
    have e3 : sumL (NB w h sh cell) (fun d => iK 3 (M d)) = sumL (NB w h sh cell) (fun d => iH (st d)) := sr 3
    have bad : ¬ (rdy w h sh number st cell ∧ 0 < 3 - hits (w * h) st) → P_X12_chord (fun _ t lives' mvs' M' H' old' => t = 3 ∧ RB w h sh bb mines moves ch mined number st ci un hi ms cd near nearEnd ib lives' mvs' mnear degree mine M' H' old' ∧ moves = moves) thr w h (w * h) sh 1 (3 - hits (w * h) st) moves mnear degree mine M H old r c := by
      intro hbad
      unfold P_X12_chord
      refine s_hasM1 ok (fun _ _ => ⟨fun _ => ⟨by rw [wrc, ec]; omega, fun x ex => ?_⟩, fun z => absurd z (by omega)⟩) (fun z => absurd q z)
      rw [wrc, ec] at ex
      subst ex
      refine ⟨by omega, fun v ev rv => ⟨True, ⟨fun _ => trivial, fun z => ⟨fun _ => trivial, fun z2 => ?_⟩⟩, fun _ => fun _ => ⟨rfl, R, rfl⟩⟩⟩
      refine s_numberOf ok gM hc hmine (fun _ => s_aroundM ok gM hc (fun _ => s_aroundM ok gM hc (fun _ => ⟨by omega, fun _ => trivial, fun z3 => s_aroundM ok gM hc (fun _ => ⟨fun z4 => ?_, fun _ => trivial⟩)⟩)))
      exfalso
      exact hbad ⟨⟨eMc.mp (by omega), by omega, by omega⟩, by omega⟩
    refine s_allowsMove ok ds (fun q2 _ => ⟨fun z => absurd z (by omega), fun _ => s_ready ok gD dm ds hc (fun hr _ => ⟨fun _ => ?_, fun z => absurd z (by omega)⟩) (fun hr _ => ⟨fun z => absurd rfl z, fun _ => bad (fun y => hr y.1)⟩)⟩) (fun q2 _ => ⟨fun _ => bad (fun y => q2 ⟨y.2, by omega⟩), fun z => absurd rfl z⟩)
    refine s_unknownCells ok ds (fun _ => ?_)
    refine ⟨fun z2 => absurd z2 (by omega), fun _ => ⟨by omega, fun ms2 ems => ⟨by omega, fun mv2 emv2 => ?_⟩⟩⟩
    subst ems emv2
    have l3 := L.2.2.1
    have kn0 := kn_b (n := w * h) (st := st) (by omega)
    refine s_uncoverAround ok gD ds gs hc ⟨L.2.1, by omega⟩ dm.1 (fun x x0 x1 => dm.zero x0 x1) (fun k st' ci' un' hi' cd' wt' ds' gs' k1 k2 k3 k4 k5 k6 => ?_)
    have kb' := kn_b (n := w * h) (st := st') (by omega)
    refine s_unknownCells ok ds' (fun _ => ⟨by omega, ?_⟩)
    unfold P_X12_chord
    refine s_hasM1 ok (fun _ _ => ⟨fun _ => ⟨by rw [wrc, ec]; omega, fun x ex => ?_⟩, fun z => absurd z (by omega)⟩) (fun z => absurd q z)
    rw [wrc, ec] at ex
    subst ex
    refine ⟨by omega, fun v ev rv => ⟨False, ⟨fun z => absurd (by rw [ev]; exact eMc.mpr hr.1) z, fun z => ⟨fun z2 => absurd z2 (by omega), fun z2 => ?_⟩⟩, fun z => z.elim⟩⟩
    refine s_numberOf ok gM hc hmine (fun _ => s_aroundM ok gM hc (fun _ => s_aroundM ok gM hc (fun _ => ⟨by omega, fun z3 => absurd (by rw [enum, e2, e3]; exact hr.2.2.symm) z3, fun z3 => s_aroundM ok gM hc (fun _ => ⟨fun z4 => ?_, fun z4 => absurd z4 (by rw [e0]; have := hr.2.1; omega)⟩)⟩)))
    have uk : ∀ (A : Int → Int) (s : Int → Int), (∀ y, 0 ≤ y → y < w * h → A y = tr (s y)) → (∀ y, 0 ≤ y → y < w * h → 0 ≤ s y ∧ s y ≤ 3) → sumL (cellsL (w * h)) (fun c => iK 0 (A c)) + sumL (cellsL (w * h)) (fun c => iK 2 (A c)) = w * h - kn (w * h) s := by
      intro A s hA hs
      rw [← kn_uk (by omega) hs]
      congr 1
      · exact sumL_congr (fun y hy => by have := mem_cells.mp hy; rw [hA y this.1 this.2]; exact iK_tr (hs y this.1 this.2))
      · exact sumL_congr (fun y hy => by have := mem_cells.mp hy; rw [hA y this.1 this.2]; exact iK_tr (hs y this.1 this.2))
    refine s_keep ⟨by omega, by omega⟩ ⟨by omega, by omega⟩ (fun y y0 y1 => by rw [eM y y0 y1]; exact tr_b (ds.1 y y0 y1)) (fun H' hH1 hH2 => ?_)
    have uk0 := uk M st eM ds.1
    refine s_manyM ⟨by omega, by omega⟩ (fun _ => s_manyM ⟨by omega, by omega⟩ (fun _ => ⟨by omega, fun x4 ex4 => ?_⟩))
    refine ⟨fun n y lv A => n = (w * h - y).toNat ∧ 0 ≤ y ∧ y ≤ w * h ∧ (∀ u, 0 ≤ u → u < w * h → 0 ≤ A u ∧ A u ≤ 3) ∧ GSt w h sh mined number (fun u => tr (A u)) ∧ lv = 3 - hits (w * h) (fun u => tr (A u)) ∧ ChR w h sh mine (Num w h sh mine) ((cellsL y).filter (adjB w h sh x)) (fun u => tr (M u)) (fun u => tr (A u)), ⟨_, rfl, by omega, by omega, fun u u0 u1 => by rw [eM u u0 u1]; exact tr_b (ds.1 u u0 u1), ?_, ?_, fun _ _ _ => rfl⟩, ?_⟩
    · obtain ⟨g1, g2, g3, g4⟩ := gs
      have et := trEq eM
      refine ⟨fun u u0 u1 => ?_, fun u u0 u1 => ?_, fun u u0 u1 => ?_, fun u u0 u1 hu hz dd hdd => ?_⟩
      · rw [et u u0 u1]; exact g1 u u0 u1
      · rw [et u u0 u1]; exact g2 u u0 u1
      · rw [et u u0 u1]; exact g3 u u0 u1
      · have dc := nb_cell hdd
        rw [et u u0 u1] at hu
        rw [et dd dc.1 dc.2]
        exact g4 u u0 u1 hu hz dd hdd
    · rw [hits_congr (trEq eM)]
    · rintro n y lv A ry ⟨rfl, b1, b2, b3, b4, b5, b6⟩
      have hbA := hits_b (n := w * h) (st := fun u => tr (A u)) (by omega)
      refine ⟨fun z5 => ?_, fun z5 => ?_⟩
      · have e : y = w * h := by omega
        subst e
        have eq : Eqc (w * h) (fun u => tr (A u)) st' := ChR.uniq em (fun u u0 u1 => by rw [num_congr em, ← dm.2.1 u u0 u1]) (fun u u0 u1 => dm.zero u0 u1) (NB w h sh x) _ _ _ _ (fun u hu => nb_cell hu) (trEq eM) b6 k6
        have eA : ∀ u, 0 ≤ u → u < w * h → A u = tr (st' u) := fun u u0 u1 => by rw [← eq u u0 u1, tr_tr]
        have uk1 := uk A st' eA ds'.1
        have kb := kn_b (n := w * h) (st := st') (by omega)
        have L' := L.push (k := k) (st' := st') hle gs (by omega) (by omega) k3 k4 k5 (H' := H') (fun u u0 u1 => by rw [hH1 u u0 u1]; exact eM u u0 u1) hH2
        have bb0 := cellsB (n := w * h) (x := w * h) (f := fun c => iK 0 (A c)) ⟨by omega, by omega⟩ hle (fun c _ _ => iK_b _ _)
        have bb2 := cellsB (n := w * h) (x := w * h) (f := fun c => iK 2 (A c)) ⟨by omega, by omega⟩ hle (fun c _ _ => iK_b _ _)
        refine s_manyM ⟨by omega, by omega⟩ (fun _ => s_manyM ⟨by omega, by omega⟩ (fun _ => ⟨by omega, rfl, by omega, ?_, rfl⟩))
        exact ⟨ok, gD, gM, dm, em, ds', eA, gs', by rw [b5, hits_congr eq], rfl, L', eb⟩
      · have inl : ∀ u ∈ (cellsL y).filter (adjB w h sh x), 0 ≤ u ∧ u < w * h := fun u hu => by have := mem_cells.mp (List.mem_filter.mp hu).1; omega
        have yc : 0 ≤ y ∧ y < w * h := ⟨b1, by omega⟩
        have hAy := b3 y yc.1 yc.2
        have next : ∀ (lv2 : Int) (A2 : Int → Int), (∀ u, 0 ≤ u → u < w * h → 0 ≤ A2 u ∧ A2 u ≤ 3) → GSt w h sh mined number (fun u => tr (A2 u)) → lv2 = 3 - hits (w * h) (fun u => tr (A2 u)) → ChR w h sh mine (Num w h sh mine) ((cellsL (y + 1)).filter (adjB w h sh x)) (fun u => tr (M u)) (fun u => tr (A2 u)) → (inR (y + 1) ∧ ∀ x5_49 : Int, x5_49 = y + 1 → ∃ n_50 : Nat, n_50 < (w * h - y).toNat ∧ (n_50 = (w * h - x5_49).toNat ∧ 0 ≤ x5_49 ∧ x5_49 ≤ w * h ∧ (∀ u, 0 ≤ u → u < w * h → 0 ≤ A2 u ∧ A2 u ≤ 3) ∧ GSt w h sh mined number (fun u => tr (A2 u)) ∧ lv2 = 3 - hits (w * h) (fun u => tr (A2 u)) ∧ ChR w h sh mine (Num w h sh mine) ((cellsL x5_49).filter (adjB w h sh x)) (fun u => tr (M u)) (fun u => tr (A2 u)))) := by
          intro lv2 A2 p1 p2 p3 p4
          refine ⟨by omega, fun u eu => ⟨(w * h - u).toNat, by omega, rfl, by omega, by omega, p1, p2, p3, ?_⟩⟩
          subst eu; exact p4
        refine s_areNearM ok hc yc (fun hn _ => exJ2 ⟨fun z6 => absurd z6 (by omega), fun _ => ⟨by omega, fun v6 ev6 rv6 => ⟨fun z6 => ?_, fun z6 => ?_⟩⟩⟩) (fun hn _ => exJ2 ⟨fun _ => ?_, fun z6 => absurd rfl z6⟩)
        · have hin : adjB w h sh x y = true := adjB_iff.mpr (mem_NB.mp hn).2
          refine next lv A b3 b4 b5 ?_
          rw [cells_succ b1, List.filter_append, List.filter_cons_of_pos hin]
          refine b6.snoc (Or.inr ⟨?_, fun _ _ _ => rfl⟩) inl yc
          show ¬ tr (A y) = 0
          rcases (show A y = 1 ∨ A y = 2 ∨ A y = 3 by omega) with e | e | e <;> rw [e] <;> decide
        · have hin : adjB w h sh x y = true := adjB_iff.mpr (mem_NB.mp hn).2
          have tz : tr (A y) = 0 := by rw [← ev6, z6]; rfl
          refine s_uncoverM ok gM yc hmine b3 (by omega) (by omega) (fun u u0 u1 hu hz dd hdd => b4.2.2.2 u u0 u1 hu (by rw [dm.2.1 u u0 u1, ← num_congr em]; exact hz) dd hdd) (fun lv2 A2 hA2 hu => ?_)
          have u2 : UncR w h sh mine (Num w h sh mine) (fun u => tr (A u)) y (fun u => tr (A2 u)) := by
            rcases hu with hu | hu
            · exact Or.inl ⟨hu.1, fun u _ _ => by rw [hu.2.2]⟩
            · exact Or.inr ⟨hu.1, hu.2.2⟩
          have u3 : UncR w h sh mined number (fun u => tr (A u)) y (fun u => tr (A2 u)) := by
            have ey := em y yc.1 yc.2
            rcases u2 with ⟨p, p2⟩ | ⟨p, p2⟩
            · exact Or.inl ⟨by omega, p2⟩
            · exact Or.inr ⟨by omega, p2.congr yc em (fun u u0 u1 => by rw [num_congr em, ← dm.2.1 u u0 u1]) (fun _ _ _ => rfl)⟩
          obtain ⟨g2, hh2⟩ := b4.unc yc (by show tr (A y) ≤ 1; omega) u3
          refine next lv2 A2 hA2 g2 ?_ ?_
          · have ey := em y yc.1 yc.2
            rcases hu with hu | hu <;> omega
          · rw [cells_succ b1, List.filter_append, List.filter_cons_of_pos hin]
            exact b6.snoc (Or.inl ⟨tz, u2⟩) inl yc
        · have hin : ¬ adjB w h sh x y = true := fun z => hn (mem_NB.mpr ⟨yc, adjB_iff.mp z⟩)
          refine next lv A b3 b4 b5 ?_
          rw [cells_succ b1, List.filter_append, List.filter_cons_of_neg hin]
          simp only [List.filter_nil, List.append_nil]
          exact b6
  · unfold P_X12_chord
    refine s_hasM1 ok (fun z => absurd z q) (fun _ _ => ⟨fun z => absurd rfl z, fun _ => ⟨rfl, R, rfl⟩⟩)
