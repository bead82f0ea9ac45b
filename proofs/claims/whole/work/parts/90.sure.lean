/-! whether a verdict follows, in the class -/
theorem SV.keep {w h sh P lg p q : Int} {st number hi un R po rs uk ps cs ms ss pS ta ms' ss' pS' ta' : Int → Int} {Ch : Int → Prop} (ok : okB w h sh) (cok : ChOk w h sh st Ch) (b : BS w h sh st number hi un Ch P lg po rs uk ps cs) (hp : 0 ≤ p ∧ p < P) (hq : 0 ≤ q ∧ q < P) (ne : q ≠ p) (v : SV w h sh st R Ch ps cs q ms ss pS ta) (k1 : ∀ r, r ≠ p → pS' r = pS r) (k2 : ∀ j, j < ps p + p ∨ ps (p + 1) + p < j → ta' j = ta j) (k3 : ∀ c, ¬ c ∈ CL ps cs p → ms' c = ms c ∧ ss' c = ss c) : SV w h sh st R Ch ps cs q ms' ss' pS' ta' := by
  have f := b.facts ok cok
  have fp := f.2.1 p hp.1 hp.2
  have fq := f.2.1 q hq.1 hq.2
  obtain ⟨v1, v2, v3⟩ := v
  refine ⟨fun m m0 m1 => ?_, by rw [k1 q ne]; exact v2, fun c mc => ?_⟩
  · rw [k2 _ ?_]
    · exact v1 m m0 m1
    · by_cases k : q < p
      · have := b.1.mono (q := q + 1) (r := p) (by omega) (by omega) (by omega)
        omega
      · have := b.1.mono (q := p + 1) (r := q) (by omega) (by omega) (by omega)
        omega
  · have nc : ¬ c ∈ CL ps cs p := fun m => by
      have e1 := (f.2.2.2.1 p c hp.1 hp.2 m).2
      have e2 := (f.2.2.2.1 q c hq.1 hq.2 mc).2
      omega
    rw [(k3 c nc).1, (k3 c nc).2]
    exact v3 c mc
theorem s_takeAllBut {w h sh P lg but N0 ag0 tk0 : Int} {st number hi un R near nearEnd ch po rs uk ps cs mset sset pS ta as go0 gz0 links0 le0 pk0 gm0 gs0 : Int → Int} {Ch : Int → Prop} {post : (Int) → (Int) → (Int) → (Int → Int) → (Int → Int) → (Int → Int) → (Int → Int) → (Int → Int) → (Int → Int) → (Int → Int) → (Int → Int) → (Int → Int) → (Int → Int) → (Int → Int) → (Int → Int) → (Int → Int) → (Int → Int) → Prop} (ok : okB w h sh) (geo : GeoD w h sh near nearEnd) (cok : ChOk w h sh st Ch) (hch : ∀ c, 0 ≤ c → c < w * h → (ch c = 0 ∨ ch c = 1) ∧ (ch c = 1 ↔ Ch c)) (b : BS w h sh st number hi un Ch P lg po rs uk ps cs) (ru : RU w h sh st R Ch rs uk) (hlg : lg ≤ 16) (hb : 0 ≤ but → but < P → SV w h sh st R Ch ps cs but mset sset pS ta)
    (hp : ∀ (N ag tk : Int) (mset' sset' pS' ta' as' go gz links le pk gm gs : Int → Int), (∀ q, 0 ≤ q → q < P → SV w h sh st R Ch ps cs q mset' sset' pS' ta') → post N ag tk rs uk mset' sset' pS' ta' as' go gz links le pk gm gs) :
    P_X6_takeAllBut post P N0 ag0 tk0 near nearEnd ch rs uk ps cs mset sset pS ta as go0 gz0 links0 le0 pk0 gm0 gs0 but := by
  have f := b.facts ok cok
  unfold P_X6_takeAllBut
  refine ⟨fun n x N ag tk rs' uk' mset' sset' pS' ta' as' go gz links le pk gm gs => n = (P - x).toNat ∧ 0 ≤ x ∧ x ≤ P ∧ rs' = rs ∧ uk' = uk ∧ ∀ q, 0 ≤ q → q < P → (q < x ∨ q = but) → SV w h sh st R Ch ps cs q mset' sset' pS' ta', ⟨_, rfl, by omega, by omega, rfl, rfl, fun q q0 q1 q2 => ?_⟩, ?_⟩
  · have e : q = but := by omega
    subst e
    exact hb q0 q1
  rintro n x N ag tk rs' uk' mset' sset' pS' ta' as' go gz links le pk gm gs rx ⟨rfl, b1, b2, rfl, rfl, b3⟩
  refine ⟨fun z => hp _ _ _ _ _ _ _ _ _ _ _ _ _ _ _ (fun q q0 q1 => b3 q q0 q1 (by omega)), fun z => ?_⟩
  refine ⟨fun N ag tk rs2 uk2 mset2 sset2 pS2 ta2 as2 go2 gz2 links2 le2 pk2 gm2 gs2 => rs2 = rs' ∧ uk2 = uk' ∧ ∀ q, 0 ≤ q → q < P → (q < x + 1 ∨ q = but) → SV w h sh st R Ch ps cs q mset2 sset2 pS2 ta2, ⟨fun z1 => ⟨rfl, rfl, fun q q0 q1 q2 => b3 q q0 q1 (by omega)⟩, fun z1 => ?_⟩, ?_⟩
  · refine s_take ok geo cok hch b ru hlg ⟨b1, by omega⟩ (Or.inl rfl) (fun N2 ag2 mset2 sset2 pS2 ta2 as2 go2 gz2 links2 le2 pk2 gm2 gs2 sv k1 k2 k3 _ => ⟨rfl, rfl, fun q q0 q1 q2 => ?_⟩)
    by_cases e : q = x
    · subst e
      exact sv
    · exact SV.keep ok cok b ⟨b1, by omega⟩ ⟨q0, q1⟩ e (b3 q q0 q1 (by omega)) k1 k2 k3
  · rintro N2 ag2 tk2 rs2 uk2 mset2 sset2 pS2 ta2 as2 go2 gz2 links2 le2 pk2 gm2 gs2 ⟨rfl, rfl, k⟩
    refine nx (by omega) ⟨_, ?_, rfl, by omega, by omega, rfl, rfl, k⟩
    omega
theorem and_zero {a b : Int} (ha : sm a) (hb : sm b) : andI a b = 0 ↔ ¬ ∃ m, 0 ≤ m ∧ tb a m ∧ tb b m := by
  have k := tb_ne (and_sm ha hb)
  constructor
  · rintro e ⟨m, m0, h1, h2⟩
    exact k.2 ⟨m, m0, (tb_and ha hb).2 ⟨h1, h2⟩⟩ e
  · intro h
    apply Classical.byContradiction
    intro e
    obtain ⟨m, m0, hm⟩ := k.1 e
    exact h ⟨m, m0, (tb_and ha hb).1 hm⟩
/-- a cell of a part, by the part's sets -/
theorem Pos_set {w h sh P lg p c v z all mines : Int} {near nearEnd mined ci st number hi un po rs uk ps cs : Int → Int} {Ch : Int → Prop} (D : DE w h sh near nearEnd mined number st ci un hi mines) (cok : ChOk w h sh st Ch) (b : BS w h sh st number hi un Ch P lg po rs uk ps cs) (hlg : lg ≤ 16) (hp : 0 ≤ p ∧ p < P) (hc : c ∈ CL ps cs p) (ha : ¬ all = 0) (hz : ∀ m, 0 ≤ m → (tb z m ↔ m ≤ 16 ∧ ∃ k, RS w h sh st (Rn w h sh st mined) Ch (Lb (CL ps cs) P p) k ∧ 0 ≤ mines - ci 3 - m - k ∧ mines - ci 3 - m - k ≤ (FrL w h sh st Ch).length)) : Pos w h sh st (Rn w h sh st mined) Ch (mines - ci 3) all c v ↔ ∃ m, 0 ≤ m ∧ mSc w h sh st (Rn w h sh st mined) Ch (CL ps cs p) c v m ∧ tb z m := by
  obtain ⟨a, b', e1, e2⟩ := Lb_split (f := CL ps cs) hp.1 hp.2
  have pl : PLs w h sh st Ch ((List.range P.toNat).map (fun i : Nat => CL ps cs (i : Int))) := b.pls D.1 cok
  rw [e1] at pl
  rw [Pos_in (left := mines - ci 3) (all := all) (v := v) cok D.rm pl hc]
  have len : (CL ps cs p).length ≤ 16 := by
    have := (b.nd D.1 cok hp).2.2
    have := b.2.2.2.1.2.1 p hp.1 hp.2
    omega
  constructor
  · rintro ⟨m, y1, y2⟩
    obtain ⟨t, bt, ts, et, ec⟩ := id y1
    have := sum_le_len (l := CL ps cs p) (t := t) (fun c => (bt c).1)
    have y3 := y2 ha
    rw [← e2] at y3
    exact ⟨m, by omega, y1, (hz m (by omega)).2 ⟨by omega, y3⟩⟩
  · rintro ⟨m, m0, y1, y2⟩
    refine ⟨m, y1, fun _ => ?_⟩
    rw [← e2]
    exact ((hz m m0).1 y2).2
theorem s_isSure {w h sh P lg c x2 all bb mines N0 ag0 tk0 : Int} {near nearEnd mined ci st number hi un ch po rs uk ps cs mset sset pS ta as go0 gz0 links0 le0 pk0 gm0 gs0 : Int → Int} {S nS : Int → Int64} {Ch : Int → Prop} {post : Int → (Int) → (Int) → (Int) → (Int → Int) → (Int → Int) → (Int → Int) → (Int → Int) → (Int → Int) → (Int → Int) → (Int → Int) → (Int → Int) → (Int → Int) → (Int → Int) → (Int → Int) → (Int → Int) → (Int → Int) → (Int → Int) → (Int → Int64) → (Int → Int64) → Prop} (D : DE w h sh near nearEnd mined number st ci un hi mines) (cok : ChOk w h sh st Ch) (hch : ∀ c, 0 ≤ c → c < w * h → (ch c = 0 ∨ ch c = 1) ∧ (ch c = 1 ↔ Ch c)) (b : BS w h sh st number hi un Ch P lg po rs uk ps cs) (hlg : lg ≤ 16) (hc : 0 ≤ c ∧ c < w * h) (hu : st c ≤ 1) (hb0 : x2 = 0 → bb = 1) (hb1 : ¬ x2 = 0 → bb = 0)
    (hp : ∀ (v N ag tk : Int) (mset' sset' pS' ta' as' go gz links le pk gm gs : Int → Int) (S' nS' : Int → Int64), (v = 0 ∨ v = 1) → (v = 1 ↔ ¬ Pos w h sh st (Rn w h sh st mined) Ch (mines - ci 3) all c bb) → post v N ag tk rs uk mset' sset' pS' ta' as' go gz links le pk gm gs S' nS') :
    P_X6_isSure post mines P N0 ag0 tk0 ci near nearEnd ch po rs uk ps cs mset sset pS ta as go0 gz0 links0 le0 pk0 gm0 gs0 S nS c x2 all := by
  have ok := D.1
  have geo := D.2.1
  have hle := wh_le ok
  have hge := wh_ge ok
  have f := b.facts ok cok
  have ru := b.ru D cok
  have rm := D.rm (Ch := Ch)
  have lb := left_b D
  have pl := b.pls ok cok
  have e4 := PLs_len pl (by omega)
  have hbb : bb = 0 ∨ bb = 1 := by
    by_cases k : x2 = 0
    · exact Or.inr (hb0 k)
    · exact Or.inl (hb1 k)
  have hbb' : 0 ≤ bb ∧ bb ≤ 1 := by omega
  have len16 : ∀ q, 0 ≤ q → q < P → (CL ps cs q).length ≤ 16 := by
    intro q q0 q1
    have := (b.nd ok cok ⟨q0, q1⟩).2.2
    have := b.2.2.2.1.2.1 q q0 q1
    omega
  unfold P_X6_isSure
  refine ⟨by omega, fun p ep rp => ⟨fun z => ?_, fun z => ?_⟩⟩
  · -- a cell that no number speaks of
    have nb : ¬ Bd w h sh st Ch c := fun k => by have := (f.2.2.1 c k).1; omega
    have mF : c ∈ FrL w h sh st Ch := mem_Fr.2 ⟨hc, hu, nb⟩
    have fpos : 1 ≤ (FrL w h sh st Ch).length := List.length_pos_of_mem mF
    have pf := Pos_free (left := mines - ci 3) (all := all) (v := bb) cok rm pl mF hbb
    refine ⟨fun z1 => ?_, fun z1 => hp _ _ _ _ _ _ _ _ _ _ _ _ _ _ _ _ _ _ (Or.inl rfl) ⟨fun y => absurd y (by decide), fun y => absurd (pf.2 (fun k => absurd z1 k)) y⟩⟩
    refine s_takeAllBut ok geo cok hch b ru hlg (fun y => by omega) (fun N ag tk mset' sset' pS' ta' as' go gz links le pk gm gs sv => s_freeD D cok b (fun _ => ⟨by omega, ?_⟩))
    refine s_sumUp ⟨f.1.1, f.1.2.1⟩ (by omega) (fun q q0 q1 _ => ⟨(sv q q0 q1).2.1.1, (sv q q0 q1).2.1.2, len16 q q0 q1⟩) (fun S' nS' hS' => ?_)
    rw [Lb_none (by omega)] at hS'
    have fin : ∀ zz : Int, zz = mines - ci 3 - bb → P_X6_hasSum (fun (c_29 : Int) => (c_29 = 0 ∨ c_29 = 1) → (∃ J_30 : (Int) → Prop, ((¬ c_29 = 0 → (J_30 0)) ∧ (c_29 = 0 → (J_30 1))) ∧ (∀ (z_32 : Int), inR z_32 → J_30 z_32 → ((z_32 = 0 ∨ z_32 = 1) ∧ (post z_32 N ag tk rs uk mset' sset' pS' ta' as' go gz links le pk gm gs S' nS'))))) S' zz := by
      intro zz ez
      refine s_hasSum (fun v h01 hv _ => ?_)
      have key : v = 1 ↔ Pos w h sh st (Rn w h sh st mined) Ch (mines - ci 3) all c bb := by
        rw [hv, pf]
        constructor
        · rintro ⟨y1, y2⟩ _
          obtain ⟨k, q1, q2, q3⟩ := (hS' _ y1.1 (by omega)).1 y2
          rw [ez] at q2 q3
          exact ⟨k, q1, q2, q3⟩
        · intro y
          obtain ⟨k, q1, q2, q3⟩ := y z1
          rw [← ez] at q2 q3
          have r := RS_rng q1
          have rl : (((List.range P.toNat).map (fun i : Nat => CL ps cs (i : Int))).flatten.length : Int) + (FrL w h sh st Ch).length ≤ w * h := e4
          have t1 : 0 ≤ zz ∧ zz ≤ 144 := by omega
          exact ⟨t1, (hS' _ t1.1 (by omega)).2 ⟨k, q1, q2, q3⟩⟩
      clear hv
      refine exJi ⟨fun z2 _ => ⟨Or.inl rfl, hp _ _ _ _ _ _ _ _ _ _ _ _ _ _ _ _ _ _ (Or.inl rfl) ⟨fun y => absurd y (by decide), fun y => absurd (key.1 (h01.resolve_left z2)) y⟩⟩, fun z2 _ => ⟨Or.inr rfl, hp _ _ _ _ _ _ _ _ _ _ _ _ _ _ _ _ _ _ (Or.inr rfl) ⟨fun _ y => ?_, fun _ => rfl⟩⟩⟩
      have := key.2 y
      rw [z2] at this
      exact absurd this (by decide)
    refine exJi ⟨fun z2 => s_leftD lb (fun _ => ⟨by omega, fun _ => fin _ (by rw [hb0 z2])⟩), fun z2 => s_leftD lb (fun _ _ => fin _ (by rw [hb1 z2]; omega))⟩
  · -- a cell of a part
    have bd : Bd w h sh st Ch c := by
      apply Classical.byContradiction
      intro k
      have := f.2.2.2.2 c hc.1 hc.2 hu k
      omega
    obtain ⟨hpq, mL⟩ := f.2.2.1 c bd
    rw [← ep] at hpq mL
    refine s_take ok geo cok hch b ru hlg hpq (Or.inl rfl) (fun N1 ag1 mset1 sset1 pS1 ta1 as1 go1 gz1 links1 le1 pk1 gm1 gs1 sv1 k1 k2 k3 _ => ?_)
    obtain ⟨⟨sm1, sm2⟩, stb⟩ := sv1.2.2 c mL
    refine ⟨fun zz => sm zz ∧ ∀ m, 0 ≤ m → (tb zz m ↔ mSc w h sh st (Rn w h sh st mined) Ch (CL ps cs p) c bb m), ⟨fun z1 => ⟨by omega, fun v ev rv => ?_⟩, fun z1 => ⟨by omega, fun v ev rv => ?_⟩⟩, ?_⟩
    · rw [ev, hb0 z1]
      exact ⟨sm1, fun m m0 => (stb m m0).1⟩
    · rw [ev, hb1 z1]
      exact ⟨sm2, fun m m0 => (stb m m0).2⟩
    rintro zz rzz ⟨szz, tzz⟩
    obtain ⟨a, b', e1, e2⟩ := Lb_split (f := CL ps cs) hpq.1 hpq.2
    have pl' : PLs w h sh st Ch ((List.range P.toNat).map (fun i : Nat => CL ps cs (i : Int))) := pl
    rw [e1] at pl'
    have pin := Pos_in (left := mines - ci 3) (all := all) (v := bb) cok rm pl' mL
    have nz : ¬ zz = 0 ↔ ∃ m, mSc w h sh st (Rn w h sh st mined) Ch (CL ps cs p) c bb m := by
      rw [tb_ne szz]
      constructor
      · rintro ⟨m, m0, hm⟩
        exact ⟨m, (tzz m m0).1 hm⟩
      · rintro ⟨m, hm⟩
        obtain ⟨t, bt, ts, et, ec⟩ := id hm
        have := sum_le_len (l := CL ps cs p) (t := t) (fun c => (bt c).1)
        exact ⟨m, by omega, (tzz m (by omega)).2 hm⟩
    have post0 : (zz = 0 ∨ all = 0) → ∃ J_61 : (Int) → Prop, ((¬ zz = 0 → (J_61 0)) ∧ (zz = 0 → (J_61 1))) ∧ (∀ (z_63 : Int), inR z_63 → J_61 z_63 → ((z_63 = 0 ∨ z_63 = 1) ∧ (post z_63 N1 ag1 p rs uk mset1 sset1 pS1 ta1 as1 go1 gz1 links1 le1 pk1 gm1 gs1 S nS))) := by
      intro hh
      refine exJi ⟨fun z2 _ => ⟨Or.inl rfl, hp _ _ _ _ _ _ _ _ _ _ _ _ _ _ _ _ _ _ (Or.inl rfl) ⟨fun y => absurd y (by decide), fun y => absurd (pin.2 ?_) y⟩⟩, fun z2 _ => ⟨Or.inr rfl, hp _ _ _ _ _ _ _ _ _ _ _ _ _ _ _ _ _ _ (Or.inr rfl) ⟨fun _ y => ?_, fun _ => rfl⟩⟩⟩
      · obtain ⟨m, hm⟩ := nz.1 z2
        exact ⟨m, hm, fun y => absurd (hh.resolve_left z2) y⟩
      · obtain ⟨m, hm, -⟩ := pin.1 y
        exact nz.2 ⟨m, hm⟩ z2
    refine ⟨_, ⟨fun z1 => post0 (Or.inl z1), fun z1 => ⟨fun z2 => ?_, fun z2 => post0 (Or.inr z2)⟩⟩, fun jj => jj⟩
    refine s_takeAllBut ok geo cok hch b ru hlg (fun _ _ => sv1) (fun N2 ag2 tk2 mset2 sset2 pS2 ta2 as2 go2 gz2 links2 le2 pk2 gm2 gs2 sv2 => ?_)
    refine s_fittingSet D cok b hlg (fun q q0 q1 _ => (sv2 q q0 q1).2.1) (fun fz S' nS' sfz tfz rfz => ?_)
    have ps := Pos_set (v := bb) (all := all) D cok b hlg hpq mL z2 tfz
    have key : andI zz fz = 0 ↔ ¬ Pos w h sh st (Rn w h sh st mined) Ch (mines - ci 3) all c bb := by
      rw [and_zero szz sfz, ps]
      refine not_congr ⟨fun ⟨m, m0, y1, y2⟩ => ⟨m, m0, (tzz m m0).1 y1, y2⟩, fun ⟨m, m0, y1, y2⟩ => ⟨m, m0, (tzz m m0).2 y1, y2⟩⟩
    refine exJi ⟨fun z3 _ => ⟨Or.inl rfl, hp _ _ _ _ _ _ _ _ _ _ _ _ _ _ _ _ _ _ (Or.inl rfl) ⟨fun y => absurd y (by decide), fun y => absurd (key.2 y) z3⟩⟩, fun z3 _ => ⟨Or.inr rfl, hp _ _ _ _ _ _ _ _ _ _ _ _ _ _ _ _ _ _ (Or.inr rfl) ⟨fun _ => key.1 z3, fun _ => rfl⟩⟩⟩
