/-! the class's judgement of all unknown cells -/
theorem s_canChoose {w h sh c mines : Int} {near nearEnd mined number st ci un hi : Int → Int} {post : Int → Prop} (D : DE w h sh near nearEnd mined number st ci un hi mines) (hc : 0 ≤ c ∧ c < w * h) (hp : ∀ v : Int, (v = 0 ∨ v = 1) → (v = 1 ↔ AllCh w h sh st c) → post v) : P_X1_canChoose post st un c := by
  have hle := wh_le D.1
  have eu := D.2.2.2.1.2.2.1 c hc.1 hc.2
  have up := unk_pos (w := w) (h := h) (sh := sh) (c := c) (st := st)
  have fin : ∀ v : Int, (v = 0 ∨ v = 1) → (v = 1 ↔ AllCh w h sh st c) → inR v → (v = 0 ∨ v = 1) ∧ post v := fun v h1 h2 _ => ⟨h1, hp v h1 h2⟩
  unfold P_X1_canChoose
  refine ⟨by omega, fun v ev rv => exJi (exJ0 ⟨fun z => fin 0 (Or.inl rfl) ⟨fun y => by omega, fun y => by have := y.2.1; omega⟩, fun z => ⟨by omega, fun v2 e2 r2 => ⟨fun z2 => fin 0 (Or.inl rfl) ⟨fun y => by omega, fun y => absurd (show sumL (NB w h sh c) (fun d => iU (st d)) ≤ 0 by omega) (up.2 y.2.2)⟩, fun z2 => fin 1 (Or.inr rfl) ⟨fun _ => ⟨hc, by omega, up.1 (by omega)⟩, fun _ => rfl⟩⟩⟩⟩)⟩
theorem s_chooseAll {w h sh mines : Int} {near nearEnd mined number st ci un hi ch : Int → Int} {post : (Int → Int) → Prop} (D : DE w h sh near nearEnd mined number st ci un hi mines) (hp : ∀ ch' : Int → Int, (∀ c, 0 ≤ c → c < w * h → (ch' c = 0 ∨ ch' c = 1) ∧ (ch' c = 1 ↔ AllCh w h sh st c)) → post ch') : P_X1_chooseAll post (w * h) st un ch := by
  have hle := wh_le D.1
  have hge := wh_ge D.1
  unfold P_X1_chooseAll
  refine ⟨fun n x c' => n = (w * h - x).toNat ∧ 0 ≤ x ∧ x ≤ w * h ∧ ∀ c, 0 ≤ c → c < x → (c' c = 0 ∨ c' c = 1) ∧ (c' c = 1 ↔ AllCh w h sh st c), ⟨_, rfl, by omega, by omega, fun c _ _ => by omega⟩, ?_⟩
  rintro n x c' rx ⟨rfl, b1, b2, b3⟩
  refine ⟨fun z => hp c' (fun c c0 c1 => b3 c c0 (by omega)), fun z => s_canChoose D ⟨b1, by omega⟩ (fun v h1 h2 _ => ⟨by omega, fun c2 e2 => nx (by omega) ⟨_, ?_, rfl, by omega, by omega, fun c c0 c1 => ?_⟩⟩)⟩
  · omega
  · rw [e2]
    by_cases e : c = x
    · rw [e, upZ_s]; exact ⟨h1, h2⟩
    · rw [upZ_n _ _ e]; exact b3 c c0 (by omega)
theorem s_isTooLong {lg : Int} {post : Int → Prop} (h0 : lg ≤ 16 → post 0) (h1 : ¬ lg ≤ 16 → post 1) : P_X1_isTooLong post lg := by
  unfold P_X1_isTooLong
  exact exJi ⟨fun z _ => ⟨Or.inl rfl, h0 z⟩, fun z _ => ⟨Or.inr rfl, h1 z⟩⟩
/-- the verdict on a cell -/
def VV (p1 p0 : Prop) (x : Int) : Prop := (x = 1 ∧ ¬ p1) ∨ (x = 2 ∧ p1 ∧ ¬ p0) ∨ (x = 0 ∧ p1 ∧ p0)
theorem s_verdict {x0 x1 : Int} {p1 p0 : Prop} {post : Int → Prop} (h1 : x0 = 0 ↔ ¬ p1) (h0 : x1 = 0 ↔ ¬ p0) (hp : ∀ v, VV p1 p0 v → post v) : P_X6_verdict post x0 x1 := by
  unfold P_X6_verdict
  have hp1 : ¬ x0 = 0 → p1 := fun k => Classical.byContradiction (fun q => k (h1.2 q))
  have hp0 : ¬ x1 = 0 → p0 := fun k => Classical.byContradiction (fun q => k (h0.2 q))
  refine ⟨fun z => exJi ⟨fun z1 _ => hp 2 (Or.inr (Or.inl ⟨rfl, hp1 z, h0.1 z1⟩)), fun z1 _ => hp 0 (Or.inr (Or.inr ⟨rfl, hp1 z, hp0 z1⟩))⟩, fun z => hp 1 (Or.inl ⟨rfl, h1.1 z⟩)⟩
abbrev PosA (w h sh : Int) (st mined : Int → Int) (Ch : Int → Prop) (left c b : Int) : Prop := Pos w h sh st (Rn w h sh st mined) Ch left 1 c b
theorem s_judgeFree {w h sh P lg mines : Int} {near nearEnd mined number st ci un hi po rs uk ps cs pS f : Int → Int} {S nS : Int → Int64} {Ch : Int → Prop} {post : (Int → Int64) → (Int → Int64) → (Int → Int) → Prop} (D : DE w h sh near nearEnd mined number st ci un hi mines) (cok : ChOk w h sh st Ch) (b : BS w h sh st number hi un Ch P lg po rs uk ps cs) (hlg : lg ≤ 16) (hS : ∀ q, 0 ≤ q → q < P → sm (pS q) ∧ (∀ m, 0 ≤ m → (tb (pS q) m ↔ mS w h sh st (Rn w h sh st mined) Ch (CL ps cs q) m)))
    (hp : ∀ (S' nS' : Int → Int64) (f' : Int → Int), (∀ d, 0 ≤ d → d < w * h → (st d ≤ 1 ∧ ¬ Bd w h sh st Ch d → VV (PosA w h sh st mined Ch (mines - ci 3) d 1) (PosA w h sh st mined Ch (mines - ci 3) d 0) (f' d)) ∧ (¬ (st d ≤ 1 ∧ ¬ Bd w h sh st Ch d) → f' d = f d)) → post S' nS' f') : P_X6_judgeFreeCells_44 post mines (w * h) P st ci po ps pS S nS f := by
  have ok := D.1
  have hle := wh_le ok
  have hge := wh_ge ok
  have fc := b.facts ok cok
  have rm := D.rm (Ch := Ch)
  have lb := left_b D
  have pl := b.pls ok cok
  have e4 := PLs_len pl (by omega)
  have len16 : ∀ q, 0 ≤ q → q < P → (CL ps cs q).length ≤ 16 := by
    intro q q0 q1
    have := (b.nd ok cok ⟨q0, q1⟩).2.2
    have := b.2.2.2.1.2.1 q q0 q1
    omega
  unfold P_X6_judgeFreeCells_44
  refine s_freeD D cok b (fun _ => ⟨fun z => ?_, fun z => hp _ _ _ (fun d d0 d1 => ⟨fun y => ?_, fun _ => rfl⟩)⟩)
  rotate_left
  · have : d ∈ FrL w h sh st Ch := mem_Fr.2 ⟨⟨d0, d1⟩, y⟩
    have := List.length_pos_of_mem this
    omega
  refine s_freeD D cok b (fun _ => ⟨by omega, s_sumUp ⟨fc.1.1, fc.1.2.1⟩ (by omega) (fun q q0 q1 _ => ⟨(hS q q0 q1).1, (hS q q0 q1).2, len16 q q0 q1⟩) (fun S' nS' hS' => ?_)⟩)
  rw [Lb_none (by omega)] at hS'
  have key : ∀ bb : Int, (bb = 0 ∨ bb = 1) → ∀ v : Int, (v = 1 ↔ (0 ≤ mines - ci 3 - bb ∧ mines - ci 3 - bb ≤ 144) ∧ SB S' (mines - ci 3 - bb)) → ∀ d ∈ FrL w h sh st Ch, (v = 1 ↔ PosA w h sh st mined Ch (mines - ci 3) d bb) := by
    intro bb hbb v hv d md
    have hbb' : 0 ≤ bb ∧ bb ≤ 1 := by omega
    have pf := Pos_free (left := mines - ci 3) (all := 1) (v := bb) cok rm pl md hbb
    unfold PosA
    rw [hv, pf]
    constructor
    · rintro ⟨y1, y2⟩ _
      exact (hS' _ y1.1 (by omega)).1 y2
    · intro y
      obtain ⟨k, q1, q2, q3⟩ := y (by decide)
      have r := RS_rng q1
      have rl : (((List.range P.toNat).map (fun i : Nat => CL ps cs (i : Int))).flatten.length : Int) + (FrL w h sh st Ch).length ≤ w * h := e4
      have t1 : 0 ≤ mines - ci 3 - bb ∧ mines - ci 3 - bb ≤ 144 := by omega
      exact ⟨t1, (hS' _ t1.1 (by omega)).2 ⟨k, q1, q2, q3⟩⟩
  refine s_leftD lb (fun _ => ⟨by omega, s_hasSum (fun v1 h1 i1 _ => s_leftD lb (fun _ => s_hasSum (fun v0 h0 i0 _ => ?_)))⟩)
  have k1 := key 1 (Or.inr rfl) v1 i1
  have k0 := key 0 (Or.inl rfl) v0 (by rw [Int.sub_zero]; exact i0)
  clear i1 i0 key
  -- one verdict for all of them
  refine s_verdict (p1 := v1 = 1) (p0 := v0 = 1) (by omega) (by omega) (fun x vx rx => ?_)
  refine ⟨fun n y f' => n = (w * h - y).toNat ∧ 0 ≤ y ∧ y ≤ w * h ∧ ∀ d, 0 ≤ d → d < w * h → (d < y ∧ st d ≤ 1 ∧ ¬ Bd w h sh st Ch d → f' d = x) ∧ (¬ (d < y ∧ st d ≤ 1 ∧ ¬ Bd w h sh st Ch d) → f' d = f d), ⟨_, rfl, by omega, by omega, fun d _ _ => ⟨fun y => by omega, fun _ => rfl⟩⟩, ?_⟩
  rintro n y f' ry ⟨rfl, b1, b2, b3⟩
  refine ⟨fun z1 => hp _ _ _ (fun d d0 d1 => ⟨fun q => ?_, fun q => (b3 d d0 d1).2 (fun k => q k.2)⟩), fun z1 => ?_⟩
  · rw [(b3 d d0 d1).1 ⟨by omega, q⟩]
    have md : d ∈ FrL w h sh st Ch := mem_Fr.2 ⟨⟨d0, d1⟩, q⟩
    unfold VV at vx ⊢
    rw [← k1 d md, ← k0 d md]
    exact vx
  · have hy : 0 ≤ y ∧ y < w * h := ⟨b1, by omega⟩
    have go : ∀ f2 : Int → Int, (∀ d, d ≠ y → f2 d = f' d) → (st y ≤ 1 ∧ ¬ Bd w h sh st Ch y → f2 y = x) → (¬ (st y ≤ 1 ∧ ¬ Bd w h sh st Ch y) → f2 y = f' y) → (inR (y + 1) ∧ (∀ x3_27 : Int, x3_27 = (y + 1) → (∃ n_28 : Nat, n_28 < (w * h - y).toNat ∧ (n_28 = (w * h - x3_27).toNat ∧ 0 ≤ x3_27 ∧ x3_27 ≤ w * h ∧ ∀ d, 0 ≤ d → d < w * h → (d < x3_27 ∧ st d ≤ 1 ∧ ¬ Bd w h sh st Ch d → f2 d = x) ∧ (¬ (d < x3_27 ∧ st d ≤ 1 ∧ ¬ Bd w h sh st Ch d) → f2 d = f d))))) := by
      intro f2 q1 q2 q3
      refine nx (by omega) ⟨_, ?_, rfl, by omega, by omega, fun d d0 d1 => ?_⟩
      · omega
      · by_cases e : d = y
        · subst e
          refine ⟨fun k => q2 k.2, fun k => ?_⟩
          rw [q3 (fun k2 => k ⟨by omega, k2⟩)]
          exact (b3 d d0 d1).2 (fun k2 => by omega)
        · rw [q1 d e]
          exact ⟨fun k => (b3 d d0 d1).1 ⟨by omega, k.2⟩, fun k => (b3 d d0 d1).2 (fun k2 => k ⟨by omega, k2.2⟩)⟩
    refine s_isUnknownC ⟨by omega, by omega⟩ (fun u hu iu _ => ⟨_, ⟨fun z2 => go f' (fun _ _ => rfl) (fun q => by have := iu.2 q.1; omega) (fun _ => rfl), fun z2 => ⟨by omega, fun v ev rv => ⟨fun z3 => go f' (fun _ _ => rfl) (fun q => ?_) (fun _ => rfl), fun z3 => ⟨by omega, fun f2 e2 => go f2 (fun d hd => by rw [e2, upZ_n _ _ hd]) (fun _ => by rw [e2, upZ_s]) (fun q => ?_)⟩⟩⟩⟩, fun _ jj => jj⟩)
    · have := fc.2.2.2.2 y hy.1 hy.2 q.1 q.2
      omega
    · have ux := iu.1 (by omega)
      exfalso
      apply q
      refine ⟨ux, fun k => ?_⟩
      have := (fc.2.2.1 y k).1
      omega
theorem s_judge {w h sh mines P0 lg0 N0 ag0 tk0 : Int} {near nearEnd mined number st ci un hi ch0 po0 rs0 uk0 ps0 cs0 mset0 sset0 pS0 ta0 as0 go0 gz0 links0 le0 pk0 gm0 gs0 f : Int → Int} {S0 nS0 : Int → Int64} {post : (Int) → (Int) → (Int) → (Int) → (Int) → (Int → Int) → (Int → Int) → (Int → Int) → (Int → Int) → (Int → Int) → (Int → Int) → (Int → Int) → (Int → Int) → (Int → Int) → (Int → Int) → (Int → Int) → (Int → Int) → (Int → Int) → (Int → Int) → (Int → Int) → (Int → Int) → (Int → Int) → (Int → Int) → (Int → Int64) → (Int → Int64) → (Int → Int) → Prop} (D : DE w h sh near nearEnd mined number st ci un hi mines) (h0 : ps0 0 = 0)
    (hp : ∀ (P lg N ag tk : Int) (ch po rs uk ps cs mset sset pS ta as go gz links le pk gm gs : Int → Int) (S nS : Int → Int64) (f' : Int → Int), ps 0 = 0 → (¬ Fit w h sh st (AllCh w h sh st) → f' = f) → (Fit w h sh st (AllCh w h sh st) → ∀ d, 0 ≤ d → d < w * h → (st d ≤ 1 → VV (PosA w h sh st mined (AllCh w h sh st) (mines - ci 3) d 1) (PosA w h sh st mined (AllCh w h sh st) (mines - ci 3) d 0) (f' d)) ∧ (¬ st d ≤ 1 → f' d = f d)) → post P lg N ag tk ch po rs uk ps cs mset sset pS ta as go gz links le pk gm gs S nS f') :
    P_X6_judge_44 post mines (w * h) P0 lg0 N0 ag0 tk0 number st ci un hi near nearEnd ch0 po0 rs0 uk0 ps0 cs0 mset0 sset0 pS0 ta0 as0 go0 gz0 links0 le0 pk0 gm0 gs0 S0 nS0 f := by
  have ok := D.1
  have geo := D.2.1
  have hle := wh_le ok
  have hge := wh_ge ok
  have cok : ChOk w h sh st (AllCh w h sh st) := AllCh.ok
  unfold P_X6_judge_44
  refine s_chooseAll D (fun ch hch => s_split ok geo D.2.2.1 D.2.2.2.1 cok hch h0 (fun P lg po rs uk ps cs b => s_isTooLong (fun hlg _ => ⟨fun _ => ?_, fun z => absurd rfl z⟩) (fun hlg _ => ⟨fun z => absurd z (by decide), fun _ => ?_⟩)))
  rotate_left
  · exact hp _ _ _ _ _ _ _ _ _ _ _ _ _ _ _ _ _ _ _ _ _ _ _ _ _ _ b.1.1.2.1 (fun _ => rfl) (fun y => absurd ((b.fit ok cok).2 y) hlg)
  have ft := (b.fit ok cok).1 hlg
  have fc := b.facts ok cok
  have ru := b.ru D cok
  refine ⟨fun n x N ag tk rs' uk' mset' sset' pS' ta' as' go gz links le pk gm gs => n = (P - x).toNat ∧ 0 ≤ x ∧ x ≤ P ∧ rs' = rs ∧ uk' = uk ∧ ∀ q, 0 ≤ q → q < x → SV w h sh st (Rn w h sh st mined) (AllCh w h sh st) ps cs q mset' sset' pS' ta', ⟨_, rfl, by omega, by omega, rfl, rfl, fun q _ _ => by omega⟩, ?_⟩
  rintro n x N ag tk rs' uk' mset sset pS ta as go gz links le pk gm gs rx ⟨rfl, b1, b2, rfl, rfl, b3⟩
  refine ⟨fun z => ?_, fun z => s_take ok geo cok hch b ru hlg ⟨b1, by omega⟩ (Or.inl rfl) (fun N2 ag2 mset2 sset2 pS2 ta2 as2 go2 gz2 links2 le2 pk2 gm2 gs2 sv k1 k2 k3 _ => nx (by omega) ⟨_, ?_, rfl, by omega, by omega, rfl, rfl, fun q q0 q1 => ?_⟩)⟩
  rotate_left
  · omega
  · by_cases e : q = x
    · subst e
      exact sv
    · exact SV.keep ok cok b ⟨b1, by omega⟩ ⟨q0, by omega⟩ e (b3 q q0 (by omega)) k1 k2 k3
  have sv : ∀ q, 0 ≤ q → q < P → SV w h sh st (Rn w h sh st mined) (AllCh w h sh st) ps cs q mset sset pS ta := fun q q0 q1 => b3 q q0 (by omega)
  clear b3
  refine ⟨fun n p S nS f' => n = (P - p).toNat ∧ 0 ≤ p ∧ p ≤ P ∧ ∀ d, 0 ≤ d → d < w * h → (Bd w h sh st (AllCh w h sh st) d ∧ po d < p → VV (PosA w h sh st mined (AllCh w h sh st) (mines - ci 3) d 1) (PosA w h sh st mined (AllCh w h sh st) (mines - ci 3) d 0) (f' d)) ∧ (¬ (Bd w h sh st (AllCh w h sh st) d ∧ po d < p) → f' d = f d), ⟨_, rfl, by omega, by omega, fun d d0 d1 => ⟨fun y => by have := (fc.2.2.1 d y.1).1; omega, fun _ => rfl⟩⟩, ?_⟩
  rintro n p S nS f' rp ⟨rfl, c1, c2, c3⟩
  refine ⟨fun z1 => ?_, fun z1 => ?_⟩
  · refine s_judgeFree D cok b hlg (fun q q0 q1 => (sv q q0 q1).2.1) (fun S' nS' f2 h2 => hp _ _ _ _ _ _ _ _ _ _ _ _ _ _ _ _ _ _ _ _ _ _ _ _ _ _ b.1.1.2.1 (fun y => absurd ft y) (fun _ d d0 d1 => ⟨fun u => ?_, fun u => ?_⟩))
    · by_cases k : Bd w h sh st (AllCh w h sh st) d
      · rw [(h2 d d0 d1).2 (fun y => y.2 k)]
        exact (c3 d d0 d1).1 ⟨k, by have := (fc.2.2.1 d k).1; omega⟩
      · exact (h2 d d0 d1).1 ⟨u, k⟩
    · rw [(h2 d d0 d1).2 (fun y => u y.1)]
      exact (c3 d d0 d1).2 (fun y => u y.1.2.1)
  · have hpP : 0 ≤ p ∧ p < P := ⟨c1, by omega⟩
    have fp := fc.2.1 p c1 hpP.2
    have dis := (b.nd ok cok hpP).1
    refine s_fittingSet D cok b hlg (fun q q0 q1 _ => (sv q q0 q1).2.1) (fun fz S' nS' sfz tfz rfz => ⟨by omega, fun a ea ra => ?_⟩)
    refine ⟨fun n x f2 => n = (ps (p + 1) - x).toNat ∧ ps p ≤ x ∧ x ≤ ps (p + 1) ∧ (∀ j, ps p ≤ j → j < x → VV (PosA w h sh st mined (AllCh w h sh st) (mines - ci 3) (cs j) 1) (PosA w h sh st mined (AllCh w h sh st) (mines - ci 3) (cs j) 0) (f2 (cs j))) ∧ (∀ d, ¬ d ∈ CL ps cs p → f2 d = f' d), ⟨_, rfl, by omega, by omega, fun j _ _ => by omega, fun _ _ => rfl⟩, ?_⟩
    rintro n x f2 rx2 ⟨rfl, d1, d2, d3, d4⟩
    refine ⟨by omega, fun e ee re => ⟨fun z2 => nx (by omega) ⟨_, ?_, rfl, by omega, by omega, fun d d0 d1' => ⟨fun y => ?_, fun y => ?_⟩⟩, fun z2 => ?_⟩⟩
    · omega
    · by_cases k : po d = p
      · have mL := (fc.2.2.1 d y.1).2
        rw [k] at mL
        obtain ⟨j, j0, j1, ej⟩ := mem_CL.1 mL
        have := d3 j j0 (by omega)
        rw [ej] at this
        exact this
      · rw [d4 d (fun m => k (fc.2.2.2.1 p d c1 hpP.2 m).2)]
        exact (c3 d d0 d1').1 ⟨y.1, by omega⟩
    · rw [d4 d (fun m => y ⟨(fc.2.2.2.1 p d c1 hpP.2 m).1, by have := (fc.2.2.2.1 p d c1 hpP.2 m).2; omega⟩)]
      exact (c3 d d0 d1').2 (fun k => y ⟨k.1, by omega⟩)
    · have mx : cs x ∈ CL ps cs p := mem_CL.2 ⟨x, d1, by omega, rfl⟩
      have bx := (fc.2.2.2.1 p _ c1 hpP.2 mx).1.1
      obtain ⟨⟨sm1, sm2⟩, stb⟩ := (sv p c1 hpP.2).2.2 _ mx
      have q1 := Pos_set (v := 1) (all := 1) D cok b hlg hpP mx (by decide) tfz
      have q0 := Pos_set (v := 0) (all := 1) D cok b hlg hpP mx (by decide) tfz
      have k1 : andI (mset (cs x)) fz = 0 ↔ ¬ PosA w h sh st mined (AllCh w h sh st) (mines - ci 3) (cs x) 1 := by
        unfold PosA
        rw [and_zero sm1 sfz, q1]
        exact not_congr ⟨fun ⟨m, m0, y1, y2⟩ => ⟨m, m0, (stb m m0).1.1 y1, y2⟩, fun ⟨m, m0, y1, y2⟩ => ⟨m, m0, (stb m m0).1.2 y1, y2⟩⟩
      have k0 : andI (sset (cs x)) fz = 0 ↔ ¬ PosA w h sh st mined (AllCh w h sh st) (mines - ci 3) (cs x) 0 := by
        unfold PosA
        rw [and_zero sm2 sfz, q0]
        exact not_congr ⟨fun ⟨m, m0, y1, y2⟩ => ⟨m, m0, (stb m m0).2.1 y1, y2⟩, fun ⟨m, m0, y1, y2⟩ => ⟨m, m0, (stb m m0).2.2 y1, y2⟩⟩
      refine ⟨by omega, fun c ec rc => ?_⟩
      subst ec
      refine ⟨by omega, fun vm em rm => ?_⟩
      subst em
      refine ⟨fun zz => (zz = 0 ∨ zz = 1) ∧ (zz = 0 ↔ ¬ PosA w h sh st mined (AllCh w h sh st) (mines - ci 3) (cs x) 1), ⟨fun y => ⟨Or.inl rfl, ⟨fun _ => k1.1 y, fun _ => rfl⟩⟩, fun y => ⟨Or.inr rfl, ⟨fun q => absurd q (by decide), fun q => absurd (k1.2 q) y⟩⟩⟩, ?_⟩
      rintro z1v rz1 ⟨o1, i1⟩
      refine ⟨by omega, fun vs es rs2 => ?_⟩
      subst es
      refine ⟨fun zz => (zz = 0 ∨ zz = 1) ∧ (zz = 0 ↔ ¬ PosA w h sh st mined (AllCh w h sh st) (mines - ci 3) (cs x) 0), ⟨fun y => ⟨Or.inl rfl, ⟨fun _ => k0.1 y, fun _ => rfl⟩⟩, fun y => ⟨Or.inr rfl, ⟨fun q => absurd q (by decide), fun q => absurd (k0.2 q) y⟩⟩⟩, ?_⟩
      rintro z0v rz0 ⟨o0, i0⟩
      refine ⟨o1, o0, s_verdict i1 i0 (fun v hv rv => ⟨by omega, fun f3 e3 => nx (by omega) ⟨_, ?_, rfl, by omega, by omega, fun j j0 j1 => ?_, fun d nd => ?_⟩⟩)⟩
      · omega
      · rw [e3]
        by_cases e : j = x
        · rw [e, upZ_s]; exact hv
        · rw [upZ_n _ _ (dis j x j0 (by omega) (by omega))]
          exact d3 j j0 (by omega)
      · rw [e3, upZ_n _ _ (show d ≠ cs x from fun y => nd (y ▸ mx))]
        exact d4 d nd
