/-! gathering a part, and splitting the border -/
def Lon (p : Int) (ps : Int → Int) (lg : Int) : Prop := 0 ≤ lg ∧ (∀ q, 0 ≤ q → q < p → ps (q + 1) - ps q ≤ lg) ∧ (lg = 0 ∨ ∃ q, 0 ≤ q ∧ q < p ∧ lg = ps (q + 1) - ps q)
theorem exJ5i {α β γ δ : Type} {p : Int → α → β → γ → δ → Prop} {A : (Int → α → β → γ → δ → Prop) → Prop} (h : A (fun x a b c d => inR x → p x a b c d)) : ∃ J : Int → α → β → γ → δ → Prop, A J ∧ ∀ (x : Int) (a : α) (b : β) (c : γ) (d : δ), inR x → J x a b c d → p x a b c d := ⟨_, h, fun _ _ _ _ _ r k => k r⟩
theorem s_gather {w h sh p n lg mines : Int} {mined st ci number hi un ch po rs uk ps cs near nearEnd : Int → Int} {Ch : Int → Prop} {post : Int → Int → (Int → Int) → (Int → Int) → (Int → Int) → (Int → Int) → (Int → Int) → Prop} (ok : okB w h sh) (g : GeoD w h sh near nearEnd) (dm : DMi w h sh mined number mines) (ds : DSt w h sh st ci un hi) (cok : ChOk w h sh st Ch) (hch : ∀ c, 0 ≤ c → c < w * h → (ch c = 0 ∨ ch c = 1) ∧ (ch c = 1 ↔ Ch c)) (b : BI w h sh st Ch p (ps p) po ps cs) (nf : NF w h sh st number hi un Ch (-1) po rs uk) (hn : Ch n) (hf : po n = -1) (hl : Lon p ps lg) (hlb : lg ≤ 144) (hp4 : p < 144)
    (hp : ∀ (lg' e' : Int) (po' rs' uk' cs' : Int → Int), BI w h sh st Ch (p + 1) e' po' (upZ ps (p + 1) e') cs' → NF w h sh st number hi un Ch (-1) po' rs' uk' → ¬ po' n = -1 → (∀ c, ¬ po c = -1 → po' c = po c) → Lon (p + 1) (upZ ps (p + 1) e') lg' → lg' ≤ 144 → post (p + 1) lg' po' rs' uk' (upZ ps (p + 1) e') cs') : P_X1_gather post p lg number st un hi near nearEnd ch po rs uk ps cs n := by
  have hle := wh_le ok
  have hge := wh_ge ok
  have p0 := b.1.1
  have psp : 0 ≤ ps p := by have := b.mono (q := 0) (r := p) (by omega) p0 (by omega); have := b.1.2.1; omega
  unfold P_X1_gather
  refine ⟨by omega, fun v ev rv => ?_⟩
  subst ev
  refine s_admit ok g dm ds cok b nf psp hn hf (fun z => absurd z (by omega)) hp4 (fun e1 po1 rs1 uk1 cs1 k1 k2 k3 k4 k5 k6 k7 _ => ?_)
  have ele : ∀ e po cs, BI w h sh st Ch p e po ps cs → 0 ≤ e → e ≤ w * h := fun e po cs bb e0 => inj_le (by omega) e0 (fun i i0 i1 => (bb.2.1 i i0 i1).1) bb.2.2.1
  refine ⟨fun k e x po' rs' uk' cs' => k = (144 - x).toNat ∧ ps p ≤ x ∧ x ≤ e ∧ ps p < e ∧ BI w h sh st Ch p e po' ps cs' ∧ NF w h sh st number hi un Ch (-1) po' rs' uk' ∧ ¬ po' n = -1 ∧ (∀ c, ¬ po c = -1 → po' c = po c) ∧ (∀ i, ps p ≤ i → i < x → ∀ m, Ch m → cs' i ∈ NB w h sh m → ¬ po' m = -1), ⟨_, rfl, by omega, by omega, k5, k1, k2, by omega, k7, fun i _ _ => by omega⟩, ?_⟩
  rintro k e x po' rs' uk' cs' re rx ⟨rfl, b1, b2, b3, b4, b5, b6, b7, b8⟩
  have eb := ele e po' cs' b4 (by omega)
  refine ⟨e ≤ x, ⟨fun z => z, fun z => ⟨fun z2 => by omega, fun z2 => ?_⟩⟩, fun hex => ?_⟩
  · obtain ⟨cc, cu, -⟩ := b4.2.1 x (by omega) (by omega)
    have hlx := NB_len ok cc
    have ge := (g _ cc.1 cc.2).1
    refine ⟨by omega, fun v ev rv => ?_⟩
    subst ev
    refine ⟨by omega, fun x5 ex5 => ⟨fun k e' y po2 rs2 uk2 cs2 => k = (nearEnd (cs' x) - y).toNat ∧ 8 * cs' x ≤ y ∧ y ≤ nearEnd (cs' x) ∧ e ≤ e' ∧ BI w h sh st Ch p e' po2 ps cs2 ∧ NF w h sh st number hi un Ch (-1) po2 rs2 uk2 ∧ (∀ c, ¬ po' c = -1 → po2 c = po' c) ∧ (∀ i, i < e → cs2 i = cs' i) ∧ (∀ m, Ch m → m ∈ (NB w h sh (cs' x)).take (y - 8 * cs' x).toNat → ¬ po2 m = -1), ⟨_, rfl, by omega, by omega, by omega, b4, b5, fun _ _ => rfl, fun _ _ => rfl, fun m _ hm => by rw [ex5, show (cs' x * 8 - 8 * cs' x).toNat = 0 by omega] at hm; simp at hm⟩, ?_⟩⟩
    rintro k e' y po2 rs2 uk2 cs2 re' ry ⟨rfl, c1, c2, c3, c4, c5, c6, c7, c8⟩
    have ex := c7 x (by omega)
    refine ⟨by omega, fun v2 ev2 rv2 => ?_⟩
    rw [ex] at ev2
    subst ev2
    refine ⟨by omega, fun v3 ev3 rv3 => ⟨fun q => nx (by omega) ⟨_, ?_, rfl, by omega, by omega, by omega, c4, c5, ?_, fun c hc => ?_, fun i i0 i1 m hm hmm => ?_⟩, fun q => ?_⟩⟩
    · omega
    · rw [c6 n b6]; exact b6
    · rw [c6 c (by rw [b7 c hc]; exact hc)]; exact b7 c hc
    · by_cases z3 : i = x
      · rw [z3, ex] at hmm
        have mc := (cok m hm).1
        rw [row_end g cc (by omega)] at c8
        exact c8 m hm ((NB_sym ok mc cc).mp hmm)
      · rw [c7 i (by omega)] at hmm
        have := b8 i i0 (by omega) m hm hmm
        rw [c6 m this]; exact this
    · obtain ⟨m, tk, nm⟩ := row_at g cc c1 (by omega)
      have mc := nb_cell m
      refine ⟨by omega, fun v4 ev4 rv4 => ?_⟩
      subst ev4
      have chx := hch _ mc.1 mc.2
      have skip : (Ch (near y) → ¬ po2 (near y) = -1) → ∃ k : Nat, k < (nearEnd (cs' x) - y).toNat ∧ (k = (nearEnd (cs' x) - (y + 1)).toNat ∧ 8 * cs' x ≤ y + 1 ∧ y + 1 ≤ nearEnd (cs' x) ∧ e ≤ e' ∧ BI w h sh st Ch p e' po2 ps cs2 ∧ NF w h sh st number hi un Ch (-1) po2 rs2 uk2 ∧ (∀ c, ¬ po' c = -1 → po2 c = po' c) ∧ (∀ i, i < e → cs2 i = cs' i) ∧ (∀ m, Ch m → m ∈ (NB w h sh (cs' x)).take (y + 1 - 8 * cs' x).toNat → ¬ po2 m = -1)) := by
        intro hx
        refine ⟨_, ?_, rfl, by omega, by omega, c3, c4, c5, c6, c7, fun m2 hm2 hmm => ?_⟩
        · omega
        · rw [show (y + 1 - 8 * cs' x).toNat = (y - 8 * cs' x).toNat + 1 by omega, tk] at hmm
          rcases List.mem_append.mp hmm with hmm | hmm
          · exact c8 m2 hm2 hmm
          · rw [List.mem_singleton.mp hmm] at hm2 ⊢; exact hx hm2
      refine ⟨by omega, fun v5 ev5 rv5 => exJ5i ⟨fun z3 _ => nx (by omega) (skip (fun hc => by have := chx.2.mpr hc; omega)), fun z3 => ⟨by omega, fun v6 ev6 rv6 => ⟨fun z4 _ => nx (by omega) (skip (fun _ => by rw [← ev6]; exact z4)), fun z4 => ?_⟩⟩⟩⟩
      have cy : Ch (near y) := chx.2.mp (by omega)
      refine s_admit ok g dm ds cok c4 c5 (by omega) cy (by omega) (fun _ => ⟨x, by omega, by omega, by rw [ex]; exact (NB_sym ok cc mc).mp m⟩) hp4 (fun e3 po3 rs3 uk3 cs3 j1 j2 j3 j4 j5 j6 j7 _ _ => nx (by omega) ⟨_, ?_, rfl, by omega, by omega, by omega, j1, j2, fun c hc => ?_, fun i hi2 => ?_, fun m2 hm2 hmm => ?_⟩)
      · omega
      · have := c6 c hc
        rw [j7 c (by rw [this]; exact hc)]; exact this
      · rw [j6 i (by omega)]; exact c7 i hi2
      · rw [show (y + 1 - 8 * cs' x).toNat = (y - 8 * cs' x).toNat + 1 by omega, tk] at hmm
        rcases List.mem_append.mp hmm with hmm | hmm
        · have := c8 m2 hm2 hmm
          rw [j7 m2 this]; exact this
        · rw [List.mem_singleton.mp hmm, j3]; omega
  · have exe : x = e := by omega
    subst exe
    refine ⟨by omega, fun p1 ep1 => ?_⟩
    subst ep1
    refine ⟨by omega, fun ps1 eps => ⟨by omega, by split <;> omega, fun lg1 elg => ?_⟩⟩
    subst eps
    have pu : ∀ q, q ≤ p → upZ ps (p + 1) x q = ps q := fun q hq => upZ_n _ _ (by omega)
    refine hp lg1 x po' rs' uk' cs' ?_ b5 b6 b7 ?_ (by rw [elg]; split <;> omega)
    · obtain ⟨⟨a1, a2, a3, a4⟩, d2, d3, ⟨d4, d4'⟩, d5, d6, d7⟩ := id b4
      refine ⟨⟨by omega, by rw [pu 0 a1]; exact a2, fun q q0 q1 => ?_, by rw [upZ_s]; omega⟩, d2, d3, ⟨fun q i q0 q1 i0 i1 => ?_, fun i i0 i1 => by rw [upZ_s] at i0; omega⟩, fun c c0 c1 => ?_, fun d e0 e1 ud q0 q1 m hm hd => ?_, d7⟩
      · rw [pu q (by omega)]
        by_cases z : q = p
        · rw [z, upZ_s]; exact b3
        · rw [pu (q + 1) (by omega)]; exact a3 q q0 (by omega)
      · rw [pu q (by omega)] at i0
        by_cases z : q = p
        · rw [z] at i0 i1 ⊢
          rw [upZ_s] at i1
          exact d4' i i0 i1
        · rw [pu (q + 1) (by omega)] at i1
          exact d4 q i q0 (by omega) i0 i1
      · rcases d5 c c0 c1 with y | ⟨y1, y2⟩
        · exact Or.inl y
        · exact Or.inr ⟨by omega, y2⟩
      · by_cases z : po' d = p
        · -- d lies in the part that was just done
          rcases d5 d e0 e1 with y | ⟨-, y | ⟨-, i, i0, i1, i2⟩⟩
          · omega
          · have := (cok d y).2.1; omega
          · have hi2 : ps p ≤ i := by
              rcases b4.assigned i0 i1 with ⟨q2, -, q3, -, -, q4⟩ | ⟨q2, -⟩
              · rw [i2] at q4; omega
              · exact q2
            have := b8 i hi2 i1 m hm (by rw [i2]; exact hd)
            have k := (b5 m hm (by have := (cok m hm).1; omega) this).1 d hd ud
            omega
        · exact d6 d e0 e1 ud q0 (by omega) m hm hd
    · obtain ⟨l1, l2, l3⟩ := hl
      have szp : upZ ps (p + 1) x (p + 1) - upZ ps (p + 1) x p = x - ps p := by rw [upZ_s, pu p (by omega)]
      have szq : ∀ q, q < p → upZ ps (p + 1) x (q + 1) - upZ ps (p + 1) x q = ps (q + 1) - ps q := fun q hq => by rw [pu q (by omega), pu (q + 1) (by omega)]
      by_cases z : lg < x - ps p
      · rw [if_pos z] at elg
        refine ⟨by omega, fun q q0 q1 => ?_, Or.inr ⟨p, p0, by omega, by omega⟩⟩
        by_cases z2 : q = p
        · rw [z2]; omega
        · have := l2 q q0 (by omega)
          have := szq q (by omega)
          omega
      · rw [if_neg z] at elg
        refine ⟨by omega, fun q q0 q1 => ?_, ?_⟩
        · by_cases z2 : q = p
          · rw [z2]; omega
          · have := l2 q q0 (by omega)
            have := szq q (by omega)
            omega
        · rcases l3 with y | ⟨q, q0, q1, q2⟩
          · exact Or.inl (by omega)
          · exact Or.inr ⟨q, q0, by omega, by have := szq q q1; omega⟩
theorem s_fill25 {post : (Int → Int) → Prop} {a : Int → Int} {v : Int} (hp : ∀ b : Int → Int, (∀ j, 0 ≤ j → j < 144 → b j = v) → post b) : P_J7_fill_53178_25 post a v := by
  unfold P_J7_fill_53178_25
  refine ⟨fun n x b => n = (144 - x).toNat ∧ 0 ≤ x ∧ x ≤ 144 ∧ ∀ j, 0 ≤ j → j < x → b j = v, ⟨_, rfl, by omega, by omega, fun j _ _ => by omega⟩, ?_⟩
  rintro n x b rx ⟨rfl, b1, b2, b3⟩
  refine ⟨fun q => hp b (fun j j0 j1 => b3 j j0 (by omega)), fun q => ⟨by omega, fun b' eb => nx (by omega) ⟨_, ?_, rfl, by omega, by omega, fun j j0 j1 => ?_⟩⟩⟩
  · omega
  · rw [eb]
    by_cases z : j = x
    · rw [z, upZ_s]
    · rw [upZ_n _ _ z]; exact b3 j j0 (by omega)
/-- the border, split -/
def BS (w h sh : Int) (st number hi un : Int → Int) (Ch : Int → Prop) (p lg : Int) (po rs uk ps cs : Int → Int) : Prop := BI w h sh st Ch p (ps p) po ps cs ∧ NF w h sh st number hi un Ch (-1) po rs uk ∧ (∀ n, Ch n → ¬ po n = -1) ∧ Lon p ps lg ∧ lg ≤ 144
theorem s_split {w h sh p lg mines : Int} {mined st ci number hi un ch po rs uk ps cs near nearEnd : Int → Int} {Ch : Int → Prop} {post : Int → Int → (Int → Int) → (Int → Int) → (Int → Int) → (Int → Int) → (Int → Int) → Prop} (ok : okB w h sh) (g : GeoD w h sh near nearEnd) (dm : DMi w h sh mined number mines) (ds : DSt w h sh st ci un hi) (cok : ChOk w h sh st Ch) (hch : ∀ c, 0 ≤ c → c < w * h → (ch c = 0 ∨ ch c = 1) ∧ (ch c = 1 ↔ Ch c)) (h0 : ps 0 = 0)
    (hp : ∀ (p' lg' : Int) (po' rs' uk' ps' cs' : Int → Int), BS w h sh st number hi un Ch p' lg' po' rs' uk' ps' cs' → post p' lg' po' rs' uk' ps' cs') : P_X1_split post (w * h) p lg number st un hi near nearEnd ch po rs uk ps cs := by
  have hle := wh_le ok
  have hge := wh_ge ok
  unfold P_X1_split
  refine s_fill25 (fun po0 hpo => ?_)
  have bi0 : BI w h sh st Ch 0 (ps 0) po0 ps cs := ⟨⟨by omega, h0, fun q _ _ => by omega, by omega⟩, fun i _ _ => by omega, fun i j _ _ _ => by omega, ⟨fun q i _ _ _ _ => by omega, fun i _ _ => by omega⟩, fun c c0 c1 => Or.inl (hpo c c0 (by omega)), fun d d0 d1 _ q0 _ => by have := hpo d d0 (by omega); omega, fun i j _ _ _ _ => by omega⟩
  have nf0 : NF w h sh st number hi un Ch (-1) po0 rs uk := fun n hn _ hp2 => absurd (by have := (cok n hn).1; exact hpo n this.1 (by omega)) hp2
  refine ⟨fun k x p' lg' po' rs' uk' ps' cs' => k = (w * h - x).toNat ∧ 0 ≤ x ∧ x ≤ w * h ∧ BI w h sh st Ch p' (ps' p') po' ps' cs' ∧ NF w h sh st number hi un Ch (-1) po' rs' uk' ∧ Lon p' ps' lg' ∧ lg' ≤ 144 ∧ (∀ n, Ch n → n < x → ¬ po' n = -1), ⟨_, rfl, by omega, by omega, bi0, nf0, ⟨by omega, fun q _ _ => by omega, Or.inl rfl⟩, by omega, fun n hn _ => by have := (cok n hn).1; omega⟩, ?_⟩
  rintro k x p' lg' po' rs' uk' ps' cs' rx ⟨rfl, b1, b2, b3, b4, b5, b6, b7⟩
  refine ⟨fun q => hp p' lg' po' rs' uk' ps' cs' ⟨b3, b4, fun n hn => b7 n hn (by have := (cok n hn).1; omega), b5, b6⟩, fun q => ?_⟩
  have hx : 0 ≤ x ∧ x < w * h := ⟨b1, by omega⟩
  have chx := hch x hx.1 hx.2
  have pm := b3.mono (q := 0) (r := p') (by omega) b3.1.1 (by omega)
  have pz := b3.1.2.1
  have pp0 := b3.1.1
  have skip : (Ch x → ¬ po' x = -1) → ∃ k : Nat, k < (w * h - x).toNat ∧ (k = (w * h - (x + 1)).toNat ∧ 0 ≤ x + 1 ∧ x + 1 ≤ w * h ∧ BI w h sh st Ch p' (ps' p') po' ps' cs' ∧ NF w h sh st number hi un Ch (-1) po' rs' uk' ∧ Lon p' ps' lg' ∧ lg' ≤ 144 ∧ (∀ n, Ch n → n < x + 1 → ¬ po' n = -1)) := by
    intro hh
    refine ⟨_, ?_, rfl, by omega, by omega, b3, b4, b5, b6, fun n hn hnx => ?_⟩
    · omega
    · by_cases z : n = x
      · rw [z] at hn ⊢; exact hh hn
      · exact b7 n hn (by omega)
  refine ⟨by omega, fun v ev rv => exJ7 ⟨fun z => nx (by omega) (skip (fun y => by have := chx.2.mpr y; omega)), fun z => ⟨by omega, fun v2 ev2 rv2 => ⟨fun z2 => nx (by omega) (skip (fun _ => by rw [← ev2]; exact z2)), fun z2 => ?_⟩⟩⟩⟩
  have cx : Ch x := chx.2.mp (by omega)
  obtain ⟨-, -, d0, hd0, ud0⟩ := cok x cx
  have dc := nb_cell hd0
  have fd : po' d0 = -1 := by
    rcases b3.2.2.2.2.1 d0 dc.1 dc.2 with y | ⟨y1, y2⟩
    · exact y
    · rcases y2 with y2 | ⟨-, i, i0, i1, i2⟩
      · have := (cok d0 y2).2.1; omega
      · have lt : po' d0 < p' := by
          rcases b3.assigned i0 i1 with ⟨q2, -, q3, -, -, q4⟩ | ⟨q2, -⟩
          · rw [i2] at q4; omega
          · omega
        have := b3.2.2.2.2.2.1 d0 dc.1 dc.2 ud0 y1.1 lt x cx hd0
        omega
  have lt := b3.lt (by omega) (by omega) dc fd
  refine ⟨fun z3 => absurd z3 (by omega), fun z3 => ?_⟩
  refine s_gather ok g dm ds cok hch b3 b4 cx (by omega) b5 b6 (by omega) (fun lg2 e2 po2 rs2 uk2 cs2 k1 k2 k3 k4 k5 k6 => nx (by omega) ⟨_, ?_, rfl, by omega, by omega, by rw [upZ_s]; exact k1, k2, k5, k6, fun n hn hnx => ?_⟩)
  · omega
  · by_cases z4 : n = x
    · rw [z4]; exact k3
    · have := b7 n hn (by omega)
      rw [k4 n this]; exact this
