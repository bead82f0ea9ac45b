/-! a part, taken -/
theorem GC.alike {w h sh N : Int} {st R go gz links le s t : Int → Int} {Ch : Int → Prop} {L : List Int} (ok : okB w h sh) (cok : ChOk w h sh st Ch) (gc : GC w h sh st Ch L N go gz links le) (e : ∀ i, 0 ≤ i → i < N → sumL (Gl L go i) s = sumL (Gl L go i) t) (q : SatL w h sh st R Ch L s) : SatL w h sh st R Ch L t ∧ sumL L t = sumL L s := by
  refine ⟨fun n hn ht => ?_, ?_⟩
  · have := q n hn ht
    unfold Sat1 at this ⊢
    rw [gc.num ok cok hn ht] at this ⊢
    rw [← this]
    exact sumL_congr (fun i mi => by rw [e i (mem_cells.1 mi).1 (mem_cells.1 mi).2])
  · rw [gsum gc.1 gc.2.2.2.2.2.1 gc.2.2.2.2.1.1, gsum gc.1 gc.2.2.2.2.2.1 gc.2.2.2.2.1.1]
    exact sumL_congr (fun i mi => (e i (mem_cells.1 mi).1 (mem_cells.1 mi).2).symm)
theorem swap_sum {l : List Int} {t : Int → Int} {c d : Int} (nd : l.Nodup) (hcd : c ∈ l ↔ d ∈ l) : sumL l (upZ (upZ t c (t d)) d (t c)) = sumL l t := by
  by_cases e : c = d
  · subst e
    refine sumL_congr (fun x _ => ?_)
    by_cases k : x = c
    · rw [k, upZ_s]
    · rw [upZ_n _ _ k, upZ_n _ _ k]
  · have h1 := sumL_change (f := upZ t c (t d)) (g := upZ (upZ t c (t d)) d (t c)) (x := d) nd (fun y _ hy => upZ_n _ _ hy)
    have h2 := sumL_change (f := t) (g := upZ t c (t d)) (x := c) nd (fun y _ hy => upZ_n _ _ hy)
    rw [h1, h2, upZ_s, upZ_s, upZ_n _ _ (fun q => e q.symm)]
    by_cases k : c ∈ l
    · rw [if_pos k, if_pos (hcd.1 k)]; omega
    · rw [if_neg k, if_neg (fun q => k (hcd.2 q))]; omega
theorem GC.swap {w h sh N i c d : Int} {st R go gz links le t : Int → Int} {Ch : Int → Prop} {L : List Int} (ok : okB w h sh) (cok : ChOk w h sh st Ch) (gc : GC w h sh st Ch L N go gz links le) (hc : c ∈ Gl L go i) (hd : d ∈ Gl L go i) (bt : Bn L t) (q : SatL w h sh st R Ch L t) : ∃ s, Bn L s ∧ SatL w h sh st R Ch L s ∧ sumL L s = sumL L t ∧ s c = t d := by
  have bs : Bn L (upZ (upZ t c (t d)) d (t c)) := by
    intro x
    by_cases k : x = d
    · rw [k, upZ_s]
      exact ⟨(bt c).1, fun y => absurd (mem_Gl.1 hd).1 y⟩
    · rw [upZ_n _ _ k]
      by_cases k2 : x = c
      · rw [k2, upZ_s]
        exact ⟨(bt d).1, fun y => absurd (mem_Gl.1 hc).1 y⟩
      · rw [upZ_n _ _ k2]
        exact bt x
  have al := gc.alike (R := R) (s := t) (t := upZ (upZ t c (t d)) d (t c)) ok cok (fun j j0 j1 => (swap_sum (Gl_nd gc.1) (by rw [mem_Gl, mem_Gl, (mem_Gl.1 hc).2, (mem_Gl.1 hd).2]; exact ⟨fun y => ⟨(mem_Gl.1 hd).1, y.2⟩, fun y => ⟨(mem_Gl.1 hc).1, y.2⟩⟩)).symm) q
  refine ⟨_, bs, al.1, al.2, ?_⟩
  by_cases k : c = d
  · rw [k, upZ_s]
  · rw [upZ_n _ _ k, upZ_s]
theorem GC.mined {w h sh N i c m : Int} {st R go gz links le pk : Int → Int} {Ch : Int → Prop} {L : List Int} (ok : okB w h sh) (cok : ChOk w h sh st Ch) (gc : GC w h sh st Ch L N go gz links le) (hc : c ∈ Gl L go i) : EXy w h sh st R Ch L (fun t => GY L go pk 0 t ∧ 0 < sumL (Gl L go i) t) m ↔ mSc w h sh st R Ch L c 1 m := by
  constructor
  · rintro ⟨t, bt, q, e, -, hs⟩
    have : ∃ d ∈ Gl L go i, t d = 1 := by
      apply Classical.byContradiction
      intro k
      have : sumL (Gl L go i) t = 0 := by
        rw [sumL_congr (g := fun _ => 0) (fun d md => (bt d).1.resolve_right (fun y => k ⟨d, md, y⟩)), sumL_const (k := 0) (fun _ _ => rfl)]
        omega
      omega
    obtain ⟨d, md, ed⟩ := this
    obtain ⟨s, b1, b2, b3, b4⟩ := gc.swap ok cok hc md bt q
    exact ⟨s, b1, b2, by rw [b3, e], by rw [b4, ed]⟩
  · rintro ⟨t, bt, q, e, tc⟩
    refine ⟨t, bt, q, e, fun i h0 h1 => by omega, ?_⟩
    have nn : ∀ x ∈ Gl L go i, 0 ≤ t x := fun x _ => by rcases (bt x).1 with y | y <;> omega
    have := sumL_pos nn
    apply Classical.byContradiction
    intro k
    have := sumL_zero nn (by omega) c hc
    omega
theorem GC.safe {w h sh N i c m : Int} {st R go gz links le pk : Int → Int} {Ch : Int → Prop} {L : List Int} (ok : okB w h sh) (cok : ChOk w h sh st Ch) (gc : GC w h sh st Ch L N go gz links le) (hi : 0 ≤ i ∧ i < N) (hc : c ∈ Gl L go i) : EXy w h sh st R Ch L (fun t => GY L go pk 0 t ∧ sumL (Gl L go i) t < gz i) m ↔ mSc w h sh st R Ch L c 0 m := by
  have gl := (gc.2.2.2.2.2.2 i hi.1 hi.2).1.1
  constructor
  · rintro ⟨t, bt, q, e, -, hs⟩
    have : ∃ d ∈ Gl L go i, t d = 0 := by
      apply Classical.byContradiction
      intro k
      have : sumL (Gl L go i) t = (Gl L go i).length := by
        rw [sumL_congr (g := fun _ => 1) (fun d md => (bt d).1.resolve_left (fun y => k ⟨d, md, y⟩)), sumL_const (k := 1) (fun _ _ => rfl)]
        omega
      omega
    obtain ⟨d, md, ed⟩ := this
    obtain ⟨s, b1, b2, b3, b4⟩ := gc.swap ok cok hc md bt q
    exact ⟨s, b1, b2, by rw [b3, e], by rw [b4, ed]⟩
  · rintro ⟨t, bt, q, e, tc⟩
    refine ⟨t, bt, q, e, fun i h0 h1 => by omega, ?_⟩
    have := sumL_lt1 (f := t) (fun y _ => by rcases (bt y).1 with z | z <;> omega) hc tc
    omega
def SV (w h sh : Int) (st R : Int → Int) (Ch : Int → Prop) (ps cs : Int → Int) (p : Int) (mset sset pS ta : Int → Int) : Prop :=
  (∀ m, 0 ≤ m → m ≤ ps (p + 1) - ps p → ta (ps p + p + m) = Tw w h sh st R Ch (CL ps cs p) m) ∧ (sm (pS p) ∧ ∀ m, 0 ≤ m → (tb (pS p) m ↔ mS w h sh st R Ch (CL ps cs p) m)) ∧ (∀ c ∈ CL ps cs p, (sm (mset c) ∧ sm (sset c)) ∧ ∀ m, 0 ≤ m → ((tb (mset c) m ↔ mSc w h sh st R Ch (CL ps cs p) c 1 m) ∧ (tb (sset c) m ↔ mSc w h sh st R Ch (CL ps cs p) c 0 m)))
/-- the numbers as the border holds them -/
def RU (w h sh : Int) (st R : Int → Int) (Ch : Int → Prop) (rs uk : Int → Int) : Prop := ∀ n, Ch n → rs n = R n ∧ uk n = sumL (NB w h sh n) (fun d => iU (st d)) ∧ 0 ≤ R n ∧ R n ≤ sumL (NB w h sh n) (fun d => iU (st d))
theorem s_take {w h sh P lg p asked N0 ag0 tk0 : Int} {st number hi un R near nearEnd ch po rs uk ps cs mset sset pS ta as go0 gz0 links0 le0 pk0 gm0 gs0 : Int → Int} {Ch : Int → Prop} {post : (Int) → (Int) → (Int) → (Int → Int) → (Int → Int) → (Int → Int) → (Int → Int) → (Int → Int) → (Int → Int) → (Int → Int) → (Int → Int) → (Int → Int) → (Int → Int) → (Int → Int) → (Int → Int) → (Int → Int) → (Int → Int) → Prop} (ok : okB w h sh) (geo : GeoD w h sh near nearEnd) (cok : ChOk w h sh st Ch) (hch : ∀ c, 0 ≤ c → c < w * h → (ch c = 0 ∨ ch c = 1) ∧ (ch c = 1 ↔ Ch c)) (b : BS w h sh st number hi un Ch P lg po rs uk ps cs) (ru : RU w h sh st R Ch rs uk) (hlg : lg ≤ 16) (hp0 : 0 ≤ p ∧ p < P) (ha : asked = -1 ∨ asked ∈ CL ps cs p)
    (hp : ∀ (N ag : Int) (mset' sset' pS' ta' as' go gz links le pk gm gs : Int → Int), SV w h sh st R Ch ps cs p mset' sset' pS' ta' → (∀ q, q ≠ p → pS' q = pS q) → (∀ j, j < ps p + p ∨ ps (p + 1) + p < j → ta' j = ta j) → (∀ c, ¬ c ∈ CL ps cs p → mset' c = mset c ∧ sset' c = sset c) → (asked = -1 ∨ ∀ m, 0 ≤ m → m ≤ ps (p + 1) - ps p → as' m = Ww w h sh st R Ch (CL ps cs p) asked m) → post N ag p rs uk mset' sset' pS' ta' as' go gz links le pk gm gs) :
    P_X9_take post N0 ag0 tk0 near nearEnd ch rs uk ps cs mset sset pS ta as go0 gz0 links0 le0 pk0 gm0 gs0 p asked := by
  have hle := wh_le ok
  have f := b.facts ok cok
  have fp := f.2.1 p hp0.1 hp0.2
  obtain ⟨dis, nd, len⟩ := b.nd ok cok hp0
  have sz16 : ps (p + 1) - ps p ≤ 16 := by
    have := b.2.2.2.1.2.1 p hp0.1 hp0.2
    omega
  have bdL := fun c m => f.2.2.2.1 p c hp0.1 hp0.2 m
  unfold P_X9_take
  refine s_sizeOf ⟨by omega, by omega⟩ (by omega) (fun _ => ⟨fun z => ?_, fun z => by omega⟩)
  refine s_formGroups ok geo hch ⟨by omega, by omega⟩ (by omega) (by omega) (fun i i0 i1 => (bdL _ (mem_CL.2 ⟨i, i0, i1, rfl⟩)).1.1) dis (fun N go gz links le gr => ?_)
  have gc : GC w h sh st Ch (CL ps cs p) N go gz links le := ⟨nd, b.cl ok cok hp0, fun c m => (bdL c m).1, by omega, gr⟩
  have hN := gr.1
  have hN16 : N ≤ 16 := by have := gr.1.2; have : ((seg cs (ps p) (ps (p + 1) - ps p).toNat).length : Int) ≤ 16 := by rw [seg_len]; omega
                           omega
  have h0 : ∀ n, Ch n → (∃ d ∈ NB w h sh n, d ∈ CL ps cs p) → rs n = R n ∧ uk n = sumL (cellsL N) (fun i => qk links le i n * gz i) := by
    intro n hn ht
    obtain ⟨r1, r2, -⟩ := ru n hn
    refine ⟨r1, ?_⟩
    rw [r2]
    have := gc.num (f := fun _ => 1) ok cok hn ht
    rw [sumL_congr (g := fun d => iU (st d)) (fun d _ => Int.mul_one _)] at this
    rw [this]
    refine sumL_congr (fun i mi => ?_)
    rw [sumL_const (k := 1) (fun _ _ => rfl), Int.one_mul, (gr.2.2 i (mem_cells.1 mi).1 (mem_cells.1 mi).2).1.1]
    rfl
  have hag : ∀ ag : Int, (asked = -1 → ag = -1) → (¬ asked = -1 → ag = go asked) → ag = -1 ∨ (asked ∈ CL ps cs p ∧ ag = go asked) := by
    intro ag a1 a2
    rcases ha with e | e
    · exact Or.inl (a1 e)
    · by_cases k : asked = -1
      · exact Or.inl (a1 k)
      · exact Or.inr ⟨e, a2 k⟩
  refine ⟨fun ag => (asked = -1 → ag = -1) ∧ (¬ asked = -1 → ag = go asked), ⟨fun z1 => ⟨?_, fun v ev rv => ⟨fun y => absurd y z1, fun _ => ev⟩⟩, fun z1 => ⟨fun _ => rfl, fun y => absurd z1 y⟩⟩, ?_⟩
  · have := (bdL asked (ha.resolve_left z1)).1.1
    omega
  rintro ag rag ⟨a1, a2⟩
  have agc := hag ag a1 a2
  refine s_clear ⟨by omega, by omega⟩ (by omega) (fun ta1 as1 gm1 gs1 k1 k2 k3 k4 => ?_)
  have tb0 : TB w h sh st R Ch (CL ps cs p) N p (ps p + p) (ps (p + 1) - ps p) ag asked (GY (CL ps cs p) go pk0 0) (upZ pS p 0) ta1 as1 gm1 gs1 := by
    have e16 : pw2 (CL ps cs p).length ≤ pw2 16 := pw2_le (by omega)
    have e17 : pw2 16 = 65536 := rfl
    refine ⟨fun m m0 m1 => ?_, Or.inr (fun m m0 m1 => ?_), by rw [upZ_s]; exact sm_zero, fun i i0 i1 => ?_⟩
    · rw [k1 m m0 m1]
      have : CNy w h sh st R Ch (CL ps cs p) (GY (CL ps cs p) go pk0 0) m ≤ pw2 (CL ps cs p).length := (asum_bd (fun t _ => iB_b _)).2
      omega
    · rw [k3 m m0 (by omega)]
      have : CNc w h sh st R Ch (CL ps cs p) asked (GY (CL ps cs p) go pk0 0) m ≤ pw2 (CL ps cs p).length := (asum_bd (fun t bt => by
        have := iB_b (SatL w h sh st R Ch (CL ps cs p) t ∧ sumL (CL ps cs p) t = m ∧ GY (CL ps cs p) go pk0 0 t)
        rcases (bt asked).1 with y | y
        · rw [y]; omega
        · rw [y]; omega)).2
      omega
    · have := k4 i i0 (by omega)
      rw [this.1, this.2]
      exact ⟨sm_zero, sm_zero⟩
  have pi0 : PI w h sh Ch (CL ps cs p) 0 gz links le rs uk pk0 rs uk := by
    refine ⟨fun n => ?_, fun n => ?_, fun n hn _ => ?_⟩
    · show rs n = rs n - 0
      omega
    · show uk n = uk n - 0
      omega
    · obtain ⟨r1, r2, r3, r4⟩ := ru n hn
      omega
  refine s_place ok cok gc h0 agc ⟨by omega, by omega⟩ ⟨by omega, by omega⟩ len.symm 18 0 0 1 rs uk _ _ _ _ _ _ _ (by omega) (by omega) (by omega) rfl rfl (fun i _ _ => by omega) pi0 tb0 (fun pS2 ta2 as2 pk2 gm2 gs2 ad _ => ?_)
  obtain ⟨d1, d2, d3, d4, d5, d6⟩ := ad
  have gyt : ∀ t, GY (CL ps cs p) go pk0 0 t := fun t i i0 i1 => by omega
  have v1 : ∀ m, 0 ≤ m → m ≤ ps (p + 1) - ps p → ta2 (ps p + p + m) = Tw w h sh st R Ch (CL ps cs p) m := by
    intro m m0 m1
    rw [d1 m m0 m1, k1 m m0 m1, Int.zero_add]
    exact asum_congr (fun t _ => iB_iff ⟨fun q => ⟨q.1, q.2.1⟩, fun q => ⟨q.1, q.2, gyt t⟩⟩)
  have v2 : sm (pS2 p) ∧ ∀ m, 0 ≤ m → (tb (pS2 p) m ↔ mS w h sh st R Ch (CL ps cs p) m) := by
    refine ⟨d4.1, fun m m0 => ?_⟩
    rw [d4.2 m m0, upZ_s]
    exact ⟨fun y => y.elim (fun y => absurd y tb_zero) (fun ⟨t, q1, q2, q3, _⟩ => ⟨t, q1, q2, q3⟩), fun ⟨t, q1, q2, q3⟩ => Or.inr ⟨t, q1, q2, q3, gyt t⟩⟩
  have v3 : ∀ q, q ≠ p → pS2 q = pS q := fun q hq => by rw [d3 q hq, upZ_n _ _ hq]
  have v4 : ∀ j, j < ps p + p ∨ ps (p + 1) + p < j → ta2 j = ta j := fun j hj => by rw [d2 j (by omega), k2 j (by omega)]
  have v5 : asked = -1 ∨ ∀ m, 0 ≤ m → m ≤ ps (p + 1) - ps p → as2 m = Ww w h sh st R Ch (CL ps cs p) asked m := by
    by_cases y : asked = -1
    · exact Or.inl y
    · refine Or.inr (fun m m0 m1 => ?_)
      have ay : ¬ ag = -1 := by
        have := (gr.2.1 asked (ha.resolve_left y)).1
        have := a2 y
        omega
      rw [(d6.resolve_left ay) m m0 m1, k3 m m0 (by omega), Int.zero_add]
      exact asum_congr (fun t _ => by rw [iB_iff (show (SatL w h sh st R Ch (CL ps cs p) t ∧ sumL (CL ps cs p) t = m ∧ GY (CL ps cs p) go pk0 0 t) ↔ (SatL w h sh st R Ch (CL ps cs p) t ∧ sumL (CL ps cs p) t = m) from ⟨fun q => ⟨q.1, q.2.1⟩, fun q => ⟨q.1, q.2, gyt t⟩⟩)])
  refine ⟨by omega, fun a ea ra => ⟨fun n x mset' sset' => n = (ps (p + 1) - x).toNat ∧ ps p ≤ x ∧ x ≤ ps (p + 1) ∧ (∀ j, ps p ≤ j → j < x → mset' (cs j) = gm2 (go (cs j)) ∧ sset' (cs j) = gs2 (go (cs j))) ∧ (∀ c, ¬ c ∈ CL ps cs p → mset' c = mset c ∧ sset' c = sset c), ⟨_, rfl, by omega, by omega, fun j _ _ => by omega, fun _ _ => ⟨rfl, rfl⟩⟩, ?_⟩⟩
  rintro n x mset' sset' rx ⟨rfl, b1, b2, b3, b4⟩
  refine ⟨by omega, fun e ee re => ⟨fun z1 => ?_, fun z1 => ?_⟩⟩
  · refine hp _ _ _ _ _ _ _ _ _ _ _ _ _ _ ⟨v1, v2, fun c mc => ?_⟩ v3 v4 b4 v5
    obtain ⟨j, j0, j1, ej⟩ := mem_CL.1 mc
    have := b3 j j0 (by omega)
    rw [ej] at this
    have hg := gr.2.1 c mc
    have mg : c ∈ Gl (CL ps cs p) go (go c) := mem_Gl.2 ⟨mc, rfl⟩
    obtain ⟨s1, s2⟩ := d5 (go c) hg.1 hg.2
    rw [this.1, this.2]
    have k4c := k4 (go c) hg.1 (by omega)
    refine ⟨s1, fun m m0 => ?_⟩
    obtain ⟨s3, s4⟩ := s2 m m0
    rw [s3, s4, k4c.1, k4c.2, gc.mined ok cok mg, gc.safe ok cok hg mg]
    exact ⟨⟨fun y => y.elim (fun y => absurd y tb_zero) id, Or.inr⟩, ⟨fun y => y.elim (fun y => absurd y tb_zero) id, Or.inr⟩⟩
  · have mx : cs x ∈ CL ps cs p := mem_CL.2 ⟨x, b1, by omega, rfl⟩
    have bx := (bdL _ mx).1.1
    have hg := gr.2.1 _ mx
    refine ⟨by omega, fun c ec rc => ?_⟩
    subst ec
    refine ⟨by omega, fun g1 e1 r1 => ?_⟩
    subst e1
    refine ⟨by omega, fun vm em rm => ⟨by omega, fun ms2 em2 => ⟨by omega, fun g2 e2 r2 => ?_⟩⟩⟩
    subst e2
    refine ⟨by omega, fun vs es rs' => ⟨by omega, fun ss2 es2 => nx (by omega) ⟨_, ?_, rfl, by omega, by omega, fun j j0 j1 => ?_, fun c nc => ?_⟩⟩⟩
    · omega
    · rw [em2, es2]
      by_cases k : j = x
      · rw [k, upZ_s, upZ_s]; exact ⟨em, es⟩
      · have ne : cs j ≠ cs x := dis j x j0 (by omega) (by omega)
        rw [upZ_n _ _ ne, upZ_n _ _ ne]
        exact b3 j j0 (by omega)
    · have ne : c ≠ cs x := fun y => nc (y ▸ mx)
      rw [em2, es2, upZ_n _ _ ne, upZ_n _ _ ne]
      exact b4 c nc
