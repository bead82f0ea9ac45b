/-! the class's parts as lists, and clearing -/
def CL (ps cs : Int → Int) (p : Int) : List Int := seg cs (ps p) (ps (p + 1) - ps p).toNat
def CLs (P : Int) (ps cs : Int → Int) : List (List Int) := (List.range P.toNat).map (fun i : Nat => CL ps cs (i : Int))
theorem mem_CL {ps cs : Int → Int} {p c : Int} : c ∈ CL ps cs p ↔ ∃ i, ps p ≤ i ∧ i < ps (p + 1) ∧ cs i = c := by
  unfold CL
  rw [mem_seg]
  constructor
  · rintro ⟨i, h0, h1, e⟩
    exact ⟨i, h0, by omega, e⟩
  · rintro ⟨i, h0, h1, e⟩
    exact ⟨i, h0, by omega, e⟩
theorem seg_nd {cs : Int → Int} {b : Int} : ∀ {k : Nat}, (∀ i j, b ≤ i → i < j → j < b + k → cs i ≠ cs j) → (seg cs b k).Nodup := by
  intro k
  induction k with
  | zero => intro _; rw [seg_zero]; exact List.nodup_nil
  | succ k ih =>
    intro h
    rw [seg_succ]
    refine List.nodup_append.2 ⟨ih (fun i j h0 h1 h2 => h i j h0 h1 (by omega)), List.pairwise_singleton _ _, fun x mx y my e => ?_⟩
    obtain ⟨i, i0, i1, ei⟩ := mem_seg.1 mx
    have : y = cs (b + k) := List.mem_singleton.1 my
    exact h i (b + k) i0 i1 (by omega) (by rw [ei, e, this])
/-- facts of a split border -/
theorem BS.facts {w h sh P lg : Int} {st number hi un po rs uk ps cs : Int → Int} {Ch : Int → Prop} (ok : okB w h sh) (cok : ChOk w h sh st Ch) (b : BS w h sh st number hi un Ch P lg po rs uk ps cs) :
    (0 ≤ P ∧ P ≤ 144 ∧ ps 0 = 0 ∧ ps P ≤ w * h) ∧ (∀ p, 0 ≤ p → p < P → 0 ≤ ps p ∧ p ≤ ps p ∧ ps p < ps (p + 1) ∧ ps (p + 1) ≤ w * h ∧ p < 144) ∧ (∀ c, Bd w h sh st Ch c → (0 ≤ po c ∧ po c < P) ∧ c ∈ CL ps cs (po c)) ∧ (∀ p c, 0 ≤ p → p < P → c ∈ CL ps cs p → Bd w h sh st Ch c ∧ po c = p) ∧ (∀ c, 0 ≤ c → c < w * h → st c ≤ 1 → ¬ Bd w h sh st Ch c → po c = -1) := by
  obtain ⟨bi, nf, al, lo, lb⟩ := b
  obtain ⟨⟨b0, b1, b2, b3⟩, c1, c2, c3, c4, c5, c6⟩ := id bi
  have hle := wh_le ok
  have hge := wh_ge ok
  have mono := fun {q r : Int} => bi.mono (q := q) (r := r)
  have eP : ps P ≤ w * h := inj_le (by omega) (by have := mono (q := 0) (r := P) (by omega) (by omega) (by omega); omega) (fun i i0 i1 => (c1 i i0 i1).1) c2
  have f1 : ∀ p, 0 ≤ p → p < P → 0 ≤ ps p ∧ p ≤ ps p ∧ ps p < ps (p + 1) ∧ ps (p + 1) ≤ w * h ∧ p < 144 := by
    intro p p0 p1
    have m1 := mono (q := 0) (r := p) (by omega) (by omega) (by omega)
    have m2 := mono (q := p + 1) (r := P) (by omega) (by omega) (by omega)
    have m3 := b2 p p0 p1
    omega
  have P144 : P ≤ 144 := by
    have := mono (q := 0) (r := P) (by omega) (by omega) (by omega)
    omega
  refine ⟨⟨b0, P144, b1, eP⟩, f1, fun c bd => ?_, fun p c p0 p1 m => ?_, fun c c0 c1' cu nb => ?_⟩
  · obtain ⟨hc, hu, n, hn, mn⟩ := bd
    have pn := al n hn
    have e1 := (nf n hn (by have := (cok n hn).1; omega) pn).1 c mn hu
    rcases c4 c hc.1 hc.2 with e | ⟨e, hh⟩
    · omega
    · rcases hh with hh | ⟨-, i, i0, i1, ei⟩
      · have := (cok c hh).2.1
        omega
      · rcases bi.assigned i0 i1 with ⟨q, q0, q1, q2, q3, q4⟩ | ⟨q2, q4⟩
        · rw [ei] at q4
          rw [q4]
          exact ⟨⟨q0, q1⟩, mem_CL.2 ⟨i, q2, q3, ei⟩⟩
        · omega
  · obtain ⟨i, i0, i1, ei⟩ := mem_CL.1 m
    have := f1 p p0 p1
    have mm := mono (q := p + 1) (r := P) (by omega) (by omega) (by omega)
    have k := c1 i (by omega) (by omega)
    have e := c3.1 p i p0 p1 i0 i1
    rw [ei] at k e
    obtain ⟨k1, k2, n, k3, k4⟩ := k
    exact ⟨⟨k1, k2, n, k3, k4⟩, e⟩
  · rcases c4 c c0 c1' with e | ⟨e, hh⟩
    · exact e
    · exfalso
      rcases hh with hh | ⟨-, i, i0, i1, ei⟩
      · have := (cok c hh).2.1
        omega
      · have k := c1 i i0 i1
        rw [ei] at k
        obtain ⟨k1, k2, n, k3, k4⟩ := k
        exact nb ⟨k1, k2, n, k3, k4⟩
theorem BS.nd {w h sh P lg p : Int} {st number hi un po rs uk ps cs : Int → Int} {Ch : Int → Prop} (ok : okB w h sh) (cok : ChOk w h sh st Ch) (b : BS w h sh st number hi un Ch P lg po rs uk ps cs) (hp : 0 ≤ p ∧ p < P) : (∀ i j, ps p ≤ i → i < j → j < ps (p + 1) → cs i ≠ cs j) ∧ (CL ps cs p).Nodup ∧ ((CL ps cs p).length : Int) = ps (p + 1) - ps p := by
  have f := b.facts ok cok
  have fp := f.2.1 p hp.1 hp.2
  have mm := b.1.mono (q := p + 1) (r := P) (by omega) (by omega) (by omega)
  have d : ∀ i j, ps p ≤ i → i < j → j < ps (p + 1) → cs i ≠ cs j := fun i j i0 i1 i2 => b.1.2.2.1 i j (by omega) i1 (by omega)
  refine ⟨d, seg_nd (fun i j i0 i1 i2 => d i j i0 i1 (by omega)), ?_⟩
  unfold CL
  rw [seg_len]
  omega
theorem BS.cl {w h sh P lg p : Int} {st number hi un po rs uk ps cs : Int → Int} {Ch : Int → Prop} (ok : okB w h sh) (cok : ChOk w h sh st Ch) (b : BS w h sh st number hi un Ch P lg po rs uk ps cs) (hp : 0 ≤ p ∧ p < P) : Cl w h sh st Ch (CL ps cs p) := by
  have f := b.facts ok cok
  rintro n hn ⟨d, md, ml⟩ e me ue
  have pd := (f.2.2.2.1 p d hp.1 hp.2 ml).2
  have bd := (f.2.2.2.1 p d hp.1 hp.2 ml).1
  have nf := (b.2.1 n hn (by have := (cok n hn).1; omega) (b.2.2.1 n hn)).1
  have e1 := nf d md bd.2.1
  have e2 := nf e me ue
  have be : Bd w h sh st Ch e := ⟨(mem_NB.1 me).1, ue, n, hn, me⟩
  have := (f.2.2.1 e be).2
  rw [e2, ← e1, pd] at this
  exact this
theorem BS.pls {w h sh P lg : Int} {st number hi un po rs uk ps cs : Int → Int} {Ch : Int → Prop} (ok : okB w h sh) (cok : ChOk w h sh st Ch) (b : BS w h sh st number hi un Ch P lg po rs uk ps cs) : PLs w h sh st Ch (CLs P ps cs) := by
  have f := b.facts ok cok
  refine ⟨map_flat_nd List.nodup_range (fun i mi => (b.nd ok cok (p := i) (by have := List.mem_range.1 mi; omega)).2.1) (fun i mi j mj c hi hj => ?_), fun L mL => ?_, fun c => ?_⟩
  · have := List.mem_range.1 mi
    have := List.mem_range.1 mj
    have e1 := (f.2.2.2.1 i c (by omega) (by omega) hi).2
    have e2 := (f.2.2.2.1 j c (by omega) (by omega) hj).2
    omega
  · obtain ⟨i, mi, ei⟩ := List.mem_map.1 mL
    subst ei
    have := List.mem_range.1 mi
    exact b.cl ok cok ⟨by omega, by omega⟩
  · rw [List.mem_flatten]
    constructor
    · rintro ⟨l, ml, mc⟩
      obtain ⟨i, mi, ei⟩ := List.mem_map.1 ml
      subst ei
      have := List.mem_range.1 mi
      exact (f.2.2.2.1 i c (by omega) (by omega) mc).1
    · intro bd
      obtain ⟨h1, h2⟩ := f.2.2.1 c bd
      refine ⟨_, List.mem_map.2 ⟨(po c).toNat, List.mem_range.2 (by omega), rfl⟩, ?_⟩
      rw [show (((po c).toNat : Nat) : Int) = po c by omega]
      exact h2
theorem BS.cn {w h sh P lg c e : Int} {st number hi un po rs uk ps cs : Int → Int} {Ch : Int → Prop} (ok : okB w h sh) (cok : ChOk w h sh st Ch) (b : BS w h sh st number hi un Ch P lg po rs uk ps cs) (hc : Bd w h sh st Ch c) (he : Bd w h sh st Ch e) : po c = po e ↔ Cn w h sh st Ch c e := by
  have f := b.facts ok cok
  constructor
  · intro q
    obtain ⟨h1, h2⟩ := f.2.2.1 c hc
    obtain ⟨h3, h4⟩ := f.2.2.1 e he
    obtain ⟨i, i0, i1, ei⟩ := mem_CL.1 h2
    obtain ⟨j, j0, j1, ej⟩ := mem_CL.1 h4
    have m1 := f.2.1 (po c) h1.1 h1.2
    have m2 := f.2.1 (po e) h3.1 h3.2
    have k1 := b.1.mono (q := po c + 1) (r := P) (by omega) (by omega) (by omega)
    have k2 := b.1.mono (q := po e + 1) (r := P) (by omega) (by omega) (by omega)
    have := b.1.2.2.2.2.2.2 i j (by omega) (by omega) (by omega) (by omega)
    rw [ei, ej] at this
    exact this q
  · intro q
    have := q (fun x => Bd w h sh st Ch x → po x = po c) (fun n hn d md ud hd e me ue be => ?_) (fun _ => rfl) he
    · exact this.symm
    · have nf := (b.2.1 n hn (by have := (cok n hn).1; omega) (b.2.2.1 n hn)).1
      have e1 := nf d md ud
      have e2 := nf e me ue
      have e3 := hd ⟨(mem_NB.1 md).1, ud, n, hn, md⟩
      omega
theorem BS.fit {w h sh P lg : Int} {st number hi un po rs uk ps cs : Int → Int} {Ch : Int → Prop} (ok : okB w h sh) (cok : ChOk w h sh st Ch) (b : BS w h sh st number hi un Ch P lg po rs uk ps cs) : lg ≤ 16 ↔ Fit w h sh st Ch := by
  have f := b.facts ok cok
  have key : ∀ c, Bd w h sh st Ch c → sumL (cellsL (w * h)) (fun e => iB (Bd w h sh st Ch e ∧ Cn w h sh st Ch c e)) = ps (po c + 1) - ps (po c) := by
    intro c hc
    obtain ⟨h1, h2⟩ := f.2.2.1 c hc
    rw [← (b.nd ok cok h1).2.2]
    have e1 : ((CL ps cs (po c)).length : Int) = sumL (CL ps cs (po c)) (fun _ => 1) := by
      rw [sumL_const (k := 1) (fun _ _ => rfl)]; omega
    have pm : (CL ps cs (po c)).Perm ((cellsL (w * h)).filter (fun e => dB (Bd w h sh st Ch e ∧ Cn w h sh st Ch c e))) := by
      refine perm_mem (b.nd ok cok h1).2.1 (cells_nd.sublist List.filter_sublist) (fun e => ?_)
      rw [List.mem_filter, mem_cells, dB_iff]
      constructor
      · intro m
        obtain ⟨k1, k2⟩ := f.2.2.2.1 _ e h1.1 h1.2 m
        exact ⟨k1.1, k1, (b.cn ok cok hc k1).1 k2.symm⟩
      · rintro ⟨-, k1, k2⟩
        have := (f.2.2.1 e k1).2
        rw [← (b.cn ok cok hc k1).2 k2] at this
        exact this
    rw [e1, sumL_perm pm, sumL_filter]
    refine sumL_congr (fun e _ => ?_)
    by_cases k : Bd w h sh st Ch e ∧ Cn w h sh st Ch c e
    · rw [iB_t k, if_pos (dB_iff.2 k)]
    · rw [iB_f k, if_neg (fun y => k (dB_iff.1 y))]
  obtain ⟨l0, l1, l2⟩ := b.2.2.2.1
  constructor
  · intro y c hc
    rw [key c hc]
    obtain ⟨h1, h2⟩ := f.2.2.1 c hc
    have := l1 (po c) h1.1 h1.2
    omega
  · intro y
    rcases l2 with e | ⟨q, q0, q1, e⟩
    · omega
    · have fq := f.2.1 q q0 q1
      have m : cs (ps q) ∈ CL ps cs q := mem_CL.2 ⟨ps q, by omega, by omega, rfl⟩
      obtain ⟨k1, k2⟩ := f.2.2.2.1 q _ q0 q1 m
      have := y _ k1
      rw [key _ k1, k2] at this
      omega
theorem s_fill34 {post : (Int → Int) → Prop} {a : Int → Int} {v : Int} (hp : ∀ b : Int → Int, (∀ j, 0 ≤ j → j < 17 → b j = v) → post b) : P_J7_fill_53178_34 post a v := by
  unfold P_J7_fill_53178_34
  refine ⟨fun n x b => n = (17 - x).toNat ∧ 0 ≤ x ∧ x ≤ 17 ∧ ∀ j, 0 ≤ j → j < x → b j = v, ⟨_, rfl, by omega, by omega, fun j _ _ => by omega⟩, ?_⟩
  rintro n x b rx ⟨rfl, b1, b2, b3⟩
  refine ⟨fun q => hp b (fun j j0 j1 => b3 j j0 (by omega)), fun q => ⟨by omega, fun b' eb => nx (by omega) ⟨_, ?_, rfl, by omega, by omega, fun j j0 j1 => ?_⟩⟩⟩
  · omega
  · rw [eb]
    by_cases z : j = x
    · rw [z, upZ_s]
    · rw [upZ_n _ _ z]; exact b3 j j0 (by omega)
theorem s_fill40 {post : (Int → Int) → Prop} {a : Int → Int} {v : Int} (hp : ∀ b : Int → Int, (∀ j, 0 ≤ j → j < 16 → b j = v) → post b) : P_J7_fill_53178_40 post a v := by
  unfold P_J7_fill_53178_40
  refine ⟨fun n x b => n = (16 - x).toNat ∧ 0 ≤ x ∧ x ≤ 16 ∧ ∀ j, 0 ≤ j → j < x → b j = v, ⟨_, rfl, by omega, by omega, fun j _ _ => by omega⟩, ?_⟩
  rintro n x b rx ⟨rfl, b1, b2, b3⟩
  refine ⟨fun q => hp b (fun j j0 j1 => b3 j j0 (by omega)), fun q => ⟨by omega, fun b' eb => nx (by omega) ⟨_, ?_, rfl, by omega, by omega, fun j j0 j1 => ?_⟩⟩⟩
  · omega
  · rw [eb]
    by_cases z : j = x
    · rw [z, upZ_s]
    · rw [upZ_n _ _ z]; exact b3 j j0 (by omega)
theorem s_fill41 {post : (Int → Int) → Prop} {a : Int → Int} {v : Int} (hp : ∀ b : Int → Int, (∀ j, 0 ≤ j → j < 16 → b j = v) → post b) : P_J7_fill_53178_41 post a v := by
  unfold P_J7_fill_53178_41
  refine ⟨fun n x b => n = (16 - x).toNat ∧ 0 ≤ x ∧ x ≤ 16 ∧ ∀ j, 0 ≤ j → j < x → b j = v, ⟨_, rfl, by omega, by omega, fun j _ _ => by omega⟩, ?_⟩
  rintro n x b rx ⟨rfl, b1, b2, b3⟩
  refine ⟨fun q => hp b (fun j j0 j1 => b3 j j0 (by omega)), fun q => ⟨by omega, fun b' eb => nx (by omega) ⟨_, ?_, rfl, by omega, by omega, fun j j0 j1 => ?_⟩⟩⟩
  · omega
  · rw [eb]
    by_cases z : j = x
    · rw [z, upZ_s]
    · rw [upZ_n _ _ z]; exact b3 j j0 (by omega)
theorem s_sizeOf {ps : Int → Int} {p : Int} {post : Int → Prop} (h0 : 0 ≤ p ∧ p < 144) (h1 : 0 ≤ ps p ∧ ps p ≤ 144 ∧ 0 ≤ ps (p + 1) ∧ ps (p + 1) ≤ 144) (hp : post (ps (p + 1) - ps p)) : P_X1_sizeOf post ps p := by
  unfold P_X1_sizeOf
  refine ⟨by omega, fun v e _ => ⟨by omega, fun v2 e2 _ => ⟨by omega, ?_⟩⟩⟩
  rw [e, e2]
  exact hp
theorem s_clear {p : Int} {ps pS ta as gm gs : Int → Int} {post : (Int → Int) → (Int → Int) → (Int → Int) → (Int → Int) → (Int → Int) → Prop} (h0 : 0 ≤ p ∧ p < 144) (h1 : 0 ≤ ps p ∧ ps p ≤ ps (p + 1) ∧ ps (p + 1) ≤ 144)
    (hp : ∀ ta' as' gm' gs' : Int → Int, (∀ m, 0 ≤ m → m ≤ ps (p + 1) - ps p → ta' (ps p + p + m) = 0) → (∀ j, j < ps p + p ∨ ps p + p + (ps (p + 1) - ps p) < j → ta' j = ta j) → (∀ j, 0 ≤ j → j < 17 → as' j = 0) → (∀ j, 0 ≤ j → j < 16 → gm' j = 0 ∧ gs' j = 0) → post (upZ pS p 0) ta' as' gm' gs') : P_X9_clear post p ps pS ta as gm gs := by
  unfold P_X9_clear
  refine ⟨fun n x ta' => n = (ps (p + 1) - ps p + 1 - x).toNat ∧ 0 ≤ x ∧ x ≤ ps (p + 1) - ps p + 1 ∧ (∀ m, 0 ≤ m → m < x → ta' (ps p + p + m) = 0) ∧ (∀ j, j < ps p + p ∨ ps p + p + (ps (p + 1) - ps p) < j → ta' j = ta j), ⟨_, rfl, by omega, by omega, fun m _ _ => by omega, fun _ _ => rfl⟩, ?_⟩
  rintro n x ta' rx ⟨rfl, b1, b2, b3, b4⟩
  refine s_sizeOf h0 (by omega) (fun _ => ⟨fun z => ?_, fun z => ?_⟩)
  · refine s_fill34 (fun as' ha => s_fill40 (fun gm' hm => s_fill41 (fun gs' hs => ⟨by omega, fun pS' ep => ?_⟩)))
    rw [ep]
    exact hp _ _ _ _ (fun m m0 m1 => b3 m m0 (by omega)) b4 ha (fun j j0 j1 => ⟨hm j j0 j1, hs j j0 j1⟩)
  · unfold P_X9_tallyStart
    refine ⟨by omega, fun v ev rv => ⟨by omega, fun _ => ⟨by omega, fun ta2 et => nx (by omega) ⟨_, ?_, rfl, by omega, by omega, fun m m0 m1 => ?_, fun j hj => ?_⟩⟩⟩⟩
    · omega
    · rw [et, ev]
      by_cases e : m = x
      · rw [e, upZ_s]
      · rw [upZ_n _ _ (by omega)]; exact b3 m m0 (by omega)
    · rw [et, ev, upZ_n _ _ (by omega)]
      exact b4 j hj
