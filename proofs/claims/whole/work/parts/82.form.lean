/-! the class puts the cells of a part into groups -/
noncomputable def LKc (w h sh : Int) (Ch : Int → Prop) (c : Int) : List Int := (NB w h sh c).filter (fun n => dB (Ch n))
def LKl (links le : Int → Int) (g : Int) : List Int := seg links (8 * g) (le g - 8 * g).toNat
theorem LKc_len {w h sh c : Int} {Ch : Int → Prop} (ok : okB w h sh) (hc : 0 ≤ c ∧ c < w * h) : (LKc w h sh Ch c).length ≤ 8 := Nat.le_trans List.filter_sublist.length_le (NB_len ok hc)
theorem seg_up {f : Int → Int} {b j v : Int} {k : Nat} (h : j < b ∨ b + k ≤ j) : seg (upZ f j v) b k = seg f b k := seg_congr (fun i hi => upZ_n f v (by omega))
theorem s_listLinks {w h sh N c : Int} {near nearEnd ch links le : Int → Int} {Ch : Int → Prop} {post : (Int → Int) → (Int → Int) → Prop} (ok : okB w h sh) (g : GeoD w h sh near nearEnd) (hch : ∀ c, 0 ≤ c → c < w * h → (ch c = 0 ∨ ch c = 1) ∧ (ch c = 1 ↔ Ch c)) (hc : 0 ≤ c ∧ c < w * h) (hN : 0 ≤ N ∧ N ≤ 15)
    (hp : ∀ links' : Int → Int, (∀ j, j < 8 * N → links' j = links j) → seg links' (8 * N) (LKc w h sh Ch c).length = LKc w h sh Ch c → post links' (upZ le N (8 * N + (LKc w h sh Ch c).length))) : P_X9_listLinks post N near nearEnd ch links le c := by
  have hle := wh_le ok
  have hge := wh_ge ok
  have hl := NB_len ok hc
  have ge := (g c hc.1 hc.2).1
  unfold P_X9_listLinks
  refine ⟨by omega, fun x2 e2 => ⟨by omega, fun x3 e3 => ⟨fun n e x lk => n = (nearEnd c - x).toNat ∧ 8 * c ≤ x ∧ x ≤ nearEnd c ∧ e = 8 * N + (((NB w h sh c).take (x - 8 * c).toNat).filter (fun n => dB (Ch n))).length ∧ (∀ j, j < 8 * N → lk j = links j) ∧ seg lk (8 * N) (((NB w h sh c).take (x - 8 * c).toNat).filter (fun n => dB (Ch n))).length = ((NB w h sh c).take (x - 8 * c).toNat).filter (fun n => dB (Ch n)), ⟨_, rfl, by omega, by omega, by rw [e3, show (c * 8 - 8 * c).toNat = 0 by omega]; simp; omega, fun _ _ => rfl, by rw [e3, show (c * 8 - 8 * c).toNat = 0 by omega]; rfl⟩, ?_⟩⟩⟩
  rintro n e x lk re rx ⟨rfl, b1, b2, b3, b4, b5⟩
  have flen : (((NB w h sh c).take (x - 8 * c).toNat).filter (fun n => dB (Ch n))).length ≤ ((NB w h sh c).take (x - 8 * c).toNat).length := List.filter_sublist.length_le
  have tlen : ((NB w h sh c).take (x - 8 * c).toNat).length ≤ (x - 8 * c).toNat := List.length_take_le _ _
  refine ⟨by omega, fun v ev rv => ⟨fun z => ⟨by omega, fun le' el => ?_⟩, fun z => ?_⟩⟩
  · rw [row_end g hc (by omega)] at b3 b5
    rw [el, b3]
    exact hp lk b4 b5
  · obtain ⟨m, t, -⟩ := row_at g hc b1 (by omega)
    have mc := nb_cell m
    have e1 : (x + 1 - 8 * c).toNat = (x - 8 * c).toNat + 1 := by omega
    refine ⟨by omega, fun v1 e1' r1 => ⟨by omega, fun v2 e2' h2 => ?_⟩⟩
    subst e1'
    have hh := hch _ mc.1 mc.2
    rw [← e2'] at hh
    refine exJ2i ⟨fun z1 _ => nx (by omega) ⟨_, ?_, rfl, by omega, by omega, ?_⟩, fun z1 => ⟨by omega, fun v3 e3' r3 => ⟨by omega, fun lk' elk => ⟨by omega, fun x4 e4 _ => nx (by omega) ⟨_, ?_, rfl, by omega, by omega, ?_⟩⟩⟩⟩⟩
    · omega
    · have nc : ¬ dB (Ch (near x)) = true := fun y => by have := hh.2.2 (dB_iff.1 y); omega
      rw [e1, t, List.filter_append, List.filter_cons, if_neg nc]
      simp only [List.filter_nil, List.append_nil]
      exact ⟨b3, b4, b5⟩
    · omega
    · have yc : dB (Ch (near x)) = true := dB_iff.2 (hh.2.1 (by omega))
      rw [e1, t, List.filter_append, List.filter_cons, if_pos yc]
      simp only [List.filter_nil, List.length_append, List.length_cons, List.length_nil]
      refine ⟨by omega, fun j hj => by rw [elk, upZ_n _ _ (by omega)]; exact b4 j hj, ?_⟩
      rw [seg_succ, elk, b3, seg_up (by omega), b5, upZ_s, e3']
theorem s_hasLinks {N g k : Int} {links : Int → Int} {post : Int → Prop} (hN : 0 ≤ N ∧ N ≤ 16) (hg : 0 ≤ g ∧ g < N) (hk : 0 ≤ k ∧ k ≤ 8) (h1 : seg links (8 * g) k.toNat = seg links (8 * N) k.toNat → post 1) (h0 : post 0) : P_X9_hasLinksOfTheLast post N links g k := by
  unfold P_X9_hasLinksOfTheLast
  refine ⟨fun n x => n = (k - x).toNat ∧ 0 ≤ x ∧ x ≤ k ∧ ∀ i, 0 ≤ i → i < x → links (8 * g + i) = links (8 * N + i), ⟨_, rfl, by omega, by omega, fun i _ _ => by omega⟩, ?_⟩
  rintro n x rx ⟨rfl, b1, b2, b3⟩
  refine ⟨fun z => h1 (seg_congr (fun i hi => b3 i (by omega) (by omega))), fun z => ⟨by omega, fun v ev rv => ⟨by omega, fun v2 ev2 rv2 => ⟨fun z1 => nx (by omega) ⟨_, ?_, rfl, by omega, by omega, fun i i0 i1 => ?_⟩, fun _ => h0⟩⟩⟩⟩
  · omega
  · by_cases e : i = x
    · rw [e, Int.mul_comm 8 g, Int.mul_comm 8 N, ← ev, ← ev2]
      exact z1
    · exact b3 i i0 (by omega)
theorem s_groupLike {N : Int} {links le : Int → Int} {post : Int → Prop} (hN : 0 ≤ N ∧ N ≤ 15) (hl : ∀ g, 0 ≤ g → g ≤ N → 8 * g ≤ le g ∧ le g ≤ 8 * g + 8) (h1 : ∀ g, 0 ≤ g → g < N → LKl links le g = LKl links le N → post g) (h0 : post N) : P_X9_groupLikeTheLast post N links le := by
  unfold P_X9_groupLikeTheLast
  have hlN := hl N hN.1 (Int.le_refl _)
  refine ⟨by omega, fun v ev rv => ⟨by omega, fun k ek => ⟨fun n x => n = (N - x).toNat ∧ 0 ≤ x ∧ x ≤ N, ⟨_, rfl, by omega, by omega⟩, ?_⟩⟩⟩
  rintro n x rx ⟨rfl, b1, b2⟩
  refine ⟨fun z => h0, fun z => ?_⟩
  have hlx := hl x b1 b2
  refine ⟨by omega, fun v1 e1 r1 => ⟨by omega, exJ0 ⟨fun z1 => nx (by omega) ⟨_, ?_, rfl, by omega, by omega⟩, fun z1 => s_hasLinks ⟨by omega, by omega⟩ ⟨b1, by omega⟩ ⟨by omega, by omega⟩ (fun y _ => ⟨fun z2 => by omega, fun z2 => h1 x b1 (by omega) ?_⟩) (fun _ => ⟨fun z2 => nx (by omega) ⟨_, ?_, rfl, by omega, by omega⟩, fun z2 => by omega⟩)⟩⟩⟩
  · omega
  · unfold LKl
    rw [show (le x - 8 * x).toNat = k.toNat by omega, show (le N - 8 * N).toNat = k.toNat by omega]
    exact y
  · omega
/-- groups of a list of cells -/
def GRp (w h sh : Int) (Ch : Int → Prop) (L : List Int) (N : Int) (go gz links le : Int → Int) : Prop :=
  (0 ≤ N ∧ N ≤ L.length) ∧ (∀ c ∈ L, 0 ≤ go c ∧ go c < N) ∧ (∀ g, 0 ≤ g → g < N → (gz g = (Gl L go g).length ∧ 1 ≤ gz g) ∧ (8 * g ≤ le g ∧ le g ≤ 8 * g + 8) ∧ ∀ c ∈ Gl L go g, LKl links le g = LKc w h sh Ch c)
theorem Gl_snoc {L : List Int} {go : Int → Int} {d g g' : Int} (hd : ¬ d ∈ L) : Gl (L ++ [d]) (upZ go d g') g = Gl L go g ++ (if g' = g then [d] else []) := by
  unfold Gl
  rw [List.filter_append, List.filter_cons, upZ_s]
  have e : L.filter (fun c => decide (upZ go d g' c = g)) = L.filter (fun c => decide (go c = g)) := List.filter_congr (fun c m => by rw [upZ_n go g' (show c ≠ d from fun e => hd (e ▸ m))])
  rw [e]
  by_cases k : g' = g
  · rw [if_pos (decide_eq_true k), if_pos k]
    simp
  · rw [if_neg (by simpa using k), if_neg k]
    simp
theorem s_formGroups {w h sh p N0 : Int} {near nearEnd ch ps cs go0 gz0 links0 le0 : Int → Int} {Ch : Int → Prop} {post : Int → (Int → Int) → (Int → Int) → (Int → Int) → (Int → Int) → Prop} (ok : okB w h sh) (g : GeoD w h sh near nearEnd) (hch : ∀ c, 0 ≤ c → c < w * h → (ch c = 0 ∨ ch c = 1) ∧ (ch c = 1 ↔ Ch c)) (hp0 : 0 ≤ p ∧ p < 144) (hs : 0 ≤ ps p ∧ ps p ≤ ps (p + 1) ∧ ps (p + 1) ≤ 144) (h16 : ps (p + 1) - ps p ≤ 16) (hcs : ∀ i, ps p ≤ i → i < ps (p + 1) → 0 ≤ cs i ∧ cs i < w * h) (hdi : ∀ i j, ps p ≤ i → i < j → j < ps (p + 1) → cs i ≠ cs j)
    (hp : ∀ (N : Int) (go gz links le : Int → Int), GRp w h sh Ch (seg cs (ps p) (ps (p + 1) - ps p).toNat) N go gz links le → post N go gz links le) : P_X9_formGroups post N0 p near nearEnd ch ps cs go0 gz0 links0 le0 := by
  have hle := wh_le ok
  unfold P_X9_formGroups
  refine ⟨by omega, fun a ea ra => ⟨fun n x N go gz lk le => n = (ps (p + 1) - x).toNat ∧ ps p ≤ x ∧ x ≤ ps (p + 1) ∧ GRp w h sh Ch (seg cs (ps p) (x - ps p).toNat) N go gz lk le, ⟨_, rfl, by omega, by omega, ?_⟩, ?_⟩⟩
  · rw [ea, show (ps p - ps p).toNat = 0 by omega]
    exact ⟨⟨by omega, by rw [seg_len]; omega⟩, fun c m => by rw [seg_zero] at m; exact absurd m List.not_mem_nil, fun g _ _ => by omega⟩
  rintro n x N go gz lk le rx ⟨rfl, b1, b2, b3⟩
  refine ⟨by omega, fun v ev rv => ⟨fun z => ?_, fun z => ⟨by omega, fun d ed rd => ?_⟩⟩⟩
  · have : x = ps (p + 1) := by omega
    subst this
    exact hp _ _ _ _ _ b3
  obtain ⟨⟨a1, a2⟩, a3, a4⟩ := b3
  rw [seg_len] at a2
  have hd : 0 ≤ d ∧ d < w * h := by rw [ed]; exact hcs x b1 (by omega)
  have hll := LKc_len (Ch := Ch) ok hd
  have dn : ¬ d ∈ seg cs (ps p) (x - ps p).toNat := by
    intro m
    obtain ⟨i, i0, i1, ei⟩ := mem_seg.1 m
    exact hdi i x i0 (by omega) (by omega) (by rw [ei, ed])
  have sseg : seg cs (ps p) (x + 1 - ps p).toNat = seg cs (ps p) (x - ps p).toNat ++ [d] := by
    rw [show (x + 1 - ps p).toNat = (x - ps p).toNat + 1 by omega, seg_succ, ed, show ps p + (((x - ps p).toNat : Nat) : Int) = x by omega]
  refine s_listLinks ok g hch hd ⟨a1, by omega⟩ (fun lk' l1 l2 => ?_)
  have leN : ∀ g, 0 ≤ g → g ≤ N → 8 * g ≤ upZ le N (8 * N + (LKc w h sh Ch d).length) g ∧ upZ le N (8 * N + (LKc w h sh Ch d).length) g ≤ 8 * g + 8 := by
    intro g g0 g1
    by_cases e : g = N
    · rw [e, upZ_s]; omega
    · rw [upZ_n _ _ e]; exact (a4 g g0 (by omega)).2.1
  have lkN : LKl lk' (upZ le N (8 * N + (LKc w h sh Ch d).length)) N = LKc w h sh Ch d := by
    unfold LKl
    rw [upZ_s, show (8 * N + ((LKc w h sh Ch d).length : Int) - 8 * N).toNat = (LKc w h sh Ch d).length by omega]
    exact l2
  have lkg : ∀ g, 0 ≤ g → g < N → LKl lk' (upZ le N (8 * N + (LKc w h sh Ch d).length)) g = LKl lk le g := by
    intro g g0 g1
    unfold LKl
    have := (a4 g g0 g1).2.1
    rw [upZ_n _ _ (show g ≠ N by omega)]
    exact seg_congr (fun i hi => l1 _ (by omega))
  refine s_groupLike ⟨a1, by omega⟩ leN (fun g' g0 g1 hlk => ?_) ?_
  · -- one that is there
    intro rg
    refine ⟨fun N' gz' => N' = N ∧ gz' = gz, ⟨fun _ => ⟨rfl, rfl⟩, fun y => by omega⟩, ?_⟩
    rintro N' gz' ⟨rfl, rfl⟩
    have ag := a4 g' g0 g1
    have gl : (Gl (seg cs (ps p) (x - ps p).toNat) go g').length ≤ (seg cs (ps p) (x - ps p).toNat).length := List.filter_sublist.length_le
    rw [seg_len] at gl
    refine ⟨by omega, fun v1 e1 r1 => ⟨by omega, by omega, fun gz2 eg => ⟨by omega, fun go2 eo => nx (by omega) ⟨_, ?_, rfl, by omega, by omega, ?_⟩⟩⟩⟩
    · omega
    · rw [sseg]
      refine ⟨⟨a1, by rw [List.length_append, seg_len]; simp; omega⟩, fun c m => ?_, fun g q0 q1 => ?_⟩
      · rw [eo]
        by_cases e : c = d
        · rw [e, upZ_s]; omega
        · rw [upZ_n _ _ e]
          rcases List.mem_append.1 m with m | m
          · exact a3 c m
          · exact absurd (List.mem_singleton.1 m) e
      · rw [eo, Gl_snoc dn]
        obtain ⟨⟨c1, c2⟩, c3, c4⟩ := a4 g q0 q1
        refine ⟨?_, leN g q0 (by omega), fun c m => ?_⟩
        · rw [eg]
          by_cases e : g' = g
          · subst e
            rw [upZ_s, if_pos rfl, List.length_append, e1]
            simp
            omega
          · rw [upZ_n _ _ (fun y => e y.symm), if_neg e, List.append_nil]
            exact ⟨c1, c2⟩
        · rw [lkg g q0 q1]
          rcases List.mem_append.1 m with m | m
          · exact c4 c m
          · by_cases e : g' = g
            · subst e
              rw [if_pos rfl] at m
              rw [List.mem_singleton.1 m, ← lkg g' q0 q1, hlk, lkN]
            · rw [if_neg e] at m
              exact absurd m List.not_mem_nil
  · -- a new one
    intro rg
    refine ⟨fun N' gz' => N' = N + 1 ∧ gz' = upZ gz N 0, ⟨fun y => absurd rfl y, fun _ => ⟨by omega, fun gz1 eg1 => ⟨by omega, fun N1 eN1 => ⟨eN1, eg1⟩⟩⟩⟩, ?_⟩
    rintro N' gz' ⟨rfl, rfl⟩
    have g0 : Gl (seg cs (ps p) (x - ps p).toNat) go N = [] := by
      refine List.eq_nil_iff_forall_not_mem.2 (fun c m => ?_)
      obtain ⟨m1, m2⟩ := mem_Gl.1 m
      have := a3 c m1
      omega
    refine ⟨by omega, fun v1 e1 r1 => ⟨by omega, by rw [upZ_s] at e1; omega, fun gz2 eg => ⟨by omega, fun go2 eo => nx (by omega) ⟨_, ?_, rfl, by omega, by omega, ?_⟩⟩⟩⟩
    · omega
    · rw [sseg]
      rw [upZ_s] at e1
      refine ⟨⟨by omega, by rw [List.length_append, seg_len]; simp; omega⟩, fun c m => ?_, fun g q0 q1 => ?_⟩
      · rw [eo]
        by_cases e : c = d
        · rw [e, upZ_s]; omega
        · rw [upZ_n _ _ e]
          rcases List.mem_append.1 m with m | m
          · have := a3 c m; omega
          · exact absurd (List.mem_singleton.1 m) e
      · rw [eo, Gl_snoc dn, eg]
        by_cases e : N = g
        · subst e
          rw [upZ_s, if_pos rfl, g0]
          refine ⟨⟨by simp; omega, by omega⟩, leN N q0 (Int.le_refl _), fun c m => ?_⟩
          rw [lkN]
          have : c = d := by simpa using m
          rw [this]
        · rw [upZ_n _ _ (fun y => e y.symm), upZ_n _ _ (fun y => e y.symm), if_neg e, List.append_nil]
          obtain ⟨c0, c3, c4⟩ := a4 g q0 (by omega)
          exact ⟨c0, leN g q0 (by omega), fun c m => by rw [lkg g q0 (by omega)]; exact c4 c m⟩
