/-! the class: sums of parts, and whether a verdict is sure -/
def Lb (f : Int → List Int) (x but : Int) : List (List Int) := ((List.range x.toNat).filter (fun i : Nat => decide (¬ (i : Int) = but))).map (fun i : Nat => f (i : Int))
theorem Lb_succ {x but : Int} {f : Int → List Int} (hx : 0 ≤ x) : Lb f (x + 1) but = if x = but then Lb f x but else Lb f x but ++ [f x] := by
  unfold Lb
  rw [show (x + 1).toNat = x.toNat + 1 by omega, List.range_succ, List.filter_append, List.map_append]
  have ex : ((x.toNat : Nat) : Int) = x := by omega
  by_cases k : x = but
  · rw [if_pos k]
    rw [List.filter_cons, if_neg (by rw [decide_eq_true_eq, ex]; exact fun q => q k)]
    simp
  · rw [if_neg k]
    rw [List.filter_cons, if_pos (by rw [decide_eq_true_eq, ex]; exact k)]
    simp [ex]
theorem Lb_split {p q : Int} {f : Int → List Int} (h0 : 0 ≤ p) (h1 : p < q) : ∃ a b, (List.range q.toNat).map (fun i : Nat => f (i : Int)) = a ++ f p :: b ∧ Lb f q p = a ++ b := by
  have hm : p.toNat ∈ List.range q.toNat := List.mem_range.2 (by omega)
  obtain ⟨a, b, e⟩ := List.append_of_mem hm
  have nd : (List.range q.toNat).Nodup := List.nodup_range
  rw [e] at nd
  have nd' := List.nodup_append.1 nd
  have nb := List.nodup_cons.1 nd'.2.1
  have ep : ((p.toNat : Nat) : Int) = p := by omega
  refine ⟨a.map (fun i : Nat => f (i : Int)), b.map (fun i : Nat => f (i : Int)), ?_, ?_⟩
  · rw [e, List.map_append, List.map_cons, ep]
  · unfold Lb
    rw [e, List.filter_append, List.filter_cons, if_neg (by rw [decide_eq_true_eq, ep]; exact fun k => k rfl), List.map_append]
    rw [List.filter_eq_self.2 (fun i mi => ?_), List.filter_eq_self.2 (fun i mi => ?_)]
    · rw [decide_eq_true_eq]
      intro k
      have : i = p.toNat := by omega
      exact nb.1 (this ▸ mi)
    · rw [decide_eq_true_eq]
      intro k
      have : i = p.toNat := by omega
      exact nd'.2.2 i mi p.toNat List.mem_cons_self this
theorem Lb_none {q but : Int} {f : Int → List Int} (h : but < 0) : Lb f q but = (List.range q.toNat).map (fun i : Nat => f (i : Int)) := by
  unfold Lb
  rw [List.filter_eq_self.2 (fun i _ => by rw [decide_eq_true_eq]; omega)]
theorem Lb_le {q but : Int} {f : Int → List Int} : (Lb f q but).flatten.length ≤ ((List.range q.toNat).map (fun i : Nat => f (i : Int))).flatten.length := flat_le (List.Sublist.map _ List.filter_sublist)
theorem s_sumUp {w h sh P sk free : Int} {st R ps cs pS : Int → Int} {S nS : Int → Int64} {Ch : Int → Prop} {post : (Int → Int64) → (Int → Int64) → Prop} (hP : 0 ≤ P ∧ P ≤ 144) (hf : -1 ≤ free ∧ free ≤ 144) (hS : ∀ p, 0 ≤ p → p < P → p ≠ sk → sm (pS p) ∧ (∀ m, 0 ≤ m → (tb (pS p) m ↔ mS w h sh st R Ch (CL ps cs p) m)) ∧ (CL ps cs p).length ≤ 16)
    (hp : ∀ S' nS' : Int → Int64, (∀ t, 0 ≤ t → t < 192 → (SB S' t ↔ ∃ k, RS w h sh st R Ch (Lb (CL ps cs) P sk) k ∧ 0 ≤ t - k ∧ t - k ≤ free)) → post S' nS') : P_X6_sumUp post P pS S nS sk free := by
  unfold P_X6_sumUp
  refine ⟨fun n x S' => n = (3 - x).toNat ∧ 0 ≤ x ∧ x ≤ 3 ∧ ∀ t, 0 ≤ t → t < 64 * x → (SB S' t ↔ t ≤ free), ⟨_, rfl, by omega, by omega, fun t _ _ => by omega⟩, ?_⟩
  rintro n x S1 rx ⟨rfl, b1, b2, b3⟩
  refine ⟨fun z => ?_, fun z => ⟨by omega, fun bits eb => ?_⟩⟩
  rotate_left
  · have fin : ∀ v : Int64, (∀ j, 0 ≤ j → j < 64 → (v.toBitVec.getLsbD j.toNat = true ↔ 64 * x + j ≤ free)) → ((0 ≤ x ∧ x < 3) ∧ (∀ O_sums_40 : Int → Int64, O_sums_40 = upZ S1 x v → (inR (x + 1) ∧ (∀ x3_42 : Int, x3_42 = (x + 1) → (∃ n_43 : Nat, n_43 < (3 - x).toNat ∧ (n_43 = (3 - x3_42).toNat ∧ 0 ≤ x3_42 ∧ x3_42 ≤ 3 ∧ ∀ t, 0 ≤ t → t < 64 * x3_42 → (SB O_sums_40 t ↔ t ≤ free))))))) := by
      intro v hv
      refine ⟨by omega, fun S2 eS => nx (by omega) ⟨_, ?_, rfl, by omega, by omega, fun t t0 t1 => ?_⟩⟩
      · omega
      · obtain ⟨i, j, et, j0, j1, ei⟩ := SB_split (S := S1) (t := t)
        by_cases e : i = x
        · rw [et, e, SB_at ⟨j0, j1⟩, eS, upZ_s, hv j j0 j1]
        · have : SB S2 t ↔ SB S1 t := by
            unfold SB
            rw [eS, upZ_n _ _ (by omega)]
          rw [this]
          exact b3 t t0 (by omega)
    refine ⟨fun v => ∀ j, 0 ≤ j → j < 64 → (v.toBitVec.getLsbD j.toNat = true ↔ 64 * x + j ≤ free), ⟨fun z1 => ⟨fun z2 j j0 j1 => ?_, fun z2 j j0 j1 => ?_⟩, fun z1 j j0 j1 => ?_⟩, fin⟩
    · have : (0 : Int64).toBitVec.getLsbD j.toNat = false := by
        show (BitVec.ofNat 64 0).getLsbD _ = false
        exact BitVec.getLsbD_zero
      rw [this]
      exact ⟨fun y => absurd y Bool.false_ne_true, fun y => by omega⟩
    · rw [low_bits ⟨by omega, by omega⟩ ⟨j0, j1⟩]
      omega
    · rw [full_bits (by omega)]
      exact ⟨fun _ => by omega, fun _ => rfl⟩
  have i0 : ∀ t, 0 ≤ t → t < 192 → (SB S1 t ↔ ∃ k, RS w h sh st R Ch (Lb (CL ps cs) 0 sk) k ∧ 0 ≤ t - k ∧ t - k ≤ free) := by
    intro t t0 t1
    rw [b3 t t0 (by omega)]
    constructor
    · intro y
      exact ⟨0, rfl, by omega, by omega⟩
    · rintro ⟨k, y1, y2, y3⟩
      have : k = 0 := y1
      omega
  refine ⟨fun n p S' nS' => n = (P - p).toNat ∧ 0 ≤ p ∧ p ≤ P ∧ ∀ t, 0 ≤ t → t < 192 → (SB S' t ↔ ∃ k, RS w h sh st R Ch (Lb (CL ps cs) p sk) k ∧ 0 ≤ t - k ∧ t - k ≤ free), ⟨_, rfl, by omega, by omega, i0⟩, ?_⟩
  clear b3 i0
  rintro n p S2 nS2 rp ⟨rfl, c1, c2, c3⟩
  refine ⟨fun z1 => ?_, fun z1 => ?_⟩
  · have e : p = P := by omega
    subst e
    exact hp _ _ c3
  have don : ∀ S3 : Int → Int64, ∀ nS3 : Int → Int64, (∀ t, 0 ≤ t → t < 192 → (SB S3 t ↔ ∃ k, RS w h sh st R Ch (Lb (CL ps cs) (p + 1) sk) k ∧ 0 ≤ t - k ∧ t - k ≤ free)) → (inR (p + 1) ∧ (∀ x3_24 : Int, x3_24 = (p + 1) → (∃ n_25 : Nat, n_25 < (P - p).toNat ∧ (n_25 = (P - x3_24).toNat ∧ 0 ≤ x3_24 ∧ x3_24 ≤ P ∧ ∀ t, 0 ≤ t → t < 192 → (SB S3 t ↔ ∃ k, RS w h sh st R Ch (Lb (CL ps cs) x3_24 sk) k ∧ 0 ≤ t - k ∧ t - k ≤ free))))) := by
    intro S3 nS3 h3
    refine nx (by omega) ⟨_, ?_, rfl, by omega, by omega, h3⟩
    omega
  have sb2 : ∀ t, SB S2 t → 0 ≤ t → t < 192 → ∃ k, RS w h sh st R Ch (Lb (CL ps cs) p sk) k ∧ 0 ≤ t - k ∧ t - k ≤ free := fun t y t0 t1 => (c3 t t0 t1).1 y
  refine ⟨_, ⟨fun z2 => don S2 nS2 (fun t t0 t1 => by rw [Lb_succ c1, if_pos z2]; exact c3 t t0 t1), fun z2 => ⟨by omega, fun v ev rv => ⟨fun z3 => don S2 nS2 (fun t t0 t1 => ?_), fun z3 => ⟨by omega, fun v2 ev2 rv2 => ?_⟩⟩⟩⟩, fun _ _ jj => jj⟩
  · obtain ⟨s1, s2, s3⟩ := hS p c1 (by omega) z2
    rw [Lb_succ c1, if_neg z2, c3 t t0 t1]
    have one : ∀ m, 0 ≤ m → (mS w h sh st R Ch (CL ps cs p) m ↔ m = 0) := by
      intro m m0
      rw [← s2 m m0, ← ev, z3, show (1 : Int) = shlI 1 0 by decide, tb_shl (by omega) (by omega) m0]
    constructor
    · rintro ⟨k, y1, y2⟩
      exact ⟨k, RS.snoc.2 ⟨k, 0, y1, (one 0 (by omega)).2 rfl, by omega⟩, y2⟩
    · rintro ⟨k, y1, y2⟩
      obtain ⟨i, m, q1, q2, q3⟩ := RS.snoc.1 y1
      have : m = 0 := (one m (mS_rng q2).1).1 q2
      have e : k = i := by omega
      subst e
      exact ⟨k, q1, y2⟩
  · obtain ⟨s1, s2, s3⟩ := hS p c1 (by omega) z2
    subst ev2
    refine s_addSet s1 (fun S3 nS3 h3 => don S3 nS3 (fun t t0 t1 => ?_))
    rw [Lb_succ c1, if_neg z2, h3 t t0 t1]
    constructor
    · rintro ⟨m, m0, m1, y1, y2, y3⟩
      obtain ⟨k, q1, q2, q3⟩ := (c3 (t - m) (by omega) (by omega)).1 y3
      exact ⟨k + m, RS.snoc.2 ⟨k, m, q1, (s2 m m0).1 y1, rfl⟩, by omega, by omega⟩
    · rintro ⟨k, y1, y2, y3⟩
      obtain ⟨i, m, q1, q2, q3⟩ := RS.snoc.1 y1
      have r1 := mS_rng q2
      have r2 := RS_rng q1
      exact ⟨m, r1.1, by omega, (s2 m r1.1).2 q2, by omega, (c3 (t - m) (by omega) (by omega)).2 ⟨i, q1, by omega, by omega⟩⟩
/-- the class's board -/
def DE (w h sh : Int) (near nearEnd mined number st ci un hi : Int → Int) (mines : Int) : Prop := okB w h sh ∧ GeoD w h sh near nearEnd ∧ DMi w h sh mined number mines ∧ DSt w h sh st ci un hi ∧ GSt w h sh mined number st
noncomputable abbrev Rn (w h sh : Int) (st mined : Int → Int) : Int → Int := fun n => sumL (NB w h sh n) (fun d => iU (st d) * mined d)
theorem BS.ru {w h sh P lg mines : Int} {near nearEnd mined ci st number hi un po rs uk ps cs : Int → Int} {Ch : Int → Prop} (D : DE w h sh near nearEnd mined number st ci un hi mines) (cok : ChOk w h sh st Ch) (b : BS w h sh st number hi un Ch P lg po rs uk ps cs) : RU w h sh st (Rn w h sh st mined) Ch rs uk := by
  obtain ⟨ok, geo, dm, ds, gs⟩ := D
  intro n hn
  have hc := (cok n hn).1
  obtain ⟨-, n1, n2⟩ := b.2.1 n hn (by omega) (b.2.2.1 n hn)
  have e1 := rest_eq dm ds gs hc.1 hc.2
  have e2 := ds.2.2.1 n hc.1 hc.2
  have mb : ∀ d ∈ NB w h sh n, 0 ≤ mined d ∧ mined d ≤ 1 := fun d md => by
    have hd := nb_cell md
    rcases dm.1 d hd.1 hd.2 with y | y <;> omega
  have p1 : 0 ≤ sumL (NB w h sh n) (fun d => iU (st d) * mined d) := sumL_pos (fun d md => Int.mul_nonneg (iU_b _).1 (mb d md).1)
  have p2 : 0 ≤ sumL (NB w h sh n) (fun d => iU (st d) * (1 - mined d)) := sumL_pos (fun d md => Int.mul_nonneg (iU_b _).1 (by have := mb d md; omega))
  have p3 : sumL (NB w h sh n) (fun d => iU (st d)) = sumL (NB w h sh n) (fun d => iU (st d) * (1 - mined d)) + sumL (NB w h sh n) (fun d => iU (st d) * mined d) := sumL_add (fun d _ => by rw [← Int.mul_add, show 1 - mined d + mined d = 1 by omega, Int.mul_one])
  refine ⟨?_, ?_, p1, ?_⟩
  · show rs n = sumL (NB w h sh n) (fun d => iU (st d) * mined d)
    omega
  · omega
  · show sumL (NB w h sh n) (fun d => iU (st d) * mined d) ≤ _
    omega
theorem DE.rm {w h sh mines : Int} {near nearEnd mined ci st number hi un : Int → Int} {Ch : Int → Prop} (D : DE w h sh near nearEnd mined number st ci un hi mines) : RM w h sh st (Rn w h sh st mined) mined Ch := ⟨D.2.2.1.1, fun _ _ => rfl⟩
theorem CLs_len {P : Int} {ps cs : Int → Int} (h0 : ps 0 = 0) (hP : 0 ≤ P) (hs : ∀ p, 0 ≤ p → p < P → ps p ≤ ps (p + 1)) : ((CLs P ps cs).flatten.length : Int) = ps P := by
  obtain ⟨n, rfl⟩ := Int.eq_ofNat_of_zero_le hP
  induction n with
  | zero =>
    show (0 : Int) = ps 0
    omega
  | succ n ih =>
    have e : CLs ((n + 1 : Nat) : Int) ps cs = CLs (n : Int) ps cs ++ [CL ps cs (n : Int)] := by
      unfold CLs
      rw [Int.toNat_natCast, Int.toNat_natCast, List.range_succ, List.map_append]
      rfl
    rw [e, List.flatten_append, List.length_append]
    have i := ih (by omega) (fun p p0 p1 => hs p p0 (by omega))
    have l : ((CL ps cs (n : Int)).length : Int) = ps ((n : Int) + 1) - ps n := by
      unfold CL
      rw [seg_len]
      have := hs n (by omega) (by omega)
      omega
    simp only [List.flatten_cons, List.flatten_nil, List.append_nil]
    rw [show ((n + 1 : Nat) : Int) = (n : Int) + 1 by omega]
    omega
theorem UL_len {w h sh : Int} {st ci un hi : Int → Int} (ds : DSt w h sh st ci un hi) : ((UL w h st).length : Int) = ci 0 + ci 1 := by
  have e : ((UL w h st).length : Int) = sumL (UL w h st) (fun _ => 1) := by
    rw [sumL_const (k := 1) (fun _ _ => rfl)]; omega
  rw [e, ← UL_sum, ds.2.1 0 (by omega) (by omega), ds.2.1 1 (by omega) (by omega)]
  refine sumL_add (fun c mc => ?_)
  have := ds.1 c (mem_cells.1 mc).1 (mem_cells.1 mc).2
  show (if st c ≤ 1 then (1 : Int) else 0) * 1 = (if st c = 0 then 1 else 0) + (if st c = 1 then 1 else 0)
  split <;> split <;> (try split) <;> omega
theorem s_freeD {w h sh P lg mines : Int} {near nearEnd mined ci st number hi un po rs uk ps cs : Int → Int} {Ch : Int → Prop} {post : Int → Prop} (D : DE w h sh near nearEnd mined number st ci un hi mines) (cok : ChOk w h sh st Ch) (b : BS w h sh st number hi un Ch P lg po rs uk ps cs) (hp : post ((FrL w h sh st Ch).length : Int)) : P_X1_freeCells post P ci ps := by
  have hle := wh_le D.1
  have f := b.facts D.1 cok
  have pl := b.pls D.1 cok
  have e1 := (UL_perm pl).length_eq
  rw [List.length_append] at e1
  have e2 := UL_len D.2.2.2.1
  have e3 := CLs_len (cs := cs) f.1.2.2.1 f.1.1 (fun p p0 p1 => by have := f.2.1 p p0 p1; omega)
  have e4 := PLs_len pl (by have := wh_ge D.1; omega)
  unfold P_X1_freeCells P_X2_unknownCells
  refine fun v1 h1 _ v2 h2 _ => ⟨by omega, fun _ => ⟨by omega, fun v3 h3 _ => ⟨by omega, ?_⟩⟩⟩
  have : v1 + v2 - v3 = ((FrL w h sh st Ch).length : Int) := by omega
  rw [this]
  exact hp
theorem left_b {w h sh mines : Int} {near nearEnd mined ci st number hi un : Int → Int} (D : DE w h sh near nearEnd mined number st ci un hi mines) : (0 ≤ mines ∧ mines ≤ 144) ∧ (0 ≤ ci 3 ∧ ci 3 ≤ 144) := by
  have hle := wh_le D.1
  have hge := wh_ge D.1
  have b1 := cellsB (n := w * h) (x := w * h) (f := mined) ⟨by omega, by omega⟩ hle (fun c h0 h1 => by rcases D.2.2.1.1 c h0 h1 with e | e <;> omega)
  have b2 := cellsB (n := w * h) (x := w * h) (f := fun c => iK 3 (st c)) ⟨by omega, by omega⟩ hle (fun c _ _ => iK_b _ _)
  have e1 := D.2.2.1.2.2
  have e2 := D.2.2.2.1.2.1 3 (by omega) (by omega)
  omega
theorem s_leftD {mines : Int} {ci : Int → Int} {post : Int → Prop} (hb : (0 ≤ mines ∧ mines ≤ 144) ∧ (0 ≤ ci 3 ∧ ci 3 ≤ 144)) (hp : post (mines - ci 3)) : P_X2_minesLeft post mines ci := by
  unfold P_X2_minesLeft
  refine fun v h1 _ => ⟨by omega, ?_⟩
  rw [h1]
  exact hp
/-- the numbers of mines that a part can have, with all else -/
theorem s_fittingSet {w h sh P lg p mines : Int} {near nearEnd mined ci st number hi un po rs uk ps cs pS : Int → Int} {S nS : Int → Int64} {Ch : Int → Prop} {post : Int → (Int → Int64) → (Int → Int64) → Prop} (D : DE w h sh near nearEnd mined number st ci un hi mines) (cok : ChOk w h sh st Ch) (b : BS w h sh st number hi un Ch P lg po rs uk ps cs) (hlg : lg ≤ 16) (hS : ∀ q, 0 ≤ q → q < P → q ≠ p → sm (pS q) ∧ (∀ m, 0 ≤ m → (tb (pS q) m ↔ mS w h sh st (Rn w h sh st mined) Ch (CL ps cs q) m)))
    (hp : ∀ (z : Int) (S' nS' : Int → Int64), sm z → (∀ m, 0 ≤ m → (tb z m ↔ m ≤ 16 ∧ ∃ k, RS w h sh st (Rn w h sh st mined) Ch (Lb (CL ps cs) P p) k ∧ 0 ≤ mines - ci 3 - m - k ∧ mines - ci 3 - m - k ≤ (FrL w h sh st Ch).length)) → post z S' nS') : P_X6_fittingSet post mines P ci ps pS S nS p := by
  have hle := wh_le D.1
  have hge := wh_ge D.1
  have f := b.facts D.1 cok
  have pl := b.pls D.1 cok
  have e4 := PLs_len pl (by omega)
  have lb := left_b D
  have len16 : ∀ q, 0 ≤ q → q < P → (CL ps cs q).length ≤ 16 := by
    intro q q0 q1
    have := (b.nd D.1 cok ⟨q0, q1⟩).2.2
    have := b.2.2.2.1.2.1 q q0 q1
    omega
  unfold P_X6_fittingSet
  refine s_freeD D cok b (fun _ => s_sumUp ⟨f.1.1, f.1.2.1⟩ (by omega) (fun q q0 q1 q2 => ⟨(hS q q0 q1 q2).1, (hS q q0 q1 q2).2, len16 q q0 q1⟩) (fun S' nS' hS' => ?_))
  refine ⟨fun n z x => n = (17 - x).toNat ∧ 0 ≤ x ∧ x ≤ 17 ∧ sm z ∧ ∀ m, 0 ≤ m → (tb z m ↔ m < x ∧ ∃ k, RS w h sh st (Rn w h sh st mined) Ch (Lb (CL ps cs) P p) k ∧ 0 ≤ mines - ci 3 - m - k ∧ mines - ci 3 - m - k ≤ (FrL w h sh st Ch).length), ⟨_, rfl, by omega, by omega, sm_zero, fun m _ => ⟨fun y => absurd y tb_zero, fun y => by omega⟩⟩, ?_⟩
  rintro n z x rz rx ⟨rfl, b1, b2, b3, b4⟩
  refine ⟨fun q => hp z _ _ b3 (fun m m0 => by rw [b4 m m0]; exact and_congr ⟨fun y => by omega, fun y => by omega⟩ Iff.rfl), fun q => s_leftD lb (fun _ => ⟨by omega, s_hasSum (fun v h01 hv _ => ?_)⟩)⟩
  have hv2 : v = 1 ↔ ∃ k, RS w h sh st (Rn w h sh st mined) Ch (Lb (CL ps cs) P p) k ∧ 0 ≤ mines - ci 3 - x - k ∧ mines - ci 3 - x - k ≤ (FrL w h sh st Ch).length := by
    rw [hv]
    constructor
    · rintro ⟨y1, y2⟩
      exact (hS' _ y1.1 (by omega)).1 y2
    · rintro ⟨k, y1, y2, y3⟩
      have r := RS_rng y1
      have rl := Lb_le (f := CL ps cs) (q := P) (but := p)
      have rl2 : ((CLs P ps cs).flatten.length : Int) + (FrL w h sh st Ch).length ≤ w * h := e4
      unfold CLs at rl2
      have t1 : 0 ≤ mines - ci 3 - x ∧ mines - ci 3 - x ≤ 144 := by omega
      exact ⟨t1, (hS' _ t1.1 (by omega)).2 ⟨k, y1, y2, y3⟩⟩
  clear hv
  refine exJi ⟨fun z1 _ => nx (by omega) ⟨_, ?_, rfl, by omega, by omega, b3, fun m m0 => ?_⟩, fun z1 z' ez _ => nx (by omega) ⟨_, ?_, rfl, by omega, by omega, ?_⟩⟩
  · omega
  · rw [b4 m m0]
    constructor
    · rintro ⟨y1, y2⟩
      exact ⟨by omega, y2⟩
    · rintro ⟨y1, y2⟩
      by_cases e : m = x
      · subst e
        have := hv2.2 y2
        rw [z1] at this
        exact absurd this (by decide)
      · exact ⟨by omega, y2⟩
  · omega
  · have hsh := shl_sm (k := x) b1 (by omega)
    rw [ez]
    refine ⟨or_sm b3 hsh.1, fun m m0 => ?_⟩
    rw [tb_or b3 hsh.1, tb_shl b1 (by omega) m0, b4 m m0]
    constructor
    · rintro (y | y)
      · exact ⟨by omega, y.2⟩
      · subst y
        exact ⟨by omega, hv2.1 (h01.resolve_left z1)⟩
    · rintro ⟨y1, y2⟩
      by_cases e : m = x
      · exact Or.inr e
      · exact Or.inl ⟨by omega, y2⟩
