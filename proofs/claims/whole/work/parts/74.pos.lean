/-! what can be, on the whole board -/
noncomputable def dB (p : Prop) : Bool := @decide p (Classical.propDecidable p)
theorem dB_iff {p : Prop} : dB p = true ↔ p := by
  unfold dB
  exact @decide_eq_true_iff p (Classical.propDecidable p)
/-- the unknown cells that no chosen number speaks of -/
noncomputable def FrL (w h sh : Int) (st : Int → Int) (Ch : Int → Prop) : List Int := (cellsL (w * h)).filter (fun c => dB (st c ≤ 1 ∧ ¬ Bd w h sh st Ch c))
theorem mem_Fr {w h sh c : Int} {st : Int → Int} {Ch : Int → Prop} : c ∈ FrL w h sh st Ch ↔ (0 ≤ c ∧ c < w * h) ∧ st c ≤ 1 ∧ ¬ Bd w h sh st Ch c := by
  unfold FrL
  rw [List.mem_filter, mem_cells, dB_iff]
noncomputable def UL (w h : Int) (st : Int → Int) : List Int := (cellsL (w * h)).filter (fun c => dB (st c ≤ 1))
theorem mem_UL {w h c : Int} {st : Int → Int} : c ∈ UL w h st ↔ (0 ≤ c ∧ c < w * h) ∧ st c ≤ 1 := by
  unfold UL
  rw [List.mem_filter, mem_cells, dB_iff]
theorem cells_nd {n : Int} : (cellsL n).Nodup := pw_nodup cells_pw
theorem UL_nd {w h : Int} {st : Int → Int} : (UL w h st).Nodup := cells_nd.sublist List.filter_sublist
theorem Fr_nd {w h sh : Int} {st : Int → Int} {Ch : Int → Prop} : (FrL w h sh st Ch).Nodup := cells_nd.sublist List.filter_sublist
theorem sumL_filter {l : List Int} {p : Int → Bool} {f : Int → Int} : sumL (l.filter p) f = sumL l (fun x => if p x = true then f x else 0) := by
  induction l with
  | nil => rfl
  | cons a l ih =>
    rw [sumL_cons, ← ih, List.filter_cons]
    by_cases k : p a = true
    · rw [if_pos k, if_pos k, sumL_cons]
    · rw [if_neg k, if_neg k]
      omega
theorem UL_sum {w h : Int} {st t : Int → Int} : sumL (cellsL (w * h)) (fun d => iU (st d) * t d) = sumL (UL w h st) t := by
  unfold UL
  rw [sumL_filter]
  refine sumL_congr (fun d _ => ?_)
  by_cases k : st d ≤ 1
  · rw [if_pos (dB_iff.2 k), show iU (st d) = 1 from if_pos k]
    omega
  · rw [if_neg (fun q => k (dB_iff.1 q)), show iU (st d) = 0 from if_neg k]
    omega
theorem UL_perm {w h sh : Int} {st : Int → Int} {Ch : Int → Prop} {ls : List (List Int)} (p : PLs w h sh st Ch ls) : (UL w h st).Perm (ls.flatten ++ FrL w h sh st Ch) := by
  refine perm_mem UL_nd ?_ (fun c => ?_)
  · refine List.nodup_append.2 ⟨p.1, Fr_nd, fun a ha b hb e => ?_⟩
    subst e
    exact (mem_Fr.1 hb).2.2 ((p.2.2 a).1 ha)
  · rw [mem_UL, List.mem_append, p.2.2, mem_Fr]
    constructor
    · intro q
      by_cases k : Bd w h sh st Ch c
      · exact Or.inl k
      · exact Or.inr ⟨q.1, q.2, k⟩
    · rintro (q | q)
      · exact ⟨q.1, q.2.1⟩
      · exact ⟨q.1, q.2.1⟩
theorem Usum {w h sh : Int} {st t : Int → Int} {Ch : Int → Prop} {ls : List (List Int)} (p : PLs w h sh st Ch ls) : sumL (cellsL (w * h)) (fun d => iU (st d) * t d) = sumL ls.flatten t + sumL (FrL w h sh st Ch) t := by
  rw [UL_sum, sumL_perm (UL_perm p), sumL_append]
/-- a verdict can be: from the chosen numbers, and from the total, if asked for -/
def Pos (w h sh : Int) (st R : Int → Int) (Ch : Int → Prop) (left all c b : Int) : Prop := ∃ t : Int → Int, (∀ c, t c = 0 ∨ t c = 1) ∧ (∀ n, Ch n → Sat1 w h sh st R n t) ∧ (¬ all = 0 → sumL (cellsL (w * h)) (fun d => iU (st d) * t d) = left) ∧ t c = b
/-- the numbers speak of mines that are there -/
def RM (w h sh : Int) (st R mined : Int → Int) (Ch : Int → Prop) : Prop := (∀ c, 0 ≤ c → c < w * h → mined c = 0 ∨ mined c = 1) ∧ ∀ n, Ch n → R n = sumL (NB w h sh n) (fun d => iU (st d) * mined d)
theorem RM.way {w h sh : Int} {st R mined : Int → Int} {Ch : Int → Prop} (r : RM w h sh st R mined Ch) : ∃ t : Int → Int, (∀ c, t c = 0 ∨ t c = 1) ∧ (∀ n, Ch n → Sat1 w h sh st R n t) := by
  refine ⟨fun c => if 0 ≤ c ∧ c < w * h then mined c else 0, fun c => ?_, fun n hn => ?_⟩
  · by_cases k : 0 ≤ c ∧ c < w * h
    · simp only [if_pos k]
      exact r.1 c k.1 k.2
    · exact Or.inl (if_neg k)
  · unfold Sat1
    rw [r.2 n hn]
    refine sumL_congr (fun d m => ?_)
    have := (mem_NB.1 m).1
    simp only [if_pos this]
theorem Sat_all {w h sh : Int} {st R t : Int → Int} {Ch : Int → Prop} {ls : List (List Int)} (cok : ChOk w h sh st Ch) (p : PLs w h sh st Ch ls) : (∀ n, Ch n → Sat1 w h sh st R n t) ↔ ∀ L ∈ ls, SatL w h sh st R Ch L t := by
  constructor
  · intro q L _ n hn _
    exact q n hn
  · intro q n hn
    obtain ⟨_, _, d, md, ud⟩ := cok n hn
    have hb : Bd w h sh st Ch d := ⟨(mem_NB.1 md).1, ud, n, hn, md⟩
    obtain ⟨L, mL, mm⟩ := List.mem_flatten.1 ((p.2.2 d).2 hb)
    exact q L mL n hn ⟨d, md, mm⟩
/-- ways on the border and on the other cells, as one -/
theorem way_join {w h sh : Int} {st R s t : Int → Int} {Ch : Int → Prop} {ls : List (List Int)} (cok : ChOk w h sh st Ch) (p : PLs w h sh st Ch ls) (bs : Bn ls.flatten s) (ss : ∀ L ∈ ls, SatL w h sh st R Ch L s) (bt : Bn (FrL w h sh st Ch) t) : (∀ c, s c + t c = 0 ∨ s c + t c = 1) ∧ (∀ n, Ch n → Sat1 w h sh st R n (fun c => s c + t c)) ∧ sumL (cellsL (w * h)) (fun d => iU (st d) * (s d + t d)) = sumL ls.flatten s + sumL (FrL w h sh st Ch) t ∧ (∀ c ∈ ls.flatten, s c + t c = s c) ∧ (∀ c ∈ FrL w h sh st Ch, s c + t c = t c) := by
  obtain ⟨b1, b2, b3⟩ := bn_add bs bt (fun c m m' => (mem_Fr.1 m').2.2 ((p.2.2 c).1 m))
  refine ⟨fun c => (b1 c).1, ?_, ?_, b2, b3⟩
  · refine (Sat_all cok p).2 (fun L mL => (ss L mL).cong (p.2.1 L mL) (fun c m => (b2 c (List.mem_flatten.2 ⟨L, mL, m⟩)).symm))
  · rw [Usum p (t := fun d => s d + t d), sumL_congr b2, sumL_congr b3]
theorem sum_le_len {l : List Int} {t : Int → Int} (h : ∀ c, t c = 0 ∨ t c = 1) : 0 ≤ sumL l t ∧ sumL l t ≤ l.length := sumL_bound (fun x _ => by rcases h x with e | e <;> omega)
theorem flat_mid {a b : List (List Int)} {L : List Int} : (a ++ L :: b).flatten.Perm (L ++ (a ++ b).flatten) := by
  rw [List.flatten_append, List.flatten_cons, List.flatten_append]
  refine (List.perm_append_comm_assoc _ _ _)
theorem Pos_in {w h sh left all c v : Int} {st R mined : Int → Int} {Ch : Int → Prop} {a b : List (List Int)} {L : List Int} (cok : ChOk w h sh st Ch) (r : RM w h sh st R mined Ch) (p : PLs w h sh st Ch (a ++ L :: b)) (hc : c ∈ L) : Pos w h sh st R Ch left all c v ↔ ∃ m, mSc w h sh st R Ch L c v m ∧ (¬ all = 0 → ∃ k, RS w h sh st R Ch (a ++ b) k ∧ 0 ≤ left - m - k ∧ left - m - k ≤ (FrL w h sh st Ch).length) := by
  have hmem : ∀ M ∈ a ++ b, M ∈ a ++ L :: b := by
    intro M m
    rcases List.mem_append.1 m with q | q
    · exact List.mem_append.2 (Or.inl q)
    · exact List.mem_append.2 (Or.inr (List.mem_cons_of_mem _ q))
  have hcl : ∀ M ∈ a ++ b, Cl w h sh st Ch M := fun M m => p.2.1 M (hmem M m)
  have hL : L ∈ a ++ L :: b := List.mem_append.2 (Or.inr List.mem_cons_self)
  have nd := flat_mid.nodup_iff.1 p.1
  have nd' := List.nodup_append.1 nd
  have fs : ∀ t, sumL (a ++ L :: b).flatten t = sumL L t + sumL (a ++ b).flatten t := fun t => by rw [sumL_perm flat_mid, sumL_append]
  constructor
  · rintro ⟨t, h01, ht, hl, hv⟩
    have hs := (Sat_all cok p).1 ht
    refine ⟨sumL L t, ⟨rst L t, rst_bn h01, (hs L hL).cong (p.2.1 L hL) (fun x m => (rst_in m).symm), sumL_congr (fun x m => rst_in m), by rw [rst_in hc]; exact hv⟩, fun na => ?_⟩
    refine ⟨sumL (a ++ b).flatten t, RS_rst h01 (fun M m => ⟨hcl M m, hs M (hmem M m)⟩), ?_⟩
    have e := hl na
    rw [Usum p, fs] at e
    have := sum_le_len (l := FrL w h sh st Ch) h01
    exact ⟨by omega, by omega⟩
  · rintro ⟨m, ⟨s, bs, ss, es, ev⟩, hk⟩
    have key : ∀ k j : Int, RS w h sh st R Ch (a ++ b) k → (∃ f, Bn (FrL w h sh st Ch) f ∧ sumL (FrL w h sh st Ch) f = j) → ∃ t : Int → Int, (∀ c, t c = 0 ∨ t c = 1) ∧ (∀ n, Ch n → Sat1 w h sh st R n t) ∧ sumL (cellsL (w * h)) (fun d => iU (st d) * t d) = m + k + j ∧ t c = v := by
      rintro k j q ⟨f, bf, ef⟩
      obtain ⟨u, bu, su, eu⟩ := RS_way nd'.2.1 hcl q
      obtain ⟨b1, b2, b3⟩ := bn_add bs bu (fun x m m' => nd'.2.2 x m x m' rfl)
      have bb : Bn (a ++ L :: b).flatten (fun c => s c + u c) := fun x => ⟨(b1 x).1, fun k => (b1 x).2 (fun q => k (flat_mid.mem_iff.2 q))⟩
      have sat : ∀ M ∈ a ++ L :: b, SatL w h sh st R Ch M (fun c => s c + u c) := by
        intro M mM
        have cM := p.2.1 M mM
        by_cases e : M = L
        · subst e
          exact ss.cong cM (fun x m => (b2 x m).symm)
        · have mM' : M ∈ a ++ b := by
            rcases List.mem_append.1 mM with q | q
            · exact List.mem_append.2 (Or.inl q)
            · rcases List.mem_cons.1 q with q | q
              · exact absurd q e
              · exact List.mem_append.2 (Or.inr q)
          exact (su M mM').cong cM (fun x m => (b3 x (List.mem_flatten.2 ⟨M, mM', m⟩)).symm)
      obtain ⟨j1, j2, j3, j4, j5⟩ := way_join cok p bb sat bf
      refine ⟨_, j1, j2, ?_, ?_⟩
      · rw [j3, fs, sumL_congr b2, sumL_congr b3]
        omega
      · rw [j4 c (List.mem_flatten.2 ⟨L, hL, hc⟩)]
        show s c + u c = v
        rw [b2 c hc]
        exact ev
    by_cases na : all = 0
    · obtain ⟨t, h01, ht⟩ := r.way
      obtain ⟨t', q1, q2, q3, q4⟩ := key _ 0 (RS_rst h01 (fun M m => ⟨hcl M m, fun n hn _ => ht n hn⟩)) ⟨_, Bn.zero, sumL_const (k := 0) (fun _ _ => rfl) |>.trans (by omega)⟩
      exact ⟨t', q1, q2, fun k => absurd na k, q4⟩
    · obtain ⟨k, hk1, hk2, hk3⟩ := hk na
      obtain ⟨t', q1, q2, q3, q4⟩ := key k (left - m - k) hk1 (bn_any Fr_nd hk2 hk3)
      exact ⟨t', q1, q2, fun _ => by omega, q4⟩
theorem Pos_free {w h sh left all c v : Int} {st R mined : Int → Int} {Ch : Int → Prop} {ls : List (List Int)} (cok : ChOk w h sh st Ch) (r : RM w h sh st R mined Ch) (p : PLs w h sh st Ch ls) (hc : c ∈ FrL w h sh st Ch) (hv : v = 0 ∨ v = 1) : Pos w h sh st R Ch left all c v ↔ (¬ all = 0 → ∃ k, RS w h sh st R Ch ls k ∧ 0 ≤ left - v - k ∧ left - v - k ≤ (FrL w h sh st Ch).length - 1) := by
  obtain ⟨p1, p2, ep⟩ := List.append_of_mem hc
  have pm : (FrL w h sh st Ch).Perm (c :: (p1 ++ p2)) := by
    rw [ep]
    exact List.perm_middle
  have nd := List.nodup_cons.1 (pm.nodup_iff.1 Fr_nd)
  have hlen : ((FrL w h sh st Ch).length : Int) = (p1 ++ p2).length + 1 := by
    rw [pm.length_eq]
    simp
  constructor
  · rintro ⟨t, h01, ht, hl, hv⟩ na
    have hs := (Sat_all cok p).1 ht
    refine ⟨sumL ls.flatten t, RS_rst h01 (fun M m => ⟨p.2.1 M m, hs M m⟩), ?_⟩
    have e := hl na
    rw [Usum p, sumL_perm pm, sumL_cons, hv] at e
    have := sum_le_len (l := p1 ++ p2) h01
    exact ⟨by omega, by omega⟩
  · intro hk
    have key : ∀ k j : Int, RS w h sh st R Ch ls k → 0 ≤ j → j ≤ (p1 ++ p2).length → ∃ t : Int → Int, (∀ c, t c = 0 ∨ t c = 1) ∧ (∀ n, Ch n → Sat1 w h sh st R n t) ∧ sumL (cellsL (w * h)) (fun d => iU (st d) * t d) = k + (v + j) ∧ t c = v := by
      intro k j q j0 j1
      obtain ⟨u, bu, su, eu⟩ := RS_way p.1 p.2.1 q
      obtain ⟨f, bf, ef⟩ := bn_any nd.2 j0 j1
      have bg : Bn (FrL w h sh st Ch) (upZ f c v) := fun x => ⟨((bf.up hv) x).1, fun k => ((bf.up hv) x).2 (fun m => k (pm.mem_iff.2 m))⟩
      obtain ⟨i1, i2, i3, i4, i5⟩ := way_join cok p bu su bg
      refine ⟨_, i1, i2, ?_, ?_⟩
      · rw [i3, eu, sumL_perm pm, sumL_cons, upZ_s, sumL_congr (g := f) (fun x m => upZ_n f v (show x ≠ c from fun e => nd.1 (e ▸ m))), ef]
      · rw [i5 c hc, upZ_s]
    by_cases na : all = 0
    · obtain ⟨t, h01, ht⟩ := r.way
      obtain ⟨t', q1, q2, q3, q4⟩ := key _ 0 (RS_rst h01 (fun M m => ⟨p.2.1 M m, fun n hn _ => ht n hn⟩)) (Int.le_refl _) (by omega)
      exact ⟨t', q1, q2, fun k => absurd na k, q4⟩
    · obtain ⟨k, hk1, hk2, hk3⟩ := hk na
      obtain ⟨t', q1, q2, q3, q4⟩ := key k (left - v - k) hk1 hk2 (by omega)
      exact ⟨t', q1, q2, fun _ => by omega, q4⟩
