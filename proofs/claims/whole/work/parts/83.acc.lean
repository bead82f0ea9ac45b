/-! groups against numbers; what a search adds to its tables -/
theorem sumL_mul {l : List Int} {f : Int → Int} {k : Int} : sumL l (fun x => k * f x) = k * sumL l f := by
  induction l with
  | nil => rw [sumL_nil, sumL_nil]; omega
  | cons a l ih => rw [sumL_cons, sumL_cons, ih, Int.mul_add]
def asg (l : List Int) (v : Int) (f : Int → Int) : Int → Int := fun n => f n - (if n ∈ l then v else 0)
theorem asg_asg {l : List Int} {a b : Int} {f : Int → Int} : asg l a (asg l b f) = asg l (a + b) f := by
  funext n
  unfold asg
  by_cases k : n ∈ l
  · rw [if_pos k, if_pos k, if_pos k]; omega
  · rw [if_neg k, if_neg k, if_neg k]; omega
theorem asg_zero {l : List Int} {f : Int → Int} : asg l 0 f = f := by
  funext n
  unfold asg
  split <;> omega
theorem seg_take {f : Int → Int} {b : Int} {k j : Nat} (h : j ≤ k) : (seg f b k).take j = seg f b j := by
  unfold seg
  rw [← List.map_take, List.take_range, Nat.min_eq_left h]
theorem s_assign {g x2 x3 : Int} {rs uk links le : Int → Int} {post : (Int → Int) → (Int → Int) → Prop} (hg : 0 ≤ g ∧ g < 16) (hl : 8 * g ≤ le g ∧ le g ≤ 8 * g + 8) (nd : (LKl links le g).Nodup) (hn : ∀ n ∈ LKl links le g, (0 ≤ n ∧ n < 144) ∧ (-1000 ≤ rs n ∧ rs n ≤ 1000) ∧ (-1000 ≤ uk n ∧ uk n ≤ 1000)) (h2 : -1000 ≤ x2 ∧ x2 ≤ 1000) (h3 : -1000 ≤ x3 ∧ x3 ≤ 1000)
    (hp : post (asg (LKl links le g) x3 rs) (asg (LKl links le g) x2 uk)) : P_X9_assign post rs uk links le g x2 x3 := by
  unfold P_X9_assign
  have hlen : (LKl links le g).length = (le g - 8 * g).toNat := seg_len
  refine ⟨by omega, fun x4 e4 => ⟨fun n x rs' uk' => n = (le g - x).toNat ∧ 8 * g ≤ x ∧ x ≤ le g ∧ rs' = asg (seg links (8 * g) (x - 8 * g).toNat) x3 rs ∧ uk' = asg (seg links (8 * g) (x - 8 * g).toNat) x2 uk, ⟨_, rfl, by omega, by omega, ?_, ?_⟩, ?_⟩⟩
  · rw [e4, show (g * 8 - 8 * g).toNat = 0 by omega, seg_zero]
    funext n
    unfold asg
    rw [if_neg List.not_mem_nil]
    omega
  · rw [e4, show (g * 8 - 8 * g).toNat = 0 by omega, seg_zero]
    funext n
    unfold asg
    rw [if_neg List.not_mem_nil]
    omega
  rintro n x rs' uk' rx ⟨rfl, b1, b2, b3, b4⟩
  refine ⟨by omega, fun v ev rv => ⟨fun z => ?_, fun z => ?_⟩⟩
  · have e : x = le g := by omega
    rw [e] at b3 b4
    rw [b3, b4]
    exact hp
  have hin : links x ∈ LKl links le g := mem_seg.2 ⟨x, b1, by omega, rfl⟩
  have hx := hn _ hin
  have ss : seg links (8 * g) (x + 1 - 8 * g).toNat = seg links (8 * g) (x - 8 * g).toNat ++ [links x] := by
    rw [show (x + 1 - 8 * g).toNat = (x - 8 * g).toNat + 1 by omega, seg_succ, show 8 * g + (((x - 8 * g).toNat : Nat) : Int) = x by omega]
  have nin : ¬ links x ∈ seg links (8 * g) (x - 8 * g).toNat := by
    have sub : (seg links (8 * g) (x + 1 - 8 * g).toNat).Sublist (LKl links le g) := by
      unfold LKl
      rw [← seg_take (k := (le g - 8 * g).toNat) (j := (x + 1 - 8 * g).toNat) (by omega)]
      exact List.take_sublist _ _
    have nd2 := nd.sublist sub
    rw [ss] at nd2
    intro m
    exact (List.nodup_append.1 nd2).2.2 _ m _ (List.mem_singleton.2 rfl) rfl
  have step : ∀ (f : Int → Int) (v : Int), upZ (asg (seg links (8 * g) (x - 8 * g).toNat) v f) (links x) (f (links x) - v) = asg (seg links (8 * g) (x + 1 - 8 * g).toNat) v f := by
    intro f v
    funext n
    rw [ss]
    by_cases e : n = links x
    · rw [e, upZ_s]
      unfold asg
      rw [if_pos (List.mem_append.2 (Or.inr (List.mem_singleton.2 rfl)))]
    · rw [upZ_n _ _ e]
      unfold asg
      by_cases k : n ∈ seg links (8 * g) (x - 8 * g).toNat
      · rw [if_pos k, if_pos (List.mem_append.2 (Or.inl k))]
      · rw [if_neg k, if_neg (fun y => by rcases List.mem_append.1 y with y | y; exact k y; exact e (List.mem_singleton.1 y))]
  have same : ∀ (f : Int → Int) (v : Int), asg (seg links (8 * g) (x - 8 * g).toNat) v f (links x) = f (links x) := by
    intro f v
    unfold asg
    rw [if_neg nin]
    omega
  refine ⟨by omega, fun c ec rc => ⟨by omega, fun vu eu ru => ⟨by omega, ?_⟩⟩⟩
  subst ec
  rw [b4, same] at eu
  refine ⟨by omega, fun uk2 e2 => ⟨by omega, fun c2 ec2 rc2 => ⟨by omega, fun vr er rr => ⟨by omega, ?_⟩⟩⟩⟩
  subst ec2
  rw [b3, same] at er
  refine ⟨by omega, fun rs2 e3 => nx (by omega) ⟨_, ?_, rfl, by omega, by omega, ?_, ?_⟩⟩
  · omega
  · rw [e3, b3, er, step]
  · rw [e2, b4, eu, step]
theorem nd_sub_len {l : List Int} : ∀ {m : List Int}, l.Nodup → (∀ x ∈ l, x ∈ m) → l.length ≤ m.length := by
  induction l with
  | nil => intro m _ _; exact Nat.zero_le _
  | cons a l ih =>
    intro m nd h
    have nd' := List.nodup_cons.1 nd
    obtain ⟨p, q, e⟩ := List.append_of_mem (h a List.mem_cons_self)
    subst e
    have := ih (m := p ++ q) nd'.2 (fun x mx => by
      have k := h x (List.mem_cons_of_mem _ mx)
      rcases List.mem_append.1 k with k | k
      · exact List.mem_append.2 (Or.inl k)
      · rcases List.mem_cons.1 k with k | k
        · exact absurd (k ▸ mx) nd'.1
        · exact List.mem_append.2 (Or.inr k))
    rw [List.length_append] at this
    rw [List.length_append, List.length_cons, List.length_cons]
    omega
/-- a part in groups -/
def GC (w h sh : Int) (st : Int → Int) (Ch : Int → Prop) (L : List Int) (N : Int) (go gz links le : Int → Int) : Prop :=
  L.Nodup ∧ Cl w h sh st Ch L ∧ (∀ c ∈ L, Bd w h sh st Ch c) ∧ L.length ≤ 16 ∧ GRp w h sh Ch L N go gz links le
noncomputable def qk (links le : Int → Int) (i n : Int) : Int := iB (n ∈ LKl links le i)
theorem GC.mem {w h sh N g c n : Int} {st go gz links le : Int → Int} {Ch : Int → Prop} {L : List Int} (ok : okB w h sh) (cok : ChOk w h sh st Ch) (gc : GC w h sh st Ch L N go gz links le) (hg : 0 ≤ g ∧ g < N) (hc : c ∈ Gl L go g) : n ∈ LKl links le g ↔ Ch n ∧ c ∈ NB w h sh n := by
  rw [(gc.2.2.2.2.2.2 g hg.1 hg.2).2.2 c hc]
  unfold LKc
  rw [List.mem_filter, dB_iff]
  have hc' := (gc.2.2.1 c (mem_Gl.1 hc).1).1
  constructor
  · rintro ⟨m, k⟩
    exact ⟨k, (NB_sym ok (nb_cell m) hc').2 m⟩
  · rintro ⟨k, m⟩
    exact ⟨(NB_sym ok (cok n k).1 hc').1 m, k⟩
theorem GC.some {w h sh N g : Int} {st go gz links le : Int → Int} {Ch : Int → Prop} {L : List Int} (gc : GC w h sh st Ch L N go gz links le) (hg : 0 ≤ g ∧ g < N) : ∃ c, c ∈ Gl L go g := by
  have := (gc.2.2.2.2.2.2 g hg.1 hg.2).1
  cases e : Gl L go g with
  | nil => rw [e] at this; simp at this; omega
  | cons a l => exact ⟨a, List.mem_cons_self⟩
theorem GC.lk {w h sh N g n : Int} {st go gz links le : Int → Int} {Ch : Int → Prop} {L : List Int} (ok : okB w h sh) (cok : ChOk w h sh st Ch) (gc : GC w h sh st Ch L N go gz links le) (hg : 0 ≤ g ∧ g < N) (hn : n ∈ LKl links le g) : Ch n ∧ ∃ d ∈ NB w h sh n, d ∈ L := by
  obtain ⟨c, hc⟩ := gc.some hg
  obtain ⟨k, m⟩ := (gc.mem ok cok hg hc).1 hn
  exact ⟨k, c, m, (mem_Gl.1 hc).1⟩
theorem GC.nd {w h sh N g : Int} {st go gz links le : Int → Int} {Ch : Int → Prop} {L : List Int} (gc : GC w h sh st Ch L N go gz links le) (hg : 0 ≤ g ∧ g < N) : (LKl links le g).Nodup := by
  obtain ⟨c, hc⟩ := gc.some hg
  rw [(gc.2.2.2.2.2.2 g hg.1 hg.2).2.2 c hc]
  exact (pw_nodup NB_pw).sublist List.filter_sublist
theorem GC.gz {w h sh N g : Int} {st go gz links le : Int → Int} {Ch : Int → Prop} {L : List Int} (ok : okB w h sh) (cok : ChOk w h sh st Ch) (gc : GC w h sh st Ch L N go gz links le) (hg : 0 ≤ g ∧ g < N) : gz g = (Gl L go g).length ∧ 1 ≤ gz g ∧ gz g ≤ 8 := by
  have a := (gc.2.2.2.2.2.2 g hg.1 hg.2).1
  refine ⟨a.1, a.2, ?_⟩
  obtain ⟨c, hc⟩ := gc.some hg
  obtain ⟨-, -, n, hn, mn⟩ := gc.2.2.1 c (mem_Gl.1 hc).1
  have lkn := (gc.mem ok cok hg hc).2 ⟨hn, mn⟩
  have sub : ∀ d ∈ Gl L go g, d ∈ NB w h sh n := fun d hd => ((gc.mem ok cok hg hd).1 lkn).2
  have l1 := NB_len ok (cok n hn).1
  have l2 : (Gl L go g).length ≤ (NB w h sh n).length := by
    exact nd_sub_len (Gl_nd gc.1) sub
  omega
/-- a number's unknown cells, group by group -/
theorem GC.num {w h sh N n : Int} {st go gz links le f : Int → Int} {Ch : Int → Prop} {L : List Int} (ok : okB w h sh) (cok : ChOk w h sh st Ch) (gc : GC w h sh st Ch L N go gz links le) (hn : Ch n) (ht : ∃ d ∈ NB w h sh n, d ∈ L) : sumL (NB w h sh n) (fun d => iU (st d) * f d) = sumL (cellsL N) (fun i => qk links le i n * sumL (Gl L go i) f) := by
  have e1 : sumL (NB w h sh n) (fun d => iU (st d) * f d) = sumL ((NB w h sh n).filter (fun d => decide (st d ≤ 1))) f := by
    rw [sumL_filter]
    refine sumL_congr (fun d _ => ?_)
    by_cases k : st d ≤ 1
    · rw [if_pos (decide_eq_true k), show iU (st d) = 1 from if_pos k]; omega
    · rw [if_neg (by simpa using k), show iU (st d) = 0 from if_neg k]; omega
  have pm : ((NB w h sh n).filter (fun d => decide (st d ≤ 1))).Perm (L.filter (fun d => dB (d ∈ NB w h sh n))) := by
    refine perm_mem ((pw_nodup NB_pw).sublist List.filter_sublist) (gc.1.sublist List.filter_sublist) (fun d => ?_)
    rw [List.mem_filter, List.mem_filter, decide_eq_true_eq, dB_iff]
    constructor
    · rintro ⟨m, u⟩
      exact ⟨gc.2.1 n hn ht d m u, m⟩
    · rintro ⟨m, k⟩
      exact ⟨k, (gc.2.2.1 d m).2.1⟩
  rw [e1, sumL_perm pm, sumL_filter, gsum gc.1 gc.2.2.2.2.2.1 gc.2.2.2.2.1.1]
  refine sumL_congr (fun i mi => ?_)
  have hi := mem_cells.1 mi
  rw [← sumL_mul]
  refine sumL_congr (fun d md => ?_)
  have := gc.mem (n := n) ok cok hi md
  unfold qk
  by_cases k : d ∈ NB w h sh n
  · rw [if_pos (dB_iff.2 k), iB_t (this.2 ⟨hn, k⟩)]; omega
  · rw [if_neg (fun y => k (dB_iff.1 y)), iB_f (fun y => k (this.1 y).2)]; omega
/-! what is added -/
noncomputable def CNy (w h sh : Int) (st R : Int → Int) (Ch : Int → Prop) (L : List Int) (Y : (Int → Int) → Prop) (m : Int) : Int := asum L (fun t => iB (SatL w h sh st R Ch L t ∧ sumL L t = m ∧ Y t))
noncomputable def CNc (w h sh : Int) (st R : Int → Int) (Ch : Int → Prop) (L : List Int) (c : Int) (Y : (Int → Int) → Prop) (m : Int) : Int := asum L (fun t => iB (SatL w h sh st R Ch L t ∧ sumL L t = m ∧ Y t) * t c)
def EXy (w h sh : Int) (st R : Int → Int) (Ch : Int → Prop) (L : List Int) (Y : (Int → Int) → Prop) (m : Int) : Prop := ∃ t, Bn L t ∧ SatL w h sh st R Ch L t ∧ sumL L t = m ∧ Y t
def Adds (w h sh : Int) (st R : Int → Int) (Ch : Int → Prop) (L : List Int) (N : Int) (go gz : Int → Int) (p ts sz ag c : Int) (Y : (Int → Int) → Prop) (pS ta as gm gs pS' ta' as' gm' gs' : Int → Int) : Prop :=
  (∀ m, 0 ≤ m → m ≤ sz → ta' (ts + m) = ta (ts + m) + CNy w h sh st R Ch L Y m) ∧ (∀ j, j < ts ∨ ts + sz < j → ta' j = ta j) ∧ (∀ q, q ≠ p → pS' q = pS q) ∧ (sm (pS' p) ∧ ∀ m, 0 ≤ m → (tb (pS' p) m ↔ tb (pS p) m ∨ EXy w h sh st R Ch L Y m)) ∧
  (∀ i, 0 ≤ i → i < N → (sm (gm' i) ∧ sm (gs' i)) ∧ ∀ m, 0 ≤ m → ((tb (gm' i) m ↔ tb (gm i) m ∨ EXy w h sh st R Ch L (fun t => Y t ∧ 0 < sumL (Gl L go i) t) m) ∧ (tb (gs' i) m ↔ tb (gs i) m ∨ EXy w h sh st R Ch L (fun t => Y t ∧ sumL (Gl L go i) t < gz i) m))) ∧
  (ag = -1 ∨ ∀ m, 0 ≤ m → m ≤ sz → as' m = as m + CNc w h sh st R Ch L c Y m)
theorem CNy_congr {w h sh m : Int} {st R : Int → Int} {Ch : Int → Prop} {L : List Int} {Y Z : (Int → Int) → Prop} (e : ∀ t, Bn L t → SatL w h sh st R Ch L t → (Y t ↔ Z t)) : CNy w h sh st R Ch L Y m = CNy w h sh st R Ch L Z m :=
  asum_congr (fun t b => iB_iff ⟨fun q => ⟨q.1, q.2.1, (e t b q.1).1 q.2.2⟩, fun q => ⟨q.1, q.2.1, (e t b q.1).2 q.2.2⟩⟩)
theorem CNc_congr {w h sh m c : Int} {st R : Int → Int} {Ch : Int → Prop} {L : List Int} {Y Z : (Int → Int) → Prop} (e : ∀ t, Bn L t → SatL w h sh st R Ch L t → (Y t ↔ Z t)) : CNc w h sh st R Ch L c Y m = CNc w h sh st R Ch L c Z m :=
  asum_congr (fun t b => by rw [iB_iff (show (SatL w h sh st R Ch L t ∧ sumL L t = m ∧ Y t) ↔ (SatL w h sh st R Ch L t ∧ sumL L t = m ∧ Z t) from ⟨fun q => ⟨q.1, q.2.1, (e t b q.1).1 q.2.2⟩, fun q => ⟨q.1, q.2.1, (e t b q.1).2 q.2.2⟩⟩)])
theorem EXy_congr {w h sh m : Int} {st R : Int → Int} {Ch : Int → Prop} {L : List Int} {Y Z : (Int → Int) → Prop} (e : ∀ t, Bn L t → SatL w h sh st R Ch L t → (Y t ↔ Z t)) : EXy w h sh st R Ch L Y m ↔ EXy w h sh st R Ch L Z m :=
  ⟨fun ⟨t, b, s, q, y⟩ => ⟨t, b, s, q, (e t b s).1 y⟩, fun ⟨t, b, s, q, y⟩ => ⟨t, b, s, q, (e t b s).2 y⟩⟩
theorem CNy_or {w h sh m : Int} {st R : Int → Int} {Ch : Int → Prop} {L : List Int} {Y Z : (Int → Int) → Prop} (e : ∀ t, Bn L t → ¬ (Y t ∧ Z t)) : CNy w h sh st R Ch L (fun t => Y t ∨ Z t) m = CNy w h sh st R Ch L Y m + CNy w h sh st R Ch L Z m := by
  unfold CNy
  rw [← asum_add]
  refine asum_congr (fun t b => ?_)
  by_cases k : SatL w h sh st R Ch L t ∧ sumL L t = m
  · by_cases y : Y t
    · have nz : ¬ Z t := fun z => e t b ⟨y, z⟩
      rw [iB_t ⟨k.1, k.2, Or.inl y⟩, iB_t ⟨k.1, k.2, y⟩, iB_f (fun q => nz q.2.2)]; omega
    · by_cases z : Z t
      · rw [iB_t ⟨k.1, k.2, Or.inr z⟩, iB_f (fun q => y q.2.2), iB_t ⟨k.1, k.2, z⟩]; omega
      · rw [iB_f (fun q => q.2.2.elim y z), iB_f (fun q => y q.2.2), iB_f (fun q => z q.2.2)]; omega
  · rw [iB_f (fun q => k ⟨q.1, q.2.1⟩), iB_f (fun q => k ⟨q.1, q.2.1⟩), iB_f (fun q => k ⟨q.1, q.2.1⟩)]; omega
theorem CNc_or {w h sh m c : Int} {st R : Int → Int} {Ch : Int → Prop} {L : List Int} {Y Z : (Int → Int) → Prop} (e : ∀ t, Bn L t → ¬ (Y t ∧ Z t)) : CNc w h sh st R Ch L c (fun t => Y t ∨ Z t) m = CNc w h sh st R Ch L c Y m + CNc w h sh st R Ch L c Z m := by
  unfold CNc
  rw [← asum_add]
  refine asum_congr (fun t b => ?_)
  by_cases k : SatL w h sh st R Ch L t ∧ sumL L t = m
  · by_cases y : Y t
    · have nz : ¬ Z t := fun z => e t b ⟨y, z⟩
      rw [iB_t ⟨k.1, k.2, Or.inl y⟩, iB_t ⟨k.1, k.2, y⟩, iB_f (fun q => nz q.2.2)]; omega
    · by_cases z : Z t
      · rw [iB_t ⟨k.1, k.2, Or.inr z⟩, iB_f (fun q => y q.2.2), iB_t ⟨k.1, k.2, z⟩]; omega
      · rw [iB_f (fun q => q.2.2.elim y z), iB_f (fun q => y q.2.2), iB_f (fun q => z q.2.2)]; omega
  · rw [iB_f (fun q => k ⟨q.1, q.2.1⟩), iB_f (fun q => k ⟨q.1, q.2.1⟩), iB_f (fun q => k ⟨q.1, q.2.1⟩)]; omega
theorem EXy_or {w h sh m : Int} {st R : Int → Int} {Ch : Int → Prop} {L : List Int} {Y Z : (Int → Int) → Prop} : EXy w h sh st R Ch L (fun t => Y t ∨ Z t) m ↔ EXy w h sh st R Ch L Y m ∨ EXy w h sh st R Ch L Z m :=
  ⟨fun ⟨t, b, s, q, y⟩ => y.elim (fun y => Or.inl ⟨t, b, s, q, y⟩) (fun y => Or.inr ⟨t, b, s, q, y⟩), fun h => h.elim (fun ⟨t, b, s, q, y⟩ => ⟨t, b, s, q, Or.inl y⟩) (fun ⟨t, b, s, q, y⟩ => ⟨t, b, s, q, Or.inr y⟩)⟩
theorem CNy_le {w h sh m : Int} {st R : Int → Int} {Ch : Int → Prop} {L : List Int} {Y Z : (Int → Int) → Prop} (e : ∀ t, Y t → Z t) : 0 ≤ CNy w h sh st R Ch L Y m ∧ CNy w h sh st R Ch L Y m ≤ CNy w h sh st R Ch L Z m := by
  refine ⟨asum_nn (fun t _ => (iB_b _).1), asum_le (fun t _ => ?_)⟩
  by_cases k : SatL w h sh st R Ch L t ∧ sumL L t = m ∧ Y t
  · rw [iB_t k, iB_t ⟨k.1, k.2.1, e t k.2.2⟩]; omega
  · rw [iB_f k]; exact (iB_b _).1
theorem CNc_le {w h sh m c : Int} {st R : Int → Int} {Ch : Int → Prop} {L : List Int} {Y Z : (Int → Int) → Prop} (e : ∀ t, Y t → Z t) : 0 ≤ CNc w h sh st R Ch L c Y m ∧ CNc w h sh st R Ch L c Y m ≤ CNc w h sh st R Ch L c Z m := by
  refine ⟨asum_nn (fun t b => Int.mul_nonneg (iB_b _).1 (by rcases (b c).1 with q | q <;> omega)), asum_le (fun t b => ?_)⟩
  have tc : 0 ≤ t c := by rcases (b c).1 with q | q <;> omega
  by_cases k : SatL w h sh st R Ch L t ∧ sumL L t = m ∧ Y t
  · rw [iB_t k, iB_t ⟨k.1, k.2.1, e t k.2.2⟩]; omega
  · rw [iB_f k, Int.zero_mul]; exact Int.mul_nonneg (iB_b _).1 tc
theorem Adds.congr {w h sh N p ts sz ag c : Int} {st R go gz : Int → Int} {Ch : Int → Prop} {L : List Int} {Y Z : (Int → Int) → Prop} {pS ta as gm gs pS' ta' as' gm' gs' : Int → Int} (a : Adds w h sh st R Ch L N go gz p ts sz ag c Y pS ta as gm gs pS' ta' as' gm' gs') (e : ∀ t, Bn L t → SatL w h sh st R Ch L t → (Y t ↔ Z t)) : Adds w h sh st R Ch L N go gz p ts sz ag c Z pS ta as gm gs pS' ta' as' gm' gs' := by
  obtain ⟨a1, a2, a3, a4, a5, a6⟩ := a
  refine ⟨fun m m0 m1 => by rw [← CNy_congr e]; exact a1 m m0 m1, a2, a3, ⟨a4.1, fun m m0 => by rw [← EXy_congr e]; exact a4.2 m m0⟩, fun i i0 i1 => ⟨(a5 i i0 i1).1, fun m m0 => ?_⟩, ?_⟩
  · obtain ⟨b1, b2⟩ := (a5 i i0 i1).2 m m0
    exact ⟨b1.trans (or_congr Iff.rfl (EXy_congr (fun t b s => and_congr (e t b s) Iff.rfl))), b2.trans (or_congr Iff.rfl (EXy_congr (fun t b s => and_congr (e t b s) Iff.rfl)))⟩
  · exact a6.imp id (fun q m m0 m1 => by rw [← CNc_congr e]; exact q m m0 m1)
theorem Adds.trans {w h sh N p ts sz ag c : Int} {st R go gz : Int → Int} {Ch : Int → Prop} {L : List Int} {Y Z : (Int → Int) → Prop} {pS ta as gm gs pS' ta' as' gm' gs' pS2 ta2 as2 gm2 gs2 : Int → Int} (a : Adds w h sh st R Ch L N go gz p ts sz ag c Y pS ta as gm gs pS' ta' as' gm' gs') (b : Adds w h sh st R Ch L N go gz p ts sz ag c Z pS' ta' as' gm' gs' pS2 ta2 as2 gm2 gs2) (e : ∀ t, Bn L t → ¬ (Y t ∧ Z t)) : Adds w h sh st R Ch L N go gz p ts sz ag c (fun t => Y t ∨ Z t) pS ta as gm gs pS2 ta2 as2 gm2 gs2 := by
  obtain ⟨a1, a2, a3, a4, a5, a6⟩ := a
  obtain ⟨b1, b2, b3, b4, b5, b6⟩ := b
  refine ⟨fun m m0 m1 => by rw [b1 m m0 m1, a1 m m0 m1, CNy_or e]; omega, fun j hj => (b2 j hj).trans (a2 j hj), fun q hq => (b3 q hq).trans (a3 q hq), ⟨b4.1, fun m m0 => by rw [b4.2 m m0, a4.2 m m0, EXy_or, or_assoc]⟩, fun i i0 i1 => ⟨(b5 i i0 i1).1, fun m m0 => ?_⟩, ?_⟩
  · obtain ⟨c1, c2⟩ := (a5 i i0 i1).2 m m0
    obtain ⟨d1, d2⟩ := (b5 i i0 i1).2 m m0
    refine ⟨?_, ?_⟩
    · rw [d1, c1, or_assoc, ← EXy_or]
      exact or_congr Iff.rfl (EXy_congr (fun t _ _ => or_and_right.symm))
    · rw [d2, c2, or_assoc, ← EXy_or]
      exact or_congr Iff.rfl (EXy_congr (fun t _ _ => or_and_right.symm))
  · rcases a6 with a6 | a6
    · exact Or.inl a6
    · rcases b6 with b6 | b6
      · exact Or.inl b6
      · exact Or.inr (fun m m0 m1 => by rw [b6 m m0 m1, a6 m m0 m1, CNc_or e]; omega)
theorem Adds.none {w h sh N p ts sz ag c : Int} {st R go gz : Int → Int} {Ch : Int → Prop} {L : List Int} {Y : (Int → Int) → Prop} {pS ta as gm gs : Int → Int} (e : ∀ t, Bn L t → SatL w h sh st R Ch L t → ¬ Y t) (s1 : sm (pS p)) (s2 : ∀ i, 0 ≤ i → i < N → sm (gm i) ∧ sm (gs i)) : Adds w h sh st R Ch L N go gz p ts sz ag c Y pS ta as gm gs pS ta as gm gs := by
  have z1 : ∀ m, CNy w h sh st R Ch L Y m = 0 := fun m => by
    unfold CNy
    rw [asum_congr (G := fun _ => 0) (fun t b => iB_f (fun q => e t b q.1 q.2.2)), asum_zero]
  have z2 : ∀ m, CNc w h sh st R Ch L c Y m = 0 := fun m => by
    unfold CNc
    rw [asum_congr (G := fun _ => 0) (fun t b => by rw [iB_f (fun q => e t b q.1 q.2.2)]; omega), asum_zero]
  have z3 : ∀ (Z : (Int → Int) → Prop) m, (∀ t, Z t → Y t) → ¬ EXy w h sh st R Ch L Z m := fun Z m k ⟨t, b, s, _, y⟩ => e t b s (k t y)
  exact ⟨fun m _ _ => by rw [z1]; omega, fun _ _ => rfl, fun _ _ => rfl, ⟨s1, fun m _ => ⟨Or.inl, fun q => q.elim id (fun q => absurd q (z3 _ m (fun _ y => y)))⟩⟩, fun i i0 i1 => ⟨s2 i i0 i1, fun m _ => ⟨⟨Or.inl, fun q => q.elim id (fun q => absurd q (z3 _ m (fun _ y => y.1)))⟩, ⟨Or.inl, fun q => q.elim id (fun q => absurd q (z3 _ m (fun _ y => y.1)))⟩⟩⟩, Or.inr (fun m _ _ => by rw [z2]; omega)⟩
