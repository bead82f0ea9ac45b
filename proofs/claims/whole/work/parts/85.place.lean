/-! the search through the groups -/
/-- what the search knows at a group: numbers' rests and unknown cells, as far as groups are settled -/
def PI (w h sh : Int) (Ch : Int → Prop) (L : List Int) (g : Int) (gz links le rs0 uk0 pk rs uk : Int → Int) : Prop :=
  (∀ n, rs n = rs0 n - sumL (cellsL g) (fun i => qk links le i n * pk i)) ∧ (∀ n, uk n = uk0 n - sumL (cellsL g) (fun i => qk links le i n * gz i)) ∧ (∀ n, Ch n → (∃ d ∈ NB w h sh n, d ∈ L) → 0 ≤ rs n ∧ rs n ≤ uk n)
theorem cells_cut {g N : Int} {f : Int → Int} (h0 : 0 ≤ g) (h1 : g ≤ N) : ∃ r, cellsL N = cellsL g ++ r ∧ ∀ i ∈ r, g ≤ i ∧ i < N := by
  obtain ⟨r, er⟩ := cells_split h0 h1
  refine ⟨r, er, fun i mi => ?_⟩
  have m : i ∈ cellsL N := by rw [er]; exact List.mem_append.2 (Or.inr mi)
  have hi := mem_cells.1 m
  refine ⟨?_, hi.2⟩
  apply Classical.byContradiction
  intro k
  have nd : (cellsL N).Nodup := cells_nd
  rw [er] at nd
  exact (List.nodup_append.1 nd).2.2 i (mem_cells.2 ⟨hi.1, by omega⟩) i mi rfl
theorem qk_b {links le : Int → Int} {i n : Int} : 0 ≤ qk links le i n ∧ qk links le i n ≤ 1 := iB_b _
/-- a way that keeps the numbers has a number of mines in the group that the bounds let pass -/
theorem PI.fits {w h sh N g : Int} {st R go gz links le rs0 uk0 pk rs uk t : Int → Int} {Ch : Int → Prop} {L : List Int} (ok : okB w h sh) (cok : ChOk w h sh st Ch) (gc : GC w h sh st Ch L N go gz links le) (h0 : ∀ n, Ch n → (∃ d ∈ NB w h sh n, d ∈ L) → rs0 n = R n ∧ uk0 n = sumL (cellsL N) (fun i => qk links le i n * gz i)) (pi : PI w h sh Ch L g gz links le rs0 uk0 pk rs uk) (hg : 0 ≤ g ∧ g < N) (bt : Bn L t) (sat : SatL w h sh st R Ch L t) (gy : GY L go pk g t) :
    (0 ≤ sumL (Gl L go g) t ∧ sumL (Gl L go g) t ≤ gz g) ∧ ∀ n ∈ LKl links le g, sumL (Gl L go g) t ≤ rs n ∧ rs n - uk n + gz g ≤ sumL (Gl L go g) t := by
  have gb : ∀ i, 0 ≤ i → i < N → 0 ≤ sumL (Gl L go i) t ∧ sumL (Gl L go i) t ≤ gz i := by
    intro i i0 i1
    have := sum_le_len (l := Gl L go i) (t := t) (fun c => (bt c).1)
    have := (gc.2.2.2.2.2.2 i i0 i1).1
    omega
  refine ⟨gb g hg.1 hg.2, fun n hn => ?_⟩
  obtain ⟨hc, ht⟩ := gc.lk ok cok hg hn
  have q1 : qk links le g n = 1 := iB_t hn
  have e := sat n hc ht
  unfold Sat1 at e
  rw [gc.num ok cok hc ht] at e
  obtain ⟨r, er, hr⟩ := cells_cut (f := fun _ => 0) (g := g + 1) (N := N) (by omega) (by omega)
  rw [er, cells_succ hg.1, sumL_append, sumL_snoc] at e
  have e1 := pi.1 n
  have e2 := pi.2.1 n
  obtain ⟨z1, z2⟩ := h0 n hc ht
  rw [er, cells_succ hg.1, sumL_append, sumL_snoc] at z2
  have e3 : sumL (cellsL g) (fun i => qk links le i n * sumL (Gl L go i) t) = sumL (cellsL g) (fun i => qk links le i n * pk i) := sumL_congr (fun i mi => by rw [gy i (mem_cells.1 mi).1 (mem_cells.1 mi).2])
  have r0 : 0 ≤ sumL r (fun i => qk links le i n * sumL (Gl L go i) t) := sumL_pos (fun i mi => Int.mul_nonneg qk_b.1 (gb i (by have := hr i mi; omega) (hr i mi).2).1)
  have r1 : 0 ≤ sumL r (fun i => qk links le i n * (gz i - sumL (Gl L go i) t)) := sumL_pos (fun i mi => Int.mul_nonneg qk_b.1 (by have := gb i (by have := hr i mi; omega) (hr i mi).2; omega))
  have r2 : sumL r (fun i => qk links le i n * gz i) = sumL r (fun i => qk links le i n * (gz i - sumL (Gl L go i) t)) + sumL r (fun i => qk links le i n * sumL (Gl L go i) t) := sumL_add (fun i _ => by rw [← Int.mul_add]; congr 1; omega)
  rw [q1] at e z2
  omega
/-- and each number that passes goes on well -/
theorem PI.next {w h sh N g k : Int} {st go gz links le rs0 uk0 pk pk' rs uk : Int → Int} {Ch : Int → Prop} {L : List Int} (ok : okB w h sh) (cok : ChOk w h sh st Ch) (gc : GC w h sh st Ch L N go gz links le) (pi : PI w h sh Ch L g gz links le rs0 uk0 pk rs uk) (hg : 0 ≤ g ∧ g < N) (hk : ∀ n ∈ LKl links le g, k ≤ rs n ∧ rs n - uk n + gz g ≤ k) (ep : ∀ i, 0 ≤ i → i < g → pk' i = pk i) (eg : pk' g = k) : PI w h sh Ch L (g + 1) gz links le rs0 uk0 pk' (asg (LKl links le g) k rs) (asg (LKl links le g) (gz g) uk) := by
  refine ⟨fun n => ?_, fun n => ?_, fun n hc ht => ?_⟩
  · rw [cells_succ hg.1, sumL_snoc]
    have e3 : sumL (cellsL g) (fun i => qk links le i n * pk' i) = sumL (cellsL g) (fun i => qk links le i n * pk i) := sumL_congr (fun i mi => by rw [ep i (mem_cells.1 mi).1 (mem_cells.1 mi).2])
    have := pi.1 n
    unfold asg
    by_cases q : n ∈ LKl links le g
    · rw [if_pos q, show qk links le g n = 1 from iB_t q, eg]; omega
    · rw [if_neg q, show qk links le g n = 0 from iB_f q]; omega
  · rw [cells_succ hg.1, sumL_snoc]
    have := pi.2.1 n
    unfold asg
    by_cases q : n ∈ LKl links le g
    · rw [if_pos q, show qk links le g n = 1 from iB_t q]; omega
    · rw [if_neg q, show qk links le g n = 0 from iB_f q]; omega
  · have := pi.2.2 n hc ht
    unfold asg
    by_cases q : n ∈ LKl links le g
    · have := hk n q
      rw [if_pos q, if_pos q]; omega
    · rw [if_neg q, if_neg q]; omega
theorem PI.bd {w h sh N g n : Int} {st R go gz links le rs0 uk0 pk rs uk : Int → Int} {Ch : Int → Prop} {L : List Int} (ok : okB w h sh) (cok : ChOk w h sh st Ch) (gc : GC w h sh st Ch L N go gz links le) (h0 : ∀ n, Ch n → (∃ d ∈ NB w h sh n, d ∈ L) → rs0 n = R n ∧ uk0 n = sumL (cellsL N) (fun i => qk links le i n * gz i)) (pi : PI w h sh Ch L g gz links le rs0 uk0 pk rs uk) (hg : 0 ≤ g ∧ g ≤ N) (hc : Ch n) (ht : ∃ d ∈ NB w h sh n, d ∈ L) : 0 ≤ rs n ∧ rs n ≤ uk n ∧ uk n ≤ 16 := by
  have a := pi.2.2 n hc ht
  have b := pi.2.1 n
  have c := (h0 n hc ht).2
  have gnn : ∀ i, 0 ≤ i → i < N → 0 ≤ gz i := fun i i0 i1 => by have := (gc.2.2.2.2.2.2 i i0 i1).1; omega
  have d : 0 ≤ sumL (cellsL g) (fun i => qk links le i n * gz i) := sumL_pos (fun i mi => Int.mul_nonneg qk_b.1 (gnn i (mem_cells.1 mi).1 (by have := (mem_cells.1 mi).2; omega)))
  have e : sumL (cellsL N) (fun i => (1 - qk links le i n) * gz i) ≥ 0 := sumL_pos (fun i mi => Int.mul_nonneg (by have := qk_b (links := links) (le := le) (i := i) (n := n); omega) (gnn i (mem_cells.1 mi).1 (mem_cells.1 mi).2))
  have f : sumL (cellsL N) gz = sumL (cellsL N) (fun i => (1 - qk links le i n) * gz i) + sumL (cellsL N) (fun i => qk links le i n * gz i) := sumL_add (fun i _ => by rw [← Int.add_mul, show 1 - qk links le i n + qk links le i n = 1 by omega, Int.one_mul])
  have l : sumL (cellsL N) gz = L.length := by
    have := gsum (f := fun _ => 1) gc.1 gc.2.2.2.2.2.1 gc.2.2.2.2.1.1
    rw [sumL_const (k := 1) (fun _ _ => rfl)] at this
    have e2 : sumL (cellsL N) gz = sumL (cellsL N) (fun i => sumL (Gl L go i) (fun _ => 1)) := sumL_congr (fun i mi => by
      rw [sumL_const (k := 1) (fun _ _ => rfl), (gc.2.2.2.2.2.2 i (mem_cells.1 mi).1 (mem_cells.1 mi).2).1.1]; omega)
    omega
  have := gc.2.2.2.1
  omega
/-- all settled -/
theorem PI.leaf {w h sh N ag c : Int} {st R go gz links le rs0 uk0 pk rs uk : Int → Int} {Ch : Int → Prop} {L : List Int} (ok : okB w h sh) (cok : ChOk w h sh st Ch) (gc : GC w h sh st Ch L N go gz links le) (h0 : ∀ n, Ch n → (∃ d ∈ NB w h sh n, d ∈ L) → rs0 n = R n ∧ uk0 n = sumL (cellsL N) (fun i => qk links le i n * gz i)) (pi : PI w h sh Ch L N gz links le rs0 uk0 pk rs uk) (hpk : ∀ i, 0 ≤ i → i < N → 0 ≤ pk i ∧ pk i ≤ gz i) (ha : ag = -1 ∨ (c ∈ L ∧ ag = go c)) : Leaf w h sh st R Ch L N go gz pk (sumL (cellsL N) pk) (PV L go pk N.toNat) ag c := by
  have hN := gc.2.2.2.2.1
  have eN : ((N.toNat : Nat) : Int) = N := by omega
  have pm := FLg_perm gc.1 gc.2.2.2.2.2.1
  have ev : PV L go pk N.toNat = asum L (fun t => iB (GY L go pk N t)) := by
    rw [asum_perm pm, ← cnt_all gc.1, eN]
  refine ⟨fun t bt gy => ⟨fun n hc ht => ?_, ?_⟩, ev, ?_, ?_⟩
  · unfold Sat1
    rw [gc.num ok cok hc ht]
    have e3 : sumL (cellsL N) (fun i => qk links le i n * sumL (Gl L go i) t) = sumL (cellsL N) (fun i => qk links le i n * pk i) := sumL_congr (fun i mi => by rw [gy i (mem_cells.1 mi).1 (mem_cells.1 mi).2])
    have a := pi.2.2 n hc ht
    have b := pi.2.1 n
    have d := pi.1 n
    obtain ⟨z1, z2⟩ := h0 n hc ht
    omega
  · rw [gsum gc.1 gc.2.2.2.2.2.1 hN.1]
    exact sumL_congr (fun i mi => gy i (mem_cells.1 mi).1 (mem_cells.1 mi).2)
  · have pos : 0 < asum L (fun t => iB (GY L go pk N t)) := by
      rw [← ev]
      refine PV_pos (fun i i0 i1 => ?_)
      have a := hpk i i0 (by omega)
      have b := (gc.2.2.2.2.2.2 i i0 (by omega)).1
      omega
    obtain ⟨t, bt, y⟩ := (asum_pos (fun t _ => (iB_b _).1)).1 pos
    exact ⟨t, bt, iB_pos.1 y⟩
  · rcases ha with ha | ⟨hc, ha⟩
    · exact Or.inl ha
    · have hg := gc.2.2.2.2.2.1 c hc
      have gz8 := gc.gz ok cok hg
      have p8 := hpk (go c) hg.1 hg.2
      subst ha
      refine Or.inr ⟨hg, ⟨p8.1, by omega⟩, ⟨gz8.2.1, gz8.2.2⟩, ?_⟩
      have := cnt_one (pk := pk) (k := N.toNat) gc.1 hc hg.1 (by omega) ⟨p8.1, by omega⟩ (by omega)
      rw [eN] at this
      rw [asum_perm pm, gz8.1, this, Int.mul_comm]
/-- the bounds on what the tables hold -/
def TB (w h sh : Int) (st R : Int → Int) (Ch : Int → Prop) (L : List Int) (N : Int) (p ts sz ag c : Int) (Y : (Int → Int) → Prop) (pS ta as gm gs : Int → Int) : Prop :=
  (∀ m, 0 ≤ m → m ≤ sz → 0 ≤ ta (ts + m) ∧ ta (ts + m) + CNy w h sh st R Ch L Y m ≤ 65536) ∧ (ag = -1 ∨ ∀ m, 0 ≤ m → m ≤ sz → 0 ≤ as m ∧ as m + CNc w h sh st R Ch L c Y m ≤ 65536) ∧ sm (pS p) ∧ (∀ i, 0 ≤ i → i < N → sm (gm i) ∧ sm (gs i))
theorem TB.step {w h sh N p ts sz ag c : Int} {st R go gz : Int → Int} {Ch : Int → Prop} {L : List Int} {Y A B : (Int → Int) → Prop} {pS ta as gm gs pS' ta' as' gm' gs' : Int → Int} (b : TB w h sh st R Ch L N p ts sz ag c Y pS ta as gm gs) (a : Adds w h sh st R Ch L N go gz p ts sz ag c A pS ta as gm gs pS' ta' as' gm' gs') (hd : ∀ t, Bn L t → ¬ (A t ∧ B t)) (hs : ∀ t, A t ∨ B t → Y t) : TB w h sh st R Ch L N p ts sz ag c B pS' ta' as' gm' gs' := by
  obtain ⟨b1, b2, b3, b4⟩ := b
  obtain ⟨a1, a2, a3, a4, a5, a6⟩ := a
  refine ⟨fun m m0 m1 => ?_, ?_, a4.1, fun i i0 i1 => (a5 i i0 i1).1⟩
  · have q1 := CNy_or (w := w) (h := h) (sh := sh) (st := st) (R := R) (Ch := Ch) (m := m) hd
    have q2 := CNy_le (w := w) (h := h) (sh := sh) (st := st) (R := R) (Ch := Ch) (L := L) (m := m) hs
    have q3 := CNy_le (w := w) (h := h) (sh := sh) (st := st) (R := R) (Ch := Ch) (L := L) (m := m) (Y := A) (Z := A) (fun _ y => y)
    have := b1 m m0 m1
    have := a1 m m0 m1
    omega
  · rcases b2 with b2 | b2
    · exact Or.inl b2
    · rcases a6 with a6 | a6
      · exact Or.inl a6
      · refine Or.inr (fun m m0 m1 => ?_)
        have q1 := CNc_or (w := w) (h := h) (sh := sh) (st := st) (R := R) (Ch := Ch) (m := m) (c := c) hd
        have q2 := CNc_le (w := w) (h := h) (sh := sh) (st := st) (R := R) (Ch := Ch) (L := L) (m := m) (c := c) hs
        have q3 := CNc_le (w := w) (h := h) (sh := sh) (st := st) (R := R) (Ch := Ch) (L := L) (m := m) (c := c) (Y := A) (Z := A) (fun _ y => y)
        have := b2 m m0 m1
        have := a6 m m0 m1
        omega
theorem TB.congr {w h sh N p ts sz ag c : Int} {st R : Int → Int} {Ch : Int → Prop} {L : List Int} {Y Z : (Int → Int) → Prop} {pS ta as gm gs : Int → Int} (b : TB w h sh st R Ch L N p ts sz ag c Y pS ta as gm gs) (e : ∀ t, Bn L t → SatL w h sh st R Ch L t → (Y t ↔ Z t)) : TB w h sh st R Ch L N p ts sz ag c Z pS ta as gm gs := by
  obtain ⟨b1, b2, b3, b4⟩ := b
  exact ⟨fun m m0 m1 => by rw [← CNy_congr e]; exact b1 m m0 m1, b2.imp id (fun q m m0 m1 => by rw [← CNc_congr e]; exact q m m0 m1), b3, b4⟩
theorem s_place {w h sh N p sz ag c : Int} {st R go gz links le rs0 uk0 ps : Int → Int} {Ch : Int → Prop} {L : List Int} (ok : okB w h sh) (cok : ChOk w h sh st Ch) (gc : GC w h sh st Ch L N go gz links le) (h0 : ∀ n, Ch n → (∃ d ∈ NB w h sh n, d ∈ L) → rs0 n = R n ∧ uk0 n = sumL (cellsL N) (fun i => qk links le i n * gz i)) (ha : ag = -1 ∨ (c ∈ L ∧ ag = go c)) (hp0 : 0 ≤ p ∧ p < 144) (hps : 0 ≤ ps p ∧ ps p + p + sz < 288) (hsz : sz = L.length) :
    ∀ (d : Nat) (g mines v : Int) (rs uk pS ta as pk gm gs : Int → Int) (post : (Int → Int) → (Int → Int) → (Int → Int) → (Int → Int) → (Int → Int) → (Int → Int) → (Int → Int) → (Int → Int) → Prop), 0 ≤ g → g ≤ N → N - g < d → mines = sumL (cellsL g) pk → v = PV L go pk g.toNat → (∀ i, 0 ≤ i → i < g → 0 ≤ pk i ∧ pk i ≤ gz i) → PI w h sh Ch L g gz links le rs0 uk0 pk rs uk → TB w h sh st R Ch L N p (ps p + p) sz ag c (GY L go pk g) pS ta as gm gs →
      (∀ pS' ta' as' pk' gm' gs' : Int → Int, Adds w h sh st R Ch L N go gz p (ps p + p) sz ag c (GY L go pk g) pS ta as gm gs pS' ta' as' gm' gs' → (∀ i, 0 ≤ i → i < g → pk' i = pk i) → post rs uk pS' ta' as' pk' gm' gs') → P_X9_place d post N ag p rs uk ps pS ta as gz links le pk gm gs g mines v := by
  intro d
  induction d with
  | zero => intro g _ _ _ _ _ _ _ _ _ _ _ g0 g1 gd; omega
  | succ d ih =>
    intro g mines v rs uk pS ta as pk gm gs post g0 g1 gd em ev hpk pi tbl hp
    have hle := wh_le ok
    have hN := gc.2.2.2.2.1
    have hL16 := gc.2.2.2.1
    have pvb := PV_le (go := go) (pk := pk) (k := g.toNat) gc.1 hL16
    unfold P_X9_place
    refine ⟨g = N, ⟨fun z => by omega, fun z => ⟨fun z1 => ?_, fun z1 => by omega⟩⟩, fun eg => ?_⟩
    rotate_left
    · subst eg
      have lf := PI.leaf ok cok gc h0 pi hpk ha
      rw [← em, ← ev] at lf
      have mb : 0 ≤ mines ∧ mines ≤ sz := by
        obtain ⟨t, bt, gy⟩ := lf.2.2.1
        have e1 := (lf.1 t bt gy).2
        have := sum_le_len (l := L) (t := t) (fun c => (bt c).1)
        omega
      exact s_record lf ⟨by omega, by omega⟩ hp0 hps (by omega) mb (by omega) hpk tbl.1 tbl.2.1 tbl.2.2.1 tbl.2.2.2 (fun pS' ta' as' gm' gs' a => hp _ _ _ _ _ _ a (fun _ _ _ => rfl))
    have hg : 0 ≤ g ∧ g < N := ⟨g0, by omega⟩
    have gzg := gc.gz ok cok hg
    have hlg := (gc.2.2.2.2.2.2 g hg.1 hg.2).2.1
    have lknd := gc.nd hg
    have bdn : ∀ n ∈ LKl links le g, (0 ≤ n ∧ n < 144) ∧ (0 ≤ rs n ∧ rs n ≤ 16) ∧ (0 ≤ uk n ∧ uk n ≤ 16) := by
      intro n hn
      obtain ⟨hc, ht⟩ := gc.lk ok cok hg hn
      have := PI.bd ok cok gc h0 pi ⟨g0, g1⟩ hc ht
      have := (cok n hc).1
      omega
    refine ⟨by omega, fun size es rsz => ⟨by omega, fun x7 e7 => ⟨fun n lo hi x => n = (le g - x).toNat ∧ 8 * g ≤ x ∧ x ≤ le g ∧ (0 ≤ lo ∧ lo ≤ 8) ∧ (0 ≤ hi ∧ hi ≤ size) ∧ ∀ k, (lo ≤ k ∧ k ≤ hi) ↔ (0 ≤ k ∧ k ≤ size) ∧ ∀ n ∈ seg links (8 * g) (x - 8 * g).toNat, k ≤ rs n ∧ rs n - uk n + size ≤ k, ⟨_, rfl, by omega, by omega, by omega, by omega, fun k => ⟨fun y => ⟨y, fun n mn => by rw [e7, show (g * 8 - 8 * g).toNat = 0 by omega, seg_zero] at mn; exact absurd mn List.not_mem_nil⟩, fun y => y.1⟩⟩, ?_⟩⟩⟩
    subst es
    rintro n lo hi x rlo rhi rx ⟨rfl, b1, b2, b3, b4, b5⟩
    refine ⟨by omega, fun el eel rel => ⟨fun z2 => ?_, fun z2 => ?_⟩⟩
    rotate_left
    · -- one number more
      have hin : links x ∈ LKl links le g := mem_seg.2 ⟨x, b1, by omega, rfl⟩
      have hx := bdn _ hin
      have hxle : rs (links x) ≤ uk (links x) := by
        obtain ⟨hc, ht⟩ := gc.lk ok cok hg hin
        exact (pi.2.2 _ hc ht).2
      have ss : seg links (8 * g) (x + 1 - 8 * g).toNat = seg links (8 * g) (x - 8 * g).toNat ++ [links x] := by
        rw [show (x + 1 - 8 * g).toNat = (x - 8 * g).toNat + 1 by omega, seg_succ, show 8 * g + (((x - 8 * g).toNat : Nat) : Int) = x by omega]
      refine ⟨by omega, fun v1 e1 r1 => ?_⟩
      subst e1
      refine ⟨by omega, fun v2 e2 r2 => ⟨by split <;> omega, fun hi2 e3 => ⟨by omega, fun v4 e4 r4 => ?_⟩⟩⟩
      subst e4
      refine ⟨by omega, fun v5 e5 r5 => ⟨by omega, by split <;> omega, fun lo2 e6 => nx (by omega) ⟨_, ?_, rfl, by omega, by omega, ?_, ?_, fun k => ?_⟩⟩⟩
      · omega
      · rw [e6]; split <;> omega
      · rw [e3]; split <;> omega
      · have key : (lo2 ≤ k ∧ k ≤ hi2) ↔ (lo ≤ k ∧ k ≤ hi) ∧ (k ≤ rs (links x) ∧ rs (links x) - uk (links x) + gz g ≤ k) := by
          rw [e6, e3, e2, e5]
          split <;> split <;> omega
        rw [key, b5 k, ss]
        constructor
        · rintro ⟨⟨y1, y2⟩, y3⟩
          refine ⟨y1, fun n mn => ?_⟩
          rcases List.mem_append.1 mn with mn | mn
          · exact y2 n mn
          · rw [List.mem_singleton.1 mn]; exact y3
        · rintro ⟨y1, y2⟩
          exact ⟨⟨y1, fun n mn => y2 n (List.mem_append.2 (Or.inl mn))⟩, y2 _ (List.mem_append.2 (Or.inr (List.mem_singleton.2 rfl)))⟩
    have ex : x = le g := by omega
    have b6 : ∀ k, (lo ≤ k ∧ k ≤ hi) ↔ (0 ≤ k ∧ k ≤ gz g) ∧ ∀ n ∈ LKl links le g, k ≤ rs n ∧ rs n - uk n + gz g ≤ k := by
      intro k
      have := b5 k
      rw [ex] at this
      exact this
    have fit : ∀ t, Bn L t → SatL w h sh st R Ch L t → GY L go pk g t → lo ≤ sumL (Gl L go g) t ∧ sumL (Gl L go g) t ≤ hi := fun t bt sat gy => (b6 _).2 (PI.fits ok cok gc h0 pi hg bt sat gy)
    clear b5
    refine ⟨fun z3 => ?_, fun z3 => hp _ _ _ _ _ _ (Adds.none (fun t bt sat gy => by have := fit t bt sat gy; omega) tbl.2.2.1 tbl.2.2.2) (fun _ _ _ => rfl)⟩
    refine s_assign ⟨by omega, by omega⟩ hlg lknd (fun n hn => by have := bdn n hn; omega) (by omega) (by omega) ?_
    refine ⟨fun n k rs' uk' pS' ta' as' pk' gm' gs' => n = (hi + 1 - k).toNat ∧ lo ≤ k ∧ k ≤ hi + 1 ∧ rs' = asg (LKl links le g) k rs ∧ uk' = asg (LKl links le g) (gz g) uk ∧ (∀ i, 0 ≤ i → i < g → pk' i = pk i) ∧ Adds w h sh st R Ch L N go gz p (ps p + p) sz ag c (fun t => GY L go pk g t ∧ sumL (Gl L go g) t < k) pS ta as gm gs pS' ta' as' gm' gs', ⟨_, rfl, by omega, by omega, rfl, rfl, fun _ _ _ => rfl, Adds.none (fun t bt sat gy => by have := fit t bt sat gy.1; omega) tbl.2.2.1 tbl.2.2.2⟩, ?_⟩
    rintro n k rs1 uk1 pS1 ta1 as1 pk1 gm1 gs1 rk ⟨rfl, c1, c2, c3, c4, c5, c6⟩
    have bdA : ∀ (a b : Int), 0 ≤ a → a ≤ 9 → 0 ≤ b → b ≤ 9 → ∀ n ∈ LKl links le g, (0 ≤ n ∧ n < 144) ∧ (-1000 ≤ asg (LKl links le g) a rs n ∧ asg (LKl links le g) a rs n ≤ 1000) ∧ (-1000 ≤ asg (LKl links le g) b uk n ∧ asg (LKl links le g) b uk n ≤ 1000) := by
      intro a b a0 a1 b0 b1 n hn
      have := bdn n hn
      unfold asg
      rw [if_pos hn, if_pos hn]
      omega
    refine ⟨fun z4 => ⟨by omega, by omega, ?_⟩, fun z4 => ?_⟩
    · -- all tried
      have ek : k = hi + 1 := by omega
      rw [c3, c4]
      refine s_assign ⟨by omega, by omega⟩ hlg lknd (bdA k (gz g) (by omega) (by omega) (by omega) (by omega)) (by omega) (by omega) ?_
      rw [asg_asg, asg_asg, show -hi - 1 + k = 0 by omega, show -gz g + gz g = 0 by omega, asg_zero, asg_zero]
      exact hp _ _ _ _ _ _ (c6.congr (fun t bt sat => ⟨fun y => y.1, fun y => ⟨y, by have := fit t bt sat y; omega⟩⟩)) c5
    · -- one more
      have kin := (b6 k).1 ⟨c1, by omega⟩
      refine ⟨by omega, fun pk2 ep2 => ⟨by omega, fun v52 e52 => ⟨by omega, ?_⟩⟩⟩
      have p2l : ∀ i, 0 ≤ i → i < g → pk2 i = pk i := fun i i0 i1 => by rw [ep2, upZ_n _ _ (by omega)]; exact c5 i i0 i1
      have p2g : pk2 g = k := by rw [ep2, upZ_s]
      have em2 : mines + k = sumL (cellsL (g + 1)) pk2 := by
        rw [cells_succ g0, sumL_snoc, p2g, em, sumL_congr (g := pk) (fun i mi => p2l i (mem_cells.1 mi).1 (mem_cells.1 mi).2)]
      have ev2 : v * v52 = PV L go pk2 (g + 1).toNat := by
        rw [show (g + 1).toNat = g.toNat + 1 by omega]
        show _ = PV L go pk2 g.toNat * bn (Gl L go ((g.toNat : Nat) : Int)).length (pk2 ((g.toNat : Nat) : Int))
        rw [show ((g.toNat : Nat) : Int) = g by omega, p2g, PV_congr (pk' := pk) (fun i i0 i1 => p2l i i0 (by omega)), ← ev, e52]
        have := bn_ch (Gl L go g).length (by omega) k.toNat (by omega)
        rw [show ((k.toNat : Nat) : Int) = k by omega] at this
        rw [← this, show gz g * 9 + k = 9 * ((Gl L go g).length : Int) + k by omega]
      have hpk2 : ∀ i, 0 ≤ i → i < g + 1 → 0 ≤ pk2 i ∧ pk2 i ≤ gz i := by
        intro i i0 i1
        by_cases e : i = g
        · rw [e, p2g]; exact kin.1
        · rw [p2l i i0 (by omega)]; exact hpk i i0 (by omega)
      have pi2 := PI.next (k := k) (pk' := pk2) ok cok gc pi hg kin.2 p2l p2g
      have gy2 : ∀ t, GY L go pk2 (g + 1) t ↔ GY L go pk g t ∧ sumL (Gl L go g) t = k := by
        intro t
        rw [GY_succ g0, p2g]
        exact and_congr ⟨fun y i i0 i1 => by rw [← p2l i i0 i1]; exact y i i0 i1, fun y i i0 i1 => by rw [p2l i i0 i1]; exact y i i0 i1⟩ Iff.rfl
      have tb2 : TB w h sh st R Ch L N p (ps p + p) sz ag c (GY L go pk2 (g + 1)) pS1 ta1 as1 gm1 gs1 := tbl.step c6 (fun t _ y => by have := ((gy2 t).1 y.2).2; have := y.1.2; omega) (fun t y => y.elim (fun y => y.1) (fun y => ((gy2 t).1 y).1))
      have pvb2 := PV_le (go := go) (pk := pk2) (k := (g + 1).toNat) gc.1 hL16
      have mb : mines ≤ 144 ∧ 0 ≤ mines := by
        have q1 : sumL (cellsL g) pk ≤ sumL (cellsL g) gz := by
          have : 0 ≤ sumL (cellsL g) (fun i => gz i - pk i) := sumL_pos (fun i mi => by have := hpk i (mem_cells.1 mi).1 (mem_cells.1 mi).2; omega)
          have : sumL (cellsL g) gz = sumL (cellsL g) (fun i => gz i - pk i) + sumL (cellsL g) pk := sumL_add (fun i _ => by omega)
          omega
        have q2 : sumL (cellsL g) gz ≤ 8 * g := by
          have : 0 ≤ sumL (cellsL g) (fun i => 8 - gz i) := sumL_pos (fun i mi => by have := gc.gz ok cok (g := i) ⟨(mem_cells.1 mi).1, by have := (mem_cells.1 mi).2; omega⟩; omega)
          have q3 : sumL (cellsL g) (fun _ => 8) = sumL (cellsL g) (fun i => 8 - gz i) + sumL (cellsL g) gz := sumL_add (fun i _ => by omega)
          rw [sumL_const (k := 8) (fun _ _ => rfl)] at q3
          have := cells_len g0
          omega
        have q4 : 0 ≤ sumL (cellsL g) pk := sumL_pos (fun i mi => (hpk i (mem_cells.1 mi).1 (mem_cells.1 mi).2).1)
        omega
      refine ⟨by omega, by rw [ev2]; omega, ?_⟩
      rw [c3, c4]
      refine ih (g + 1) _ _ _ _ _ _ _ _ _ _ _ (by omega) (by omega) (by omega) em2 ev2 hpk2 pi2 tb2 (fun pS3 ta3 as3 pk3 gm3 gs3 a3 p3 => ?_)
      refine s_assign ⟨by omega, by omega⟩ hlg lknd (bdA k (gz g) (by omega) (by omega) (by omega) (by omega)) (by omega) (by omega) ?_
      refine nx (by omega) ⟨_, ?_, rfl, by omega, by omega, ?_, ?_, fun i i0 i1 => ?_, ?_⟩
      · omega
      · rw [asg_asg, Int.add_comm]
      · rw [asg_asg, Int.zero_add]
      · rw [p3 i i0 (by omega)]; exact p2l i i0 i1
      · refine (c6.trans a3 (fun t _ y => by have := ((gy2 t).1 y.2).2; have := y.1.2; omega)).congr (fun t _ _ => ?_)
        rw [gy2 t]
        constructor
        · rintro (y | y)
          · exact ⟨y.1, by omega⟩
          · exact ⟨y.1, by omega⟩
        · rintro ⟨y1, y2⟩
          by_cases e : sumL (Gl L go g) t = k
          · exact Or.inr ⟨y1, e⟩
          · exact Or.inl ⟨y1, by omega⟩
