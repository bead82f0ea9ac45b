/-! good states, and the log of moves -/
def GSt (w h sh : Int) (mined number st : Int → Int) : Prop :=
  (∀ c, 0 ≤ c → c < w * h → 0 ≤ st c ∧ st c ≤ 3) ∧ (∀ c, 0 ≤ c → c < w * h → st c = 2 → mined c = 0) ∧ (∀ c, 0 ≤ c → c < w * h → st c = 3 → mined c = 1) ∧ (∀ c, 0 ≤ c → c < w * h → st c = 2 → number c = 0 → ∀ d ∈ NB w h sh c, ¬ st d ≤ 1)
def hits (n : Int) (st : Int → Int) : Int := sumL (cellsL n) (fun c => iH (st c))
theorem hits_b {n : Int} {st : Int → Int} (h : 0 ≤ n) : 0 ≤ hits n st ∧ hits n st ≤ n := by
  have := sumL_bound (l := cellsL n) (f := fun c => iH (st c)) (fun x _ => iH_b _)
  have := cells_len h
  unfold hits
  omega
theorem hits_congr {n : Int} {a b : Int → Int} (h : Eqc n a b) : hits n a = hits n b := sumL_congr (fun x hx => by have := mem_cells.mp hx; rw [h x this.1 this.2])
theorem kn_congr {n : Int} {a b : Int → Int} (h : Eqc n a b) : kn n a = kn n b := sumL_congr (fun x hx => by have := mem_cells.mp hx; rw [h x this.1 this.2])
theorem hits_up {n c v : Int} {st : Int → Int} (hc : 0 ≤ c ∧ c < n) : hits n (upZ st c v) = hits n st + iH v - iH (st c) := by
  have := sumL_change (f := fun c => iH (st c)) (g := fun x => iH (upZ st c v x)) (x := c) (pw_nodup (cells_pw (n := n))) (fun y _ e => by simp only [upZ_n _ _ e])
  unfold hits
  rw [this, if_pos (mem_cells.mpr hc)]
  simp only [upZ_s]
  omega
theorem GSt.unc {w h sh cell : Int} {mined number st st' : Int → Int} (hc : 0 ≤ cell ∧ cell < w * h) (g : GSt w h sh mined number st) (hu : st cell ≤ 1) (u : UncR w h sh mined number st cell st') : GSt w h sh mined number st' ∧ hits (w * h) st' = hits (w * h) st + mined cell := by
  obtain ⟨g1, g2, g3, g4⟩ := g
  rcases u with ⟨m, u⟩ | ⟨m, u1, u2, u3, u4⟩
  · constructor
    · refine ⟨fun c h0 h1 => ?_, fun c h0 h1 e => ?_, fun c h0 h1 e => ?_, fun c h0 h1 e hz d hd => ?_⟩
      · rw [u c h0 h1]
        by_cases q : c = cell
        · rw [q, upZ_s]; omega
        · rw [upZ_n _ _ q]; exact g1 c h0 h1
      · rw [u c h0 h1] at e
        by_cases q : c = cell
        · rw [q, upZ_s] at e; omega
        · rw [upZ_n _ _ q] at e; exact g2 c h0 h1 e
      · rw [u c h0 h1] at e
        by_cases q : c = cell
        · rw [q]; exact m
        · rw [upZ_n _ _ q] at e; exact g3 c h0 h1 e
      · have dc := nb_cell hd
        rw [u c h0 h1] at e
        rw [u d dc.1 dc.2]
        by_cases q : c = cell
        · rw [q, upZ_s] at e; omega
        · rw [upZ_n _ _ q] at e
          by_cases q2 : d = cell
          · rw [q2, upZ_s]; omega
          · rw [upZ_n _ _ q2]; exact g4 c h0 h1 e hz d hd
    · rw [hits_congr u, hits_up hc, show iH 3 = 1 from rfl, show iH (st cell) = 0 from if_neg (by omega)]
      omega
  · constructor
    · refine ⟨fun c h0 h1 => ?_, fun c h0 h1 e => ?_, fun c h0 h1 e => ?_, fun c h0 h1 e hz d hd => ?_⟩
      · rcases u1 c h0 h1 with q | q
        · rw [q]; exact g1 c h0 h1
        · omega
      · rcases u1 c h0 h1 with q | q
        · exact g2 c h0 h1 (by omega)
        · exact q.2.2
      · rcases u1 c h0 h1 with q | q
        · exact g3 c h0 h1 (by omega)
        · omega
      · by_cases q : st' c = st c
        · have dc := nb_cell hd
          have := g4 c h0 h1 (by omega) hz d hd
          rcases u1 d dc.1 dc.2 with q2 | q2 <;> omega
        · exact u3 c h0 h1 (Or.inl q) hz d hd
    · rw [m]
      have : hits (w * h) st' = hits (w * h) st := sumL_congr (fun x hx => by
        have xc := mem_cells.mp hx
        rcases u1 x xc.1 xc.2 with q | q
        · rw [q]
        · rw [show iH (st' x) = 0 from if_neg (by omega), show iH (st x) = 0 from if_neg (by omega)])
      omega
theorem back_add {cd : Int → Int} {lo : Int} {j k : Nat} {st : Int → Int} : back cd lo (j + k) st = back cd lo j (back cd (lo + (j : Int)) k st) := by
  induction k generalizing st with
  | zero => rfl
  | succ k ih =>
    rw [← Nat.add_assoc, back_succ, ih, back_succ]
    congr 2
    rw [show lo + (((j + k : Nat)) : Int) = lo + (j : Int) + (k : Int) by omega]
/-- the log: each move's start, the state before it, what the reference keeps of it -/
def LOG (w h sh : Int) (mined number : Int → Int) (moves ch : Int) (st ms cd : Int → Int) (H : Int → Int64) (old : Int → Int) : Prop :=
  0 ≤ moves ∧ 0 ≤ ch ∧ ch ≤ moves + kn (w * h) st ∧ (∀ i, 0 ≤ i → i < ch → 0 ≤ cd i ∧ cd i < 4 * (w * h)) ∧
  (∀ m, 0 ≤ m → m < moves → (0 ≤ ms m ∧ ms m ≤ ch) ∧ GSt w h sh mined number (back cd (ms m) (ch - ms m).toNat st) ∧ ms m ≤ m + kn (w * h) (back cd (ms m) (ch - ms m).toNat st) ∧ (∀ c, 0 ≤ c → c < w * h → hD H m c = tr (back cd (ms m) (ch - ms m).toNat st c)) ∧ old m = 3 - hits (w * h) (back cd (ms m) (ch - ms m).toNat st)) ∧
  (∀ m m', 0 ≤ m → m ≤ m' → m' < moves → ms m ≤ ms m') ∧ (moves = 0 → ch = 0) ∧ (0 < moves → ms 0 = 0) ∧ (∀ c, 0 ≤ c → c < w * h → back cd 0 ch.toNat st c = 0)
theorem LOG.push {w h sh moves ch k : Int} {mined number st st' ms cd cd' old : Int → Int} {H H' : Int → Int64} (hwh : w * h ≤ 144) (L : LOG w h sh mined number moves ch st ms cd H old) (gs : GSt w h sh mined number st) (hk : 0 ≤ k) (hb : ch + k ≤ moves + 1 + kn (w * h) st') (hcd : ∀ j, j < ch → cd' j = cd j) (hbk : back cd' ch k.toNat st' = st) (hv : ∀ i, ch ≤ i → i < ch + k → 0 ≤ cd' i ∧ cd' i < 4 * (w * h))
    (hH : ∀ c, 0 ≤ c → c < w * h → hD H' moves c = tr (st c)) (hHo : ∀ j, j < 5 * moves → H' j = H j) : LOG w h sh mined number (moves + 1) (ch + k) st' (upZ ms moves ch) cd' H' (upZ old moves (3 - hits (w * h) st)) := by
  obtain ⟨l1, l2, l3, l4, l5, l6, l7, l8, l9⟩ := L
  have cut : ∀ lo, 0 ≤ lo → lo ≤ ch → back cd' lo (ch + k - lo).toNat st' = back cd lo (ch - lo).toNat st := by
    intro lo h0 h1
    rw [show (ch + k - lo).toNat = (ch - lo).toNat + k.toNat by omega, back_add, show lo + (((ch - lo).toNat : Nat) : Int) = ch by omega, hbk]
    exact back_congr (fun j _ h2 => hcd j (by omega))
  refine ⟨by omega, by omega, hb, fun i h0 h1 => ?_, fun m h0 h1 => ?_, fun m m' h0 h1 h2 => ?_, fun q => by omega, fun _ => ?_, fun c h0 h1 => ?_⟩
  · by_cases q : i < ch
    · rw [hcd i q]; exact l4 i h0 q
    · exact hv i (by omega) h1
  · by_cases q : m = moves
    · subst q
      rw [upZ_s, upZ_s, show (ch + k - ch).toNat = k.toNat by omega, hbk]
      exact ⟨⟨l2, by omega⟩, gs, l3, hH, rfl⟩
    · rw [upZ_n _ _ q, upZ_n _ _ q]
      obtain ⟨p1, p2, p3, p4, p5⟩ := l5 m h0 (by omega)
      rw [cut _ p1.1 p1.2]
      refine ⟨⟨p1.1, by omega⟩, p2, p3, fun c c0 c1 => ?_, p5⟩
      rw [← p4 c c0 c1]
      unfold hD
      rw [hHo _ (by omega)]
  · by_cases q : m' = moves
    · subst q
      rw [upZ_s]
      by_cases q2 : m = m'
      · subst q2; rw [upZ_s]; omega
      · rw [upZ_n _ _ q2]; exact (l5 m h0 (by omega)).1.2
    · rw [upZ_n _ _ q, upZ_n _ _ (by omega)]; exact l6 m m' h0 h1 (by omega)
  · by_cases q : moves = 0
    · subst q; rw [upZ_s]; exact l7 rfl
    · rw [upZ_n _ _ (by omega)]; exact l8 (by omega)
  · have := cut 0 (by omega) l2
    rw [show ch + k - 0 = ch + k by omega, show ch - 0 = ch by omega] at this
    rw [this]; exact l9 c h0 h1
theorem LOG.pop {w h sh moves ch : Int} {mined number st ms cd old : Int → Int} {H : Int → Int64} (L : LOG w h sh mined number moves ch st ms cd H old) (hm : 0 < moves) : LOG w h sh mined number (moves - 1) (ms (moves - 1)) (back cd (ms (moves - 1)) (ch - ms (moves - 1)).toNat st) ms cd H old := by
  obtain ⟨l1, l2, l3, l4, l5, l6, l7, l8, l9⟩ := L
  obtain ⟨p1, p2, p3, p4, p5⟩ := l5 (moves - 1) (by omega) (by omega)
  have cut : ∀ lo, 0 ≤ lo → lo ≤ ms (moves - 1) → back cd lo (ms (moves - 1) - lo).toNat (back cd (ms (moves - 1)) (ch - ms (moves - 1)).toNat st) = back cd lo (ch - lo).toNat st := by
    intro lo h0 h1
    rw [show (ch - lo).toNat = (ms (moves - 1) - lo).toNat + (ch - ms (moves - 1)).toNat by omega, back_add, show lo + (((ms (moves - 1) - lo).toNat : Nat) : Int) = ms (moves - 1) by omega]
  refine ⟨by omega, p1.1, p3, fun i h0 h1 => l4 i h0 (by omega), fun m h0 h1 => ?_, fun m m' h0 h1 h2 => l6 m m' h0 h1 (by omega), fun q => ?_, fun _ => l8 (by omega), fun c h0 h1 => ?_⟩
  · obtain ⟨q1, q2, q3, q4, q5⟩ := l5 m h0 (by omega)
    have mm := l6 m (moves - 1) h0 (by omega) (by omega)
    rw [cut _ q1.1 mm]
    exact ⟨⟨q1.1, mm⟩, q2, q3, q4, q5⟩
  · rw [q]; exact l8 (by omega)
  · have := cut 0 (by omega) p1.1
    rw [show ms (moves - 1) - 0 = ms (moves - 1) by omega, show ch - 0 = ch by omega] at this
    rw [this]; exact l9 c h0 h1
