/-! the reference: keeping, taking back, counting -/
def hD (H : Int → Int64) (m c : Int) : Int := qd (H (5 * m + c / 32)) (c % 32)
theorem s_keep {n lives moves : Int} {M old : Int → Int} {H : Int → Int64} {post : Int → (Int → Int64) → (Int → Int) → Prop} (hn : 0 ≤ n ∧ n ≤ 144) (hm : 0 ≤ moves ∧ moves < 1039) (hs : ∀ c, 0 ≤ c → c < n → 0 ≤ M c ∧ M c ≤ 3)
    (hp : ∀ H' : Int → Int64, (∀ c, 0 ≤ c → c < n → hD H' moves c = M c) → (∀ j, j < 5 * moves → H' j = H j) → post (moves + 1) H' (upZ old moves lives)) : P_X12_keep post n lives moves M H old := by
  unfold P_X12_keep
  refine ⟨fun k x h => k = (5 - x).toNat ∧ 0 ≤ x ∧ x ≤ 5 ∧ (∀ j, 5 * moves ≤ j → j < 5 * moves + x → h j = 0) ∧ (∀ j, j < 5 * moves → h j = H j), ⟨_, rfl, by omega, by omega, fun j _ _ => by omega, fun _ _ => rfl⟩, ?_⟩
  rintro k x h1 rx ⟨rfl, b1, b2, b3, b4⟩
  refine ⟨fun q => ?_, fun q => ⟨by omega, fun h2 e2 => ⟨by omega, fun y ey => ⟨(5 - y).toNat, by omega, rfl, by omega, by omega, fun j j0 j1 => ?_, fun j j0 => ?_⟩⟩⟩⟩
  · refine ⟨fun k x h => k = (n - x).toNat ∧ 0 ≤ x ∧ x ≤ n ∧ (∀ c, 0 ≤ c → c < x → hD h moves c = M c) ∧ (∀ c, x ≤ c → c < 160 → hD h moves c = 0) ∧ (∀ j, j < 5 * moves → h j = H j), ⟨_, rfl, by omega, by omega, fun c _ _ => by omega, fun c c0 c1 => ?_, b4⟩, ?_⟩
    · unfold hD
      rw [b3 _ (by omega) (by omega)]
      exact qd_zero (by omega)
    · rintro k c h rc ⟨rfl, c1, c2, c3, c4, c5⟩
      refine ⟨fun q => ⟨by omega, fun o2 eo => ⟨by omega, fun m2 em => ?_⟩⟩, fun q => ?_⟩
      · subst eo em
        exact hp h (fun x x0 x1 => c3 x x0 (by omega)) c5
      · have e1 : c.tdiv 32 = c / 32 := Int.tdiv_eq_ediv_of_nonneg c1
        have e2 : c.tmod 32 = c % 32 := Int.tmod_eq_emod_of_nonneg c1
        have sc := hs c c1 (by omega)
        rw [e1, e2]
        refine ⟨by omega, fun v ev => ⟨by omega, fun s es rs => ⟨by omega, fun h2 eh => ⟨by omega, fun y ey => ⟨(n - y).toNat, by omega, rfl, by omega, by omega, ?_, ?_, fun j jj => by rw [eh, upZ_n _ _ (by omega)]; exact c5 j jj⟩⟩⟩⟩⟩
        · have key : ∀ x, 0 ≤ x → x < 160 → hD h2 moves x = if x = c then M c else hD h moves x := by
            intro x x0 x1
            unfold hD
            by_cases ew : x / 32 = c / 32
            · rw [eh, ew, upZ_s, ev, qd_or (by rw [es]; exact sc) (by omega) (by omega) (c4 c (by omega) (by omega)), es]
              by_cases ec : x = c
              · rw [if_pos ec, if_pos (by rw [ec])]
              · rw [if_neg ec, if_neg (by omega)]
            · rw [eh, upZ_n _ _ (by omega), if_neg (fun z => ew (by rw [z]))]
          intro x x0 x1
          rw [key x x0 (by omega)]
          by_cases ec : x = c
          · rw [if_pos ec, ec]
          · rw [if_neg ec]; exact c3 x x0 (by omega)
        · intro x x0 x1
          unfold hD
          by_cases ew : x / 32 = c / 32
          · rw [eh, ew, upZ_s, ev, qd_or (by rw [es]; exact sc) (by omega) (by omega) (c4 c (by omega) (by omega)), if_neg (by omega)]
            have := c4 x (by omega) x1
            unfold hD at this
            rw [ew] at this
            exact this
          · rw [eh, upZ_n _ _ (by omega)]
            exact c4 x (by omega) x1
  · by_cases ej : j = 5 * moves + x
    · subst ej; rw [e2, upZ_s]
    · rw [e2, upZ_n _ _ ej]; exact b3 j j0 (by omega)
  · rw [e2, upZ_n _ _ (by omega)]; exact b4 j j0
/-- counts over all cells and over a row of neighbours -/
theorem cells_take {n x : Int} (h0 : 0 ≤ x) (h : x < n) : cellsL (x + 1) = cellsL x ++ [x] := cells_succ h0
theorem cellsB {n x : Int} {f : Int → Int} (hx : 0 ≤ x ∧ x ≤ n) (hn : n ≤ 144) (hf : ∀ c, 0 ≤ c → c < n → 0 ≤ f c ∧ f c ≤ 1) : 0 ≤ sumL (cellsL x) f ∧ sumL (cellsL x) f ≤ 144 := by
  have h1 := sumL_bound (l := cellsL x) (f := f) (fun c hc => by have := mem_cells.mp hc; exact hf c this.1 (by omega))
  have h2 := cells_len hx.1
  omega
theorem s_minesM {n : Int} {mine : Int → Int} {post : Int → Prop} (hn : 0 ≤ n ∧ n ≤ 144) (hm : ∀ c, 0 ≤ c → c < n → mine c = 0 ∨ mine c = 1) (hp : post (sumL (cellsL n) mine)) : P_X12_mines post n mine := by
  have hf : ∀ c, 0 ≤ c → c < n → 0 ≤ mine c ∧ mine c ≤ 1 := fun c h0 h1 => by rcases hm c h0 h1 with e | e <;> omega
  unfold P_X12_mines
  refine ⟨fun k s x => k = (n - x).toNat ∧ 0 ≤ x ∧ x ≤ n ∧ s = sumL (cellsL x) mine, ⟨_, rfl, by omega, by omega, rfl⟩, ?_⟩
  rintro k s x rs rx ⟨rfl, b1, b2, b3⟩
  refine ⟨fun q => ?_, fun q => ⟨by omega, fun v ev rv => ⟨fun z => z = v, ⟨fun z => z.symm, fun z => by omega⟩, fun z rz ez => ?_⟩⟩⟩
  · have e : x = n := by omega
    subst e; rw [b3]; exact hp
  · have := cellsB (f := mine) ⟨b1, b2⟩ hn.2 hf
    refine ⟨by omega, fun s2 es => ⟨by omega, fun y ey => ⟨(n - y).toNat, by omega, rfl, by omega, by omega, ?_⟩⟩⟩
    rw [ey, cells_succ b1, sumL_snoc, es, b3, ez, ev]
theorem s_manyM {n what : Int} {M : Int → Int} {post : Int → Prop} (hn : 0 ≤ n ∧ n ≤ 144) (hp : post (sumL (cellsL n) (fun c => iK what (M c)))) : P_X12_many post n M what := by
  unfold P_X12_many
  refine ⟨fun k s x => k = (n - x).toNat ∧ 0 ≤ x ∧ x ≤ n ∧ s = sumL (cellsL x) (fun c => iK what (M c)), ⟨_, rfl, by omega, by omega, rfl⟩, ?_⟩
  rintro k s x rs rx ⟨rfl, b1, b2, b3⟩
  refine ⟨fun q => ?_, fun q => ⟨by omega, fun v ev rv => ⟨fun z => z = iK what (M x), ⟨fun z => (if_neg (by rw [← ev]; exact z)).symm, fun z => (if_pos (by rw [← ev]; exact z)).symm⟩, fun z rz ez => ?_⟩⟩⟩
  · have e : x = n := by omega
    subst e; rw [b3]; exact hp
  · have := cellsB (f := fun c => iK what (M c)) ⟨b1, b2⟩ hn.2 (fun c _ _ => iK_b _ _)
    have := iK_b what (M x)
    refine ⟨by omega, fun s2 es => ⟨by omega, fun y ey => ⟨(n - y).toNat, by omega, rfl, by omega, by omega, ?_⟩⟩⟩
    rw [ey, cells_succ b1, sumL_snoc, es, b3, ez]
theorem s_aroundM {w h sh c what : Int} {near degree M : Int → Int} {post : Int → Prop} (ok : okB w h sh) (g : GeoM w h sh near degree) (hc : 0 ≤ c ∧ c < w * h) (hp : post (sumL (NB w h sh c) (fun d => iK what (M d)))) : P_X12_around post near degree M c what := by
  have hle := wh_le ok
  have hl := NB_len ok hc
  have ge := (g c hc.1 hc.2).1
  unfold P_X12_around
  refine ⟨fun n s k => n = (degree c - k).toNat ∧ 0 ≤ k ∧ k ≤ degree c ∧ s = sumL ((NB w h sh c).take k.toNat) (fun d => iK what (M d)), ⟨_, rfl, by omega, by omega, rfl⟩, ?_⟩
  rintro n s k rs rk ⟨rfl, b1, b2, b3⟩
  refine ⟨by omega, fun v ev rv => ⟨fun q => ?_, fun q => ?_⟩⟩
  · rw [rowM_end g hc (by omega)] at b3
    rw [b3]; exact hp
  · obtain ⟨m, t⟩ := rowM_at g hc b1 (by omega)
    have mc := nb_cell m
    have tb := take_b (k := k.toNat) (f := fun d => iK what (M d)) ok hc (fun x _ => iK_b _ _)
    refine ⟨by omega, fun v2 ev2 rv2 => ?_⟩
    subst ev2
    have kb := iK_b what (M (near (8 * c + k)))
    refine ⟨by omega, fun v3 ev3 rv3 => ⟨fun z => z = iK what (M (near (8 * c + k))), ⟨fun z => (if_neg (by rw [← ev3]; exact z)).symm, fun z => (if_pos (by rw [← ev3]; exact z)).symm⟩, fun z rz ez => ⟨by omega, fun s2 es2 => ⟨by omega, fun k2 ek2 => ⟨(degree c - k2).toNat, by omega, rfl, by omega, by omega, ?_⟩⟩⟩⟩⟩
    rw [show k2.toNat = k.toNat + 1 by omega, t, sumL_snoc, es2, b3, ez]
theorem s_isSolvedM {n : Int} {mine M : Int → Int} {post : Int → Prop} (hn : 0 ≤ n ∧ n ≤ 144) (hm : ∀ c, 0 ≤ c → c < n → mine c = 0 ∨ mine c = 1) (h1 : (∀ c, 0 ≤ c → c < n → mine c = 1 ∨ M c = 1) → post 1) (h0 : ¬ (∀ c, 0 ≤ c → c < n → mine c = 1 ∨ M c = 1) → post 0) : P_X12_isSolved post n mine M := by
  unfold P_X12_isSolved
  refine ⟨fun k s x => k = (n - x).toNat ∧ 0 ≤ x ∧ x ≤ n ∧ (s = 0 ∨ s = 1) ∧ (s = 1 ↔ ∀ c, 0 ≤ c → c < x → mine c = 1 ∨ M c = 1), ⟨_, rfl, by omega, by omega, Or.inr rfl, ⟨fun _ c _ _ => by omega, fun _ => rfl⟩⟩, ?_⟩
  rintro k s x rs rx ⟨rfl, b1, b2, b3, b4⟩
  refine ⟨fun q => ⟨b3, ?_⟩, fun q => ?_⟩
  · have e : x = n := by omega
    subst e
    rcases b3 with e | e
    · subst e; exact h0 (fun z => absurd (b4.mpr z) (by omega))
    · subst e; exact h1 (b4.mp rfl)
  · have next : ∀ z : Int, (z = 0 ∨ z = 1) → (z = 1 ↔ (s = 1 ∧ (mine x = 1 ∨ M x = 1))) → (inR (x + 1) ∧ ∀ x2_15 : Int, x2_15 = x + 1 → ∃ n_16 : Nat, n_16 < (n - x).toNat ∧ (n_16 = (n - x2_15).toNat ∧ 0 ≤ x2_15 ∧ x2_15 ≤ n ∧ (z = 0 ∨ z = 1) ∧ (z = 1 ↔ ∀ c, 0 ≤ c → c < x2_15 → mine c = 1 ∨ M c = 1))) := by
      intro z z1 z2
      refine ⟨by omega, fun y ey => ⟨(n - y).toNat, by omega, rfl, by omega, by omega, z1, ?_⟩⟩
      rw [z2, b4]
      constructor
      · rintro ⟨a, b⟩ c c0 c1
        by_cases ec : c = x
        · subst ec; exact b
        · exact a c c0 (by omega)
      · intro a
        exact ⟨fun c c0 c1 => a c c0 (by omega), a x b1 (by omega)⟩
    have mx := hm x b1 (by omega)
    refine exJi ⟨¬ (s = 1 ∧ (mine x = 1 ∨ M x = 1)), ⟨fun z => by omega, fun z => ⟨by omega, fun v ev rv => exJ0 ⟨fun z2 _ => next 1 (Or.inr rfl) ⟨fun _ => ⟨by omega, Or.inl (by omega)⟩, fun _ => rfl⟩, fun z2 => ⟨by omega, fun v2 ev2 rv2 => ⟨fun z3 => ?_, fun z3 _ => next 1 (Or.inr rfl) ⟨fun _ => ⟨by omega, Or.inr (by omega)⟩, fun _ => rfl⟩⟩⟩⟩⟩⟩, fun z _ => next 0 (Or.inl rfl) ⟨fun y => absurd y (by omega), fun y => absurd y z⟩⟩
    rintro ⟨-, z4 | z4⟩
    · omega
    · omega
/-! one opening, many openings: what they do to the states -/
def Eqc (n : Int) (a b : Int → Int) : Prop := ∀ c, 0 ≤ c → c < n → a c = b c
def UncR (w h sh : Int) (mined number st : Int → Int) (cell : Int) (st' : Int → Int) : Prop := (mined cell = 1 ∧ Eqc (w * h) st' (upZ st cell 3)) ∨ (mined cell = 0 ∧ FloodR w h sh mined number st cell st')
theorem FloodR.congr {w h sh cell : Int} {mined number st mined2 number2 st2 a : Int → Int} (hc : 0 ≤ cell ∧ cell < w * h) (e1 : Eqc (w * h) mined mined2) (e2 : Eqc (w * h) number number2) (e3 : Eqc (w * h) st st2) (f : FloodR w h sh mined number st cell a) : FloodR w h sh mined2 number2 st2 cell a := by
  obtain ⟨f1, f2, f3, f4⟩ := f
  refine ⟨fun c h0 h1 => ?_, f2, fun c h0 h1 hne hz => ?_, fun S s1 s2 c h0 h1 hne => ?_⟩
  · rw [← e3 c h0 h1, ← e1 c h0 h1]; exact f1 c h0 h1
  · exact f3 c h0 h1 (by rw [e3 c h0 h1]; exact hne) (by rw [e2 c h0 h1]; exact hz)
  · have := f4 (fun c => (0 ≤ c ∧ c < w * h) ∧ S c) ⟨hc, s1⟩ (fun c d ⟨q1, q2⟩ hz hd hu hm => by
      have dc := nb_cell hd
      exact ⟨dc, s2 c d q2 (by rw [← e2 c q1.1 q1.2]; exact hz) hd (by rw [← e3 d dc.1 dc.2]; exact hu) (by rw [← e1 d dc.1 dc.2]; exact hm)⟩) c h0 h1 (by rw [e3 c h0 h1]; exact hne)
    exact this.2
theorem UncR.uniq {w h sh cell : Int} {mined number st mined2 number2 st2 a b : Int → Int} (hc : 0 ≤ cell ∧ cell < w * h) (e1 : Eqc (w * h) mined mined2) (e2 : Eqc (w * h) number number2) (e3 : Eqc (w * h) st st2) (hm : ∀ c, 0 ≤ c → c < w * h → number2 c = 0 → ∀ d ∈ NB w h sh c, mined2 d = 0) (fa : UncR w h sh mined number st cell a) (fb : UncR w h sh mined2 number2 st2 cell b) : Eqc (w * h) a b := by
  have em := e1 cell hc.1 hc.2
  rcases fa with ⟨a1, a2⟩ | ⟨a1, a2⟩ <;> rcases fb with ⟨b1, b2⟩ | ⟨b1, b2⟩
  · intro c h0 h1
    rw [a2 c h0 h1, b2 c h0 h1]
    by_cases e : c = cell
    · rw [e, upZ_s, upZ_s]
    · rw [upZ_n _ _ e, upZ_n _ _ e]; exact e3 c h0 h1
  · omega
  · omega
  · exact FloodR.uniq hc hm (a2.congr hc e1 e2 e3) b2
