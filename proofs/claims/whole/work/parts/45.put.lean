/-! sums over lists of cells -/
def sumL (l : List Int) (f : Int → Int) : Int := (l.map f).sum
theorem sumL_nil {f : Int → Int} : sumL [] f = 0 := rfl
theorem sumL_cons {f : Int → Int} {a : Int} {l : List Int} : sumL (a :: l) f = f a + sumL l f := by simp [sumL]
theorem sumL_append {f : Int → Int} {l m : List Int} : sumL (l ++ m) f = sumL l f + sumL m f := by
  induction l with
  | nil => simp [sumL]
  | cons a l ih => rw [List.cons_append, sumL_cons, sumL_cons, ih]; omega
theorem sumL_snoc {f : Int → Int} {a : Int} {l : List Int} : sumL (l ++ [a]) f = sumL l f + f a := by rw [sumL_append, sumL_cons, sumL_nil]; omega
theorem sumL_congr {f g : Int → Int} {l : List Int} (h : ∀ x ∈ l, f x = g x) : sumL l f = sumL l g := by
  unfold sumL
  rw [List.map_congr_left h]
theorem sumL_bound {f : Int → Int} {l : List Int} (h : ∀ x ∈ l, 0 ≤ f x ∧ f x ≤ 1) : 0 ≤ sumL l f ∧ sumL l f ≤ l.length := by
  induction l with
  | nil => simp [sumL]
  | cons a l ih =>
    have h1 := ih (fun x hx => h x (List.mem_cons_of_mem _ hx))
    have h2 := h a List.mem_cons_self
    rw [sumL_cons, List.length_cons]
    omega
theorem sumL_change {f g : Int → Int} {x : Int} {l : List Int} (hn : l.Nodup) (h : ∀ y ∈ l, y ≠ x → g y = f y) : sumL l g = sumL l f + (if x ∈ l then g x - f x else 0) := by
  induction l with
  | nil => simp [sumL]
  | cons a l ih =>
    have hn' := List.nodup_cons.mp hn
    have h1 := ih hn'.2 (fun y hy => h y (List.mem_cons_of_mem _ hy))
    rw [sumL_cons, sumL_cons, h1]
    by_cases e : a = x
    · subst e
      rw [if_neg hn'.1, if_pos List.mem_cons_self]
      omega
    · rw [h a List.mem_cons_self e]
      by_cases m : x ∈ l
      · rw [if_pos m, if_pos (List.mem_cons_of_mem _ m)]
        omega
      · rw [if_neg m, if_neg (fun q => (List.mem_cons.mp q).elim (fun z => e z.symm) m)]
        omega
theorem cells_len {n : Int} (h : 0 ≤ n) : ((cellsL n).length : Int) = n := by
  unfold cellsL
  simp
  omega
/-- a row of neighbours, place by place -/
theorem row_at {w h sh a x : Int} {near nearEnd : Int → Int} (g : GeoD w h sh near nearEnd) (ha : 0 ≤ a ∧ a < w * h) (h1 : 8 * a ≤ x) (h2 : x < nearEnd a) : near x ∈ NB w h sh a ∧ (NB w h sh a).take ((x - 8 * a).toNat + 1) = (NB w h sh a).take (x - 8 * a).toNat ++ [near x] ∧ ¬ near x ∈ (NB w h sh a).take (x - 8 * a).toNat := by
  obtain ⟨g1, g2⟩ := g a ha.1 ha.2
  have hk : (x - 8 * a).toNat < (NB w h sh a).length := by omega
  have e : (NB w h sh a)[(x - 8 * a).toNat]? = some (near x) := by
    have := seg_get (f := near) (b := 8 * a) hk
    rw [g2, show 8 * a + (((x - 8 * a).toNat : Nat) : Int) = x by omega] at this
    exact this
  have t : (NB w h sh a).take ((x - 8 * a).toNat + 1) = (NB w h sh a).take (x - 8 * a).toNat ++ [near x] := by
    rw [List.take_add_one, e]
    rfl
  refine ⟨List.mem_of_getElem? e, t, fun m => ?_⟩
  have nd := (pw_nodup (NB_pw (w := w) (h := h) (sh := sh) (a := a))).sublist (List.take_sublist ((x - 8 * a).toNat + 1) _)
  rw [t] at nd
  have := (List.nodup_append.mp nd).2.2 _ m _ (List.mem_singleton.mpr rfl)
  exact this rfl
theorem row_end {w h sh a x : Int} {near nearEnd : Int → Int} (g : GeoD w h sh near nearEnd) (ha : 0 ≤ a ∧ a < w * h) (h2 : nearEnd a ≤ x) : (NB w h sh a).take (x - 8 * a).toNat = NB w h sh a := by
  obtain ⟨g1, g2⟩ := g a ha.1 ha.2
  exact List.take_of_length_le (by omega)
theorem nb_cell {w h sh a d : Int} (m : d ∈ NB w h sh a) : 0 ≤ d ∧ d < w * h := (mem_NB.mp m).1
/-! what Field keeps of the states of its cells -/
abbrev iU (s : Int) : Int := if s ≤ 1 then 1 else 0
abbrev iH (s : Int) : Int := if s = 3 then 1 else 0
abbrev iK (k s : Int) : Int := if s = k then 1 else 0
theorem iU_b (s : Int) : 0 ≤ iU s ∧ iU s ≤ 1 := by unfold iU; split <;> omega
theorem iH_b (s : Int) : 0 ≤ iH s ∧ iH s ≤ 1 := by unfold iH; split <;> omega
theorem iK_b (k s : Int) : 0 ≤ iK k s ∧ iK k s ≤ 1 := by unfold iK; split <;> omega
def DSt (w h sh : Int) (state cellsIn unk hit : Int → Int) : Prop :=
  (∀ c, 0 ≤ c → c < w * h → 0 ≤ state c ∧ state c ≤ 3) ∧ (∀ k, 0 ≤ k → k ≤ 3 → cellsIn k = sumL (cellsL (w * h)) (fun c => iK k (state c))) ∧ (∀ c, 0 ≤ c → c < w * h → unk c = sumL (NB w h sh c) (fun d => iU (state d))) ∧ (∀ c, 0 ≤ c → c < w * h → hit c = sumL (NB w h sh c) (fun d => iH (state d)))
theorem DSt.unk_b {w h sh c : Int} {state cellsIn unk hit : Int → Int} (ok : okB w h sh) (d : DSt w h sh state cellsIn unk hit) (h0 : 0 ≤ c) (h1 : c < w * h) : 0 ≤ unk c ∧ unk c ≤ 8 := by
  rw [d.2.2.1 c h0 h1]
  have := sumL_bound (l := NB w h sh c) (f := fun d => iU (state d)) (fun x _ => iU_b _)
  have := NB_len ok (a := c) ⟨h0, h1⟩
  omega
theorem DSt.hit_b {w h sh c : Int} {state cellsIn unk hit : Int → Int} (ok : okB w h sh) (d : DSt w h sh state cellsIn unk hit) (h0 : 0 ≤ c) (h1 : c < w * h) : 0 ≤ hit c ∧ hit c ≤ 8 := by
  rw [d.2.2.2 c h0 h1]
  have := sumL_bound (l := NB w h sh c) (f := fun d => iH (state d)) (fun x _ => iH_b _)
  have := NB_len ok (a := c) ⟨h0, h1⟩
  omega
theorem DSt.in_b {w h sh k : Int} {state cellsIn unk hit : Int → Int} (ok : okB w h sh) (d : DSt w h sh state cellsIn unk hit) (h0 : 0 ≤ k) (h1 : k ≤ 3) : 0 ≤ cellsIn k ∧ cellsIn k ≤ w * h := by
  rw [d.2.1 k h0 h1]
  have := sumL_bound (l := cellsL (w * h)) (f := fun c => iK k (state c)) (fun x _ => iK_b _ _)
  have := cells_len (n := w * h) (by have := wh_ge ok; omega)
  omega
theorem DSt.put {w h sh cell next : Int} {state cellsIn unk hit cellsIn' unk' hit' : Int → Int} (ok : okB w h sh) (d : DSt w h sh state cellsIn unk hit) (hc : 0 ≤ cell ∧ cell < w * h) (hn : 0 ≤ next ∧ next ≤ 3)
    (k1 : cellsIn' = upZ (upZ cellsIn (state cell) (cellsIn (state cell) - 1)) next (upZ cellsIn (state cell) (cellsIn (state cell) - 1) next + 1))
    (k2 : ∀ c, 0 ≤ c → c < w * h → unk' c = unk c + (if c ∈ NB w h sh cell then iU next - iU (state cell) else 0))
    (k3 : ∀ c, 0 ≤ c → c < w * h → hit' c = hit c + (if c ∈ NB w h sh cell then iH next - iH (state cell) else 0)) : DSt w h sh (upZ state cell next) cellsIn' unk' hit' := by
  obtain ⟨d1, d2, d3, d4⟩ := d
  refine ⟨fun c h0 h1 => ?_, fun k h0 h1 => ?_, fun c h0 h1 => ?_, fun c h0 h1 => ?_⟩
  · by_cases e : c = cell
    · subst e; rw [upZ_s]; exact hn
    · rw [upZ_n _ _ e]; exact d1 c h0 h1
  · have := sumL_change (f := fun c => iK k (state c)) (g := fun c => iK k (upZ state cell next c)) (x := cell) (pw_nodup (cells_pw (n := w * h))) (fun y _ e => by simp only [upZ_n _ _ e])
    rw [this, if_pos (mem_cells.mpr hc), ← d2 k h0 h1, k1]
    simp only [upZ_s]
    generalize state cell = s0
    by_cases e1 : k = next
    · subst e1
      rw [upZ_s, show iK k k = 1 from if_pos rfl]
      by_cases e2 : k = s0
      · subst e2
        rw [upZ_s, show iK k k = 1 from if_pos rfl]
        omega
      · rw [upZ_n _ _ e2, show iK k s0 = 0 from if_neg (fun z => e2 z.symm)]
        omega
    · rw [upZ_n _ _ e1, show iK k next = 0 from if_neg (fun z => e1 z.symm)]
      by_cases e2 : k = s0
      · subst e2
        rw [upZ_s, show iK k k = 1 from if_pos rfl]
        omega
      · rw [upZ_n _ _ e2, show iK k s0 = 0 from if_neg (fun z => e2 z.symm)]
        omega
  · have := sumL_change (f := fun c => iU (state c)) (g := fun c => iU (upZ state cell next c)) (x := cell) (pw_nodup (NB_pw (w := w) (h := h) (sh := sh) (a := c))) (fun y _ e => by simp only [upZ_n _ _ e])
    rw [this, k2 c h0 h1, d3 c h0 h1]
    simp only [upZ_s]
    by_cases m : c ∈ NB w h sh cell
    · rw [if_pos m, if_pos ((NB_sym ok hc ⟨h0, h1⟩).mp m)]
    · rw [if_neg m, if_neg (fun z => m ((NB_sym ok hc ⟨h0, h1⟩).mpr z))]
  · have := sumL_change (f := fun c => iH (state c)) (g := fun c => iH (upZ state cell next c)) (x := cell) (pw_nodup (NB_pw (w := w) (h := h) (sh := sh) (a := c))) (fun y _ e => by simp only [upZ_n _ _ e])
    rw [this, k3 c h0 h1, d4 c h0 h1]
    simp only [upZ_s]
    by_cases m : c ∈ NB w h sh cell
    · rw [if_pos m, if_pos ((NB_sym ok hc ⟨h0, h1⟩).mp m)]
    · rw [if_neg m, if_neg (fun z => m ((NB_sym ok hc ⟨h0, h1⟩).mpr z))]
theorem s_put {w h sh cell next : Int} {state cellsIn unk hit near nearEnd : Int → Int} {post : (Int → Int) → (Int → Int) → (Int → Int) → (Int → Int) → Prop} (ok : okB w h sh) (g : GeoD w h sh near nearEnd) (d : DSt w h sh state cellsIn unk hit) (hc : 0 ≤ cell ∧ cell < w * h) (hn : 0 ≤ next ∧ next ≤ 3)
    (hp : ∀ cellsIn' unk' hit', DSt w h sh (upZ state cell next) cellsIn' unk' hit' → post (upZ state cell next) cellsIn' unk' hit') : P_X2_put post state cellsIn unk hit near nearEnd cell next := by
  have hle := wh_le ok
  have hs := d.1 cell hc.1 hc.2
  have ib := fun k h0 h1 => d.in_b ok (k := k) h0 h1
  have ib1 := ib (state cell) hs.1 hs.2
  have ib2 := ib next hn.1 hn.2
  unfold P_X2_put
  refine ⟨by omega, fun v ev rv => ?_⟩
  subst ev
  refine ⟨by omega, fun v4 e4 r4 => ⟨by omega, by omega, fun ci ec => ⟨by omega, fun v9 e9 r9 => ⟨by omega, ?_⟩⟩⟩⟩
  have b9 : -1 ≤ v9 ∧ v9 ≤ w * h := by
    rw [e9, ec]
    unfold upZ
    split <;> omega
  refine ⟨by omega, fun ci2 ec2 => ⟨by omega, fun st2 es2 => ?_⟩⟩
  subst es2
  refine ⟨fun z => z = iU next, ⟨fun q => (if_neg (by omega)).symm, fun q => (if_pos (by omega)).symm⟩, fun z1 _ ez1 => ?_⟩
  refine ⟨fun z => z = iU (state cell), ⟨fun q => (if_neg (by omega)).symm, fun q => (if_pos (by omega)).symm⟩, fun z2 _ ez2 => ?_⟩
  have bu1 := iU_b next
  have bu2 := iU_b (state cell)
  have bh1 := iH_b next
  have bh2 := iH_b (state cell)
  refine ⟨by omega, fun x4 ex4 => ?_⟩
  refine ⟨fun z => z = iH next, ⟨fun q => (if_neg q).symm, fun q => (if_pos q).symm⟩, fun z3 _ ez3 => ?_⟩
  refine ⟨fun z => z = iH (state cell), ⟨fun q => (if_neg q).symm, fun q => (if_pos q).symm⟩, fun z4 _ ez4 => ?_⟩
  refine ⟨by omega, fun x5 ex5 => ?_⟩
  have done : ∀ unk' hit' : Int → Int, (∀ c, 0 ≤ c → c < w * h → unk' c = unk c + (if c ∈ NB w h sh cell then x4 else 0)) → (∀ c, 0 ≤ c → c < w * h → hit' c = hit c + (if c ∈ NB w h sh cell then x5 else 0)) → post (upZ state cell next) ci2 unk' hit' := by
    intro unk' hit' k2 k3
    refine hp ci2 unk' hit' (d.put ok hc hn ?_ ?_ ?_)
    · rw [ec2, e9, ec, e4]
    · intro c h0 h1
      rw [k2 c h0 h1, ex4, ez1, ez2]
    · intro c h0 h1
      rw [k3 c h0 h1, ex5, ez3, ez4]
  refine exJ0 ⟨fun q => ?_, fun q => ⟨fun q2 => ?_, fun q2 => ?_⟩⟩
  · exact ⟨by omega, fun x6 ex6 => ⟨fun n x u hh => n = (nearEnd cell - x).toNat ∧ 8 * cell ≤ x ∧ x ≤ nearEnd cell ∧ (∀ c, 0 ≤ c → c < w * h → u c = unk c + (if c ∈ (NB w h sh cell).take (x - 8 * cell).toNat then x4 else 0)) ∧ (∀ c, 0 ≤ c → c < w * h → hh c = hit c + (if c ∈ (NB w h sh cell).take (x - 8 * cell).toNat then x5 else 0)), ⟨_, rfl, by omega, by have := (g cell hc.1 hc.2).1; omega, fun c _ _ => by rw [ex6, show (cell * 8 - 8 * cell).toNat = 0 by omega]; simp, fun c _ _ => by rw [ex6, show (cell * 8 - 8 * cell).toNat = 0 by omega]; simp⟩, by
      rintro n x u hh rx ⟨rfl, b1, b2, b3, b4⟩
      refine ⟨by omega, fun v ev rv => ⟨fun q => ?_, fun q => ?_⟩⟩
      · rw [row_end g hc (by omega)] at b3 b4
        exact done u hh b3 b4
      · obtain ⟨m, t, nm⟩ := row_at g hc b1 (by omega)
        have mc := nb_cell m
        have hl := NB_len ok hc
        have ge := (g cell hc.1 hc.2).1
        have ub := d.unk_b ok mc.1 mc.2
        have hb := d.hit_b ok mc.1 mc.2
        have u1 := b3 _ mc.1 mc.2
        have h1 := b4 _ mc.1 mc.2
        rw [if_neg nm] at u1 h1
        refine ⟨by omega, fun w1 ew1 rw1 => ?_⟩
        subst ew1
        refine ⟨by omega, fun w2 ew2 rw2 => ⟨by omega, by omega, fun u2 eu2 => ⟨by omega, fun w3 ew3 rw3 => ?_⟩⟩⟩
        subst ew3
        refine ⟨by omega, fun w4 ew4 rw4 => ⟨by omega, by omega, fun hh2 eh2 => ⟨by omega, fun x2 ex2 => ⟨_, ?_, rfl, by omega, by omega, ?_, ?_⟩⟩⟩⟩
        · omega
        · intro c h0 h1'
          rw [show (x2 - 8 * cell).toNat = (x - 8 * cell).toNat + 1 by omega, t, eu2]
          by_cases e : c = near x
          · subst e
            rw [upZ_s, if_pos (List.mem_append_right _ (List.mem_singleton.mpr rfl)), ew2, u1]
            omega
          · rw [upZ_n _ _ e, b3 c h0 h1']
            congr 1
            by_cases mm : c ∈ (NB w h sh cell).take (x - 8 * cell).toNat
            · rw [if_pos mm, if_pos (List.mem_append_left _ mm)]
            · rw [if_neg mm, if_neg (fun z => (List.mem_append.mp z).elim mm (fun z => e (List.mem_singleton.mp z)))]
        · intro c h0 h1'
          rw [show (x2 - 8 * cell).toNat = (x - 8 * cell).toNat + 1 by omega, t, eh2]
          by_cases e : c = near x
          · subst e
            rw [upZ_s, if_pos (List.mem_append_right _ (List.mem_singleton.mpr rfl)), ew4, h1]
            omega
          · rw [upZ_n _ _ e, b4 c h0 h1']
            congr 1
            by_cases mm : c ∈ (NB w h sh cell).take (x - 8 * cell).toNat
            · rw [if_pos mm, if_pos (List.mem_append_left _ mm)]
            · rw [if_neg mm, if_neg (fun z => (List.mem_append.mp z).elim mm (fun z => e (List.mem_singleton.mp z)))]⟩⟩
  · exact ⟨by omega, fun x6 ex6 => ⟨fun n x u hh => n = (nearEnd cell - x).toNat ∧ 8 * cell ≤ x ∧ x ≤ nearEnd cell ∧ (∀ c, 0 ≤ c → c < w * h → u c = unk c + (if c ∈ (NB w h sh cell).take (x - 8 * cell).toNat then x4 else 0)) ∧ (∀ c, 0 ≤ c → c < w * h → hh c = hit c + (if c ∈ (NB w h sh cell).take (x - 8 * cell).toNat then x5 else 0)), ⟨_, rfl, by omega, by have := (g cell hc.1 hc.2).1; omega, fun c _ _ => by rw [ex6, show (cell * 8 - 8 * cell).toNat = 0 by omega]; simp, fun c _ _ => by rw [ex6, show (cell * 8 - 8 * cell).toNat = 0 by omega]; simp⟩, by
      rintro n x u hh rx ⟨rfl, b1, b2, b3, b4⟩
      refine ⟨by omega, fun v ev rv => ⟨fun q => ?_, fun q => ?_⟩⟩
      · rw [row_end g hc (by omega)] at b3 b4
        exact done u hh b3 b4
      · obtain ⟨m, t, nm⟩ := row_at g hc b1 (by omega)
        have mc := nb_cell m
        have hl := NB_len ok hc
        have ge := (g cell hc.1 hc.2).1
        have ub := d.unk_b ok mc.1 mc.2
        have hb := d.hit_b ok mc.1 mc.2
        have u1 := b3 _ mc.1 mc.2
        have h1 := b4 _ mc.1 mc.2
        rw [if_neg nm] at u1 h1
        refine ⟨by omega, fun w1 ew1 rw1 => ?_⟩
        subst ew1
        refine ⟨by omega, fun w2 ew2 rw2 => ⟨by omega, by omega, fun u2 eu2 => ⟨by omega, fun w3 ew3 rw3 => ?_⟩⟩⟩
        subst ew3
        refine ⟨by omega, fun w4 ew4 rw4 => ⟨by omega, by omega, fun hh2 eh2 => ⟨by omega, fun x2 ex2 => ⟨_, ?_, rfl, by omega, by omega, ?_, ?_⟩⟩⟩⟩
        · omega
        · intro c h0 h1'
          rw [show (x2 - 8 * cell).toNat = (x - 8 * cell).toNat + 1 by omega, t, eu2]
          by_cases e : c = near x
          · subst e
            rw [upZ_s, if_pos (List.mem_append_right _ (List.mem_singleton.mpr rfl)), ew2, u1]
            omega
          · rw [upZ_n _ _ e, b3 c h0 h1']
            congr 1
            by_cases mm : c ∈ (NB w h sh cell).take (x - 8 * cell).toNat
            · rw [if_pos mm, if_pos (List.mem_append_left _ mm)]
            · rw [if_neg mm, if_neg (fun z => (List.mem_append.mp z).elim mm (fun z => e (List.mem_singleton.mp z)))]
        · intro c h0 h1'
          rw [show (x2 - 8 * cell).toNat = (x - 8 * cell).toNat + 1 by omega, t, eh2]
          by_cases e : c = near x
          · subst e
            rw [upZ_s, if_pos (List.mem_append_right _ (List.mem_singleton.mpr rfl)), ew4, h1]
            omega
          · rw [upZ_n _ _ e, b4 c h0 h1']
            congr 1
            by_cases mm : c ∈ (NB w h sh cell).take (x - 8 * cell).toNat
            · rw [if_pos mm, if_pos (List.mem_append_left _ mm)]
            · rw [if_neg mm, if_neg (fun z => (List.mem_append.mp z).elim mm (fun z => e (List.mem_singleton.mp z)))]⟩⟩
  · refine done unk hit (fun c _ _ => ?_) (fun c _ _ => ?_)
    · rw [q]; split <;> omega
    · rw [q2]; split <;> omega
