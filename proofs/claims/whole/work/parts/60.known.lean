/-! the reasoner: open ends, what they need, and the row of waiting numbers -/
noncomputable abbrev En (w h sh : Int) (f : Int → Int) (c : Int) : Int := sumL (NB w h sh c) (fun d => iK 0 (f d))
noncomputable abbrev Nd (w h sh : Int) (mined f : Int → Int) (c : Int) : Int := sumL (NB w h sh c) (fun d => iK 0 (f d) * mined d)
theorem iK0_t {s : Int} (h : s = 0) : iK 0 s = 1 := if_pos h
theorem iK0_f {s : Int} (h : ¬ s = 0) : iK 0 s = 0 := if_neg h
theorem mul01 {a b : Int} (ha : 0 ≤ a ∧ a ≤ 1) (hb : b = 0 ∨ b = 1) : 0 ≤ a * b ∧ a * b ≤ a := by
  rcases hb with e | e <;> subst e <;> omega
def FO (w h sh : Int) (mined st f oe nd : Int → Int) : Prop :=
  (∀ d, 0 ≤ d → d < w * h → (st d ≤ 1 → f d = 0 ∨ f d = 1 + mined d) ∧ (¬ st d ≤ 1 → f d = 3)) ∧ (∀ c, 0 ≤ c → c < w * h → oe c = En w h sh f c ∧ nd c = Nd w h sh mined f c)
theorem FO.unk {w h sh d : Int} {mined st f oe nd : Int → Int} (o : FO w h sh mined st f oe nd) (h0 : 0 ≤ d) (h1 : d < w * h) (e : f d = 0) : st d ≤ 1 := by
  by_cases q : st d ≤ 1
  · exact q
  · have := (o.1 d h0 h1).2 q; omega
theorem En_b {w h sh c : Int} {f : Int → Int} (ok : okB w h sh) (hc : 0 ≤ c ∧ c < w * h) : 0 ≤ En w h sh f c ∧ En w h sh f c ≤ 8 := by
  have : 0 ≤ En w h sh f c ∧ En w h sh f c ≤ (NB w h sh c).length := sumL_bound (l := NB w h sh c) (f := fun d => iK 0 (f d)) (fun x _ => iK_b _ _)
  have := NB_len ok hc
  omega
theorem Nd_b {w h sh c : Int} {mined f : Int → Int} (ok : okB w h sh) (hm : ∀ c, 0 ≤ c → c < w * h → mined c = 0 ∨ mined c = 1) (hc : 0 ≤ c ∧ c < w * h) : 0 ≤ Nd w h sh mined f c ∧ Nd w h sh mined f c ≤ En w h sh f c := by
  have e : En w h sh f c = Nd w h sh mined f c + sumL (NB w h sh c) (fun d => iK 0 (f d) - iK 0 (f d) * mined d) := sumL_add (fun x _ => by omega)
  have a : 0 ≤ Nd w h sh mined f c := sumL_pos (l := NB w h sh c) (f := fun d => iK 0 (f d) * mined d) (fun x hx => by have := nb_cell hx; exact (mul01 (iK_b _ _) (hm x this.1 this.2)).1)
  have b := sumL_pos (l := NB w h sh c) (f := fun d => iK 0 (f d) - iK 0 (f d) * mined d) (fun x hx => by have := nb_cell hx; have := (mul01 (iK_b 0 (f x)) (hm x this.1 this.2)).2; omega)
  omega
theorem Nd_zero {w h sh c : Int} {mined f : Int → Int} (hm : ∀ c, 0 ≤ c → c < w * h → mined c = 0 ∨ mined c = 1) : Nd w h sh mined f c = 0 ↔ ∀ d ∈ NB w h sh c, f d = 0 → mined d = 0 := by
  constructor
  · intro q d hd e
    have := sumL_zero (l := NB w h sh c) (f := fun d => iK 0 (f d) * mined d) (fun x hx => by have := nb_cell hx; exact (mul01 (iK_b _ _) (hm x this.1 this.2)).1) q d hd
    simp only [iK0_t e] at this
    omega
  · intro q
    show sumL _ _ = 0
    rw [sumL_const (k := 0)]
    · omega
    · intro x hx
      by_cases e : f x = 0
      · rw [q x hx e]; omega
      · rw [iK0_f e]; omega
theorem Nd_full {w h sh c : Int} {mined f : Int → Int} (hm : ∀ c, 0 ≤ c → c < w * h → mined c = 0 ∨ mined c = 1) : Nd w h sh mined f c = En w h sh f c ↔ ∀ d ∈ NB w h sh c, f d = 0 → mined d = 1 := by
  have e : En w h sh f c = Nd w h sh mined f c + sumL (NB w h sh c) (fun d => iK 0 (f d) - iK 0 (f d) * mined d) := sumL_add (fun x _ => by omega)
  constructor
  · intro q d hd ef
    have := sumL_zero (l := NB w h sh c) (f := fun d => iK 0 (f d) - iK 0 (f d) * mined d) (fun x hx => by have := nb_cell hx; have := (mul01 (iK_b 0 (f x)) (hm x this.1 this.2)).2; omega) (by omega) d hd
    simp only [iK0_t ef] at this
    omega
  · intro q
    refine sumL_congr (fun x hx => ?_)
    by_cases e : f x = 0
    · rw [q x hx e]; omega
    · rw [iK0_f e]; omega
theorem En_zero {w h sh c : Int} {f : Int → Int} : En w h sh f c = 0 ↔ ∀ d ∈ NB w h sh c, ¬ f d = 0 := by
  constructor
  · intro q d hd e
    have := sumL_zero (l := NB w h sh c) (f := fun d => iK 0 (f d)) (fun x _ => (iK_b _ _).1) q d hd
    simp only [iK0_t e] at this
    omega
  · intro q
    show sumL _ _ = 0
    rw [sumL_const (k := 0)]
    · omega
    · intro x hx; exact iK0_f (q x hx)
theorem En_up {w h sh c d v : Int} {f : Int → Int} (e : f d = 0) (hv : ¬ v = 0) : En w h sh (upZ f d v) c = En w h sh f c - (if d ∈ NB w h sh c then 1 else 0) := by
  have := sumL_change (f := fun x => iK 0 (f x)) (g := fun x => iK 0 (upZ f d v x)) (x := d) (pw_nodup (NB_pw (w := w) (h := h) (sh := sh) (a := c))) (fun y _ e => by simp only [upZ_n _ _ e])
  show sumL _ _ = _
  rw [this]
  simp only [upZ_s]
  by_cases m : d ∈ NB w h sh c
  · rw [if_pos m, if_pos m, iK0_f hv, iK0_t e]; show sumL _ _ + (0 - 1) = sumL _ _ - 1; omega
  · rw [if_neg m, if_neg m]; show sumL _ _ + 0 = sumL _ _ - 0; omega
theorem Nd_up {w h sh c d v : Int} {mined f : Int → Int} (e : f d = 0) (hv : ¬ v = 0) : Nd w h sh mined (upZ f d v) c = Nd w h sh mined f c - (if d ∈ NB w h sh c then mined d else 0) := by
  have := sumL_change (f := fun x => iK 0 (f x) * mined x) (g := fun x => iK 0 (upZ f d v x) * mined x) (x := d) (pw_nodup (NB_pw (w := w) (h := h) (sh := sh) (a := c))) (fun y _ e => by simp only [upZ_n _ _ e])
  show sumL _ _ = _
  rw [this]
  simp only [upZ_s]
  by_cases m : d ∈ NB w h sh c
  · rw [if_pos m, if_pos m, iK0_f hv, iK0_t e]; show sumL _ _ + (0 * mined d - 1 * mined d) = sumL _ _ - mined d; omega
  · rw [if_neg m, if_neg m]; show sumL _ _ + 0 = sumL _ _ - 0; omega
/-- how many ends are still free -/
noncomputable def Zf (n : Int) (f : Int → Int) : Int := sumL (cellsL n) (fun c => iK 0 (f c))
theorem Zf_b {n : Int} {f : Int → Int} (hn : 0 ≤ n) : 0 ≤ Zf n f ∧ Zf n f ≤ n := by
  have := sumL_bound (l := cellsL n) (f := fun c => iK 0 (f c)) (fun x _ => iK_b _ _)
  have := cells_len hn
  unfold Zf
  omega
theorem Zf_up {n d v : Int} {f : Int → Int} (hd : 0 ≤ d ∧ d < n) (e : f d = 0) (hv : ¬ v = 0) : Zf n (upZ f d v) = Zf n f - 1 := by
  have := sumL_change (f := fun x => iK 0 (f x)) (g := fun x => iK 0 (upZ f d v x)) (x := d) (pw_nodup (cells_pw (n := n))) (fun y _ e => by simp only [upZ_n _ _ e])
  unfold Zf
  rw [this, if_pos (mem_cells.mpr hd)]
  simp only [upZ_s]
  rw [iK0_f hv, iK0_t e]
  omega
/-- a row without doubles, and the marks of what lies in it -/
def WT (n : Int) (st : Int → Int) (wc : Int) (wt ws : Int → Int) : Prop :=
  0 ≤ wc ∧ wc = sumL (cellsL n) (fun c => iK 1 (ws c)) ∧ (∀ c, 0 ≤ c → c < n → ws c = 0 ∨ ws c = 1) ∧ (∀ j, 0 ≤ j → j < wc → (0 ≤ wt j ∧ wt j < n) ∧ st (wt j) = 2 ∧ ws (wt j) = 1) ∧ (∀ i j, 0 ≤ i → i < j → j < wc → wt i ≠ wt j) ∧ (∀ c, 0 ≤ c → c < n → ws c = 1 → ∃ j, 0 ≤ j ∧ j < wc ∧ wt j = c)
theorem WT.le {n wc : Int} {st wt ws : Int → Int} (hn : 0 ≤ n) (t : WT n st wc wt ws) : wc ≤ n := by
  have := sumL_bound (l := cellsL n) (f := fun c => iK 1 (ws c)) (fun x _ => iK_b _ _)
  have := cells_len hn
  have := t.2.1
  omega
theorem WT.lt {n wc c : Int} {st wt ws : Int → Int} (hn : 0 ≤ n) (t : WT n st wc wt ws) (hc : 0 ≤ c ∧ c < n) (e : ws c = 0) : wc < n := by
  have := sumL_lt1 (l := cellsL n) (f := fun c => iK 1 (ws c)) (fun y _ => iK_b _ _) (mem_cells.mpr hc) (if_neg (by omega))
  have := cells_len hn
  have := t.2.1
  omega
theorem WT.push {n wc c : Int} {st wt ws : Int → Int} (t : WT n st wc wt ws) (hc : 0 ≤ c ∧ c < n) (e : ws c = 0) (hs : st c = 2) : WT n st (wc + 1) (upZ wt wc c) (upZ ws c 1) := by
  obtain ⟨t1, t2, t3, t4, t5, t6⟩ := t
  refine ⟨by omega, by rw [sumK_up hc e]; omega, fun x h0 h1 => ?_, fun j h0 h1 => ?_, fun i j h0 h1 h2 => ?_, fun x h0 h1 hx => ?_⟩
  · by_cases q : x = c
    · rw [q, upZ_s]; omega
    · rw [upZ_n _ _ q]; exact t3 x h0 h1
  · by_cases q : j = wc
    · rw [q, upZ_s, upZ_s]; exact ⟨hc, hs, rfl⟩
    · rw [upZ_n _ _ q]
      obtain ⟨p1, p2, p3⟩ := t4 j h0 (by omega)
      refine ⟨p1, p2, ?_⟩
      rw [upZ_n _ _ (fun z => by rw [z] at p3; omega)]; exact p3
  · by_cases q : j = wc
    · rw [q, upZ_s, upZ_n _ _ (by omega)]
      have := (t4 i h0 (by omega)).2.2
      intro z
      rw [z] at this; omega
    · rw [upZ_n _ _ q, upZ_n _ _ (by omega)]; exact t5 i j h0 h1 (by omega)
  · by_cases q : x = c
    · exact ⟨wc, t1, by omega, by rw [q, upZ_s]⟩
    · rw [upZ_n _ _ q] at hx
      obtain ⟨j, p1, p2, p3⟩ := t6 x h0 h1 hx
      exact ⟨j, p1, by omega, by rw [upZ_n _ _ (by omega)]; exact p3⟩
theorem WT.pop {n wc : Int} {st wt ws : Int → Int} (t : WT n st wc wt ws) (hw : 0 < wc) : WT n st (wc - 1) wt (upZ ws (wt (wc - 1)) 0) := by
  obtain ⟨t1, t2, t3, t4, t5, t6⟩ := t
  obtain ⟨p1, p2, p3⟩ := t4 (wc - 1) (by omega) (by omega)
  have ch := sumL_change (f := fun x => iK 1 (ws x)) (g := fun x => iK 1 (upZ ws (wt (wc - 1)) 0 x)) (x := wt (wc - 1)) (pw_nodup (cells_pw (n := n))) (fun y _ e => by simp only [upZ_n _ _ e])
  rw [if_pos (mem_cells.mpr p1)] at ch
  simp only [upZ_s] at ch
  rw [p3, show iK 1 1 = 1 from rfl, show iK 1 0 = 0 from rfl] at ch
  refine ⟨by omega, by omega, fun x h0 h1 => ?_, fun j h0 h1 => ?_, fun i j h0 h1 h2 => t5 i j h0 h1 (by omega), fun x h0 h1 hx => ?_⟩
  · by_cases q : x = wt (wc - 1)
    · rw [q, upZ_s]; omega
    · rw [upZ_n _ _ q]; exact t3 x h0 h1
  · obtain ⟨q1, q2, q3⟩ := t4 j h0 (by omega)
    exact ⟨q1, q2, by rw [upZ_n _ _ (t5 j (wc - 1) h0 (by omega) (by omega))]; exact q3⟩
  · by_cases q : x = wt (wc - 1)
    · rw [q, upZ_s] at hx; omega
    · rw [upZ_n _ _ q] at hx
      obtain ⟨j, r1, r2, r3⟩ := t6 x h0 h1 hx
      refine ⟨j, r1, ?_, r3⟩
      by_cases e : j = wc - 1
      · rw [e] at r3; exact absurd r3.symm q
      · omega
theorem exJ6 {α β γ δ ε ζ : Type} {p : α → β → γ → δ → ε → ζ → Prop} {A : (α → β → γ → δ → ε → ζ → Prop) → Prop} (h : A p) : ∃ J : α → β → γ → δ → ε → ζ → Prop, A J ∧ ∀ (a : α) (b : β) (c : γ) (d : δ) (e : ε) (f : ζ), J a b c d e f → p a b c d e f := ⟨p, h, fun _ _ _ _ _ _ k => k⟩
theorem s_mark {w h sh d v wc : Int} {mined st f oe nd wt ws near nearEnd : Int → Int} {post : Int → (Int → Int) → (Int → Int) → (Int → Int) → (Int → Int) → (Int → Int) → Prop} (ok : okB w h sh) (g : GeoD w h sh near nearEnd) (hm : ∀ c, 0 ≤ c → c < w * h → mined c = 0 ∨ mined c = 1) (o : FO w h sh mined st f oe nd) (t : WT (w * h) st wc wt ws) (hd : 0 ≤ d ∧ d < w * h) (e : f d = 0) (hv : v = 1 + mined d)
    (hp : ∀ (wc' : Int) (oe' nd' wt' ws' : Int → Int), FO w h sh mined st (upZ f d v) oe' nd' → WT (w * h) st wc' wt' ws' → wc' ≤ wc + 8 → (∀ c, 0 ≤ c → c < w * h → st c = 2 → ws' c = 0 → ws c = 0 ∧ ¬ d ∈ NB w h sh c) → post wc' (upZ f d v) oe' nd' wt' ws') : P_X7_mark post wc st near nearEnd f oe nd wt ws d v := by
  have hle := wh_le ok
  have hge := wh_ge ok
  have hl := NB_len ok hd
  have ge := (g d hd.1 hd.2).1
  have md := hm d hd.1 hd.2
  have su := o.unk hd.1 hd.2 e
  unfold P_X7_mark
  refine ⟨by omega, fun f2 ef2 => ⟨by omega, fun x3 ex3 => ?_⟩⟩
  subst ef2
  refine ⟨fun n x wc' oe' nd' wt' ws' => n = (nearEnd d - x).toNat ∧ 8 * d ≤ x ∧ x ≤ nearEnd d ∧ (∀ c, 0 ≤ c → c < w * h → oe' c = oe c - (if c ∈ (NB w h sh d).take (x - 8 * d).toNat then 1 else 0)) ∧ (∀ c, 0 ≤ c → c < w * h → nd' c = nd c - (if c ∈ (NB w h sh d).take (x - 8 * d).toNat then mined d else 0)) ∧ WT (w * h) st wc' wt' ws' ∧ wc' ≤ wc + (x - 8 * d) ∧ (∀ c, 0 ≤ c → c < w * h → st c = 2 → ws' c = 0 → ws c = 0 ∧ ¬ c ∈ (NB w h sh d).take (x - 8 * d).toNat), ⟨_, rfl, by omega, by omega, fun c _ _ => by rw [ex3, show (d * 8 - 8 * d).toNat = 0 by omega]; simp, fun c _ _ => by rw [ex3, show (d * 8 - 8 * d).toNat = 0 by omega]; simp, t, by omega, fun c _ _ _ q => ⟨q, by rw [ex3, show (d * 8 - 8 * d).toNat = 0 by omega]; simp⟩⟩, ?_⟩
  rintro n x wc' oe' nd' wt' ws' rx ⟨rfl, b1, b2, b3, b4, b5, b6, b7⟩
  refine ⟨by omega, fun v1 ev1 rv1 => ⟨fun q => ?_, fun q => ?_⟩⟩
  · rw [row_end g hd (by omega)] at b3 b4 b7
    refine hp wc' oe' nd' wt' ws' ⟨fun y y0 y1 => ?_, fun c h0 h1 => ?_⟩ b5 (by omega) (fun c h0 h1 hs hw => ⟨(b7 c h0 h1 hs hw).1, fun m => (b7 c h0 h1 hs hw).2 ((NB_sym ok hd ⟨h0, h1⟩).mpr m)⟩)
    · by_cases ey : y = d
      · subst ey; rw [upZ_s]; exact ⟨fun _ => Or.inr hv, fun z => absurd su z⟩
      · rw [upZ_n _ _ ey]; exact o.1 y y0 y1
    · rw [En_up e (by omega), Nd_up e (by omega), b3 c h0 h1, b4 c h0 h1, (o.2 c h0 h1).1, (o.2 c h0 h1).2]
      have sy := NB_sym ok hd ⟨h0, h1⟩
      by_cases m : c ∈ NB w h sh d
      · rw [if_pos m, if_pos m, if_pos (sy.mp m), if_pos (sy.mp m)]; exact ⟨rfl, rfl⟩
      · rw [if_neg m, if_neg m, if_neg (fun z => m (sy.mpr z)), if_neg (fun z => m (sy.mpr z))]; exact ⟨rfl, rfl⟩
  · obtain ⟨m, tk, nm⟩ := row_at g hd b1 (by omega)
    have mc := nb_cell m
    have eb := En_b (f := f) ok mc
    have nb := Nd_b (f := f) ok hm mc
    have o1 := (o.2 _ mc.1 mc.2).1
    have o2 := (o.2 _ mc.1 mc.2).2
    have u1 := b3 _ mc.1 mc.2
    have u2 := b4 _ mc.1 mc.2
    rw [if_neg nm] at u1 u2
    refine ⟨by omega, fun v2 ev2 rv2 => ?_⟩
    subst ev2
    refine ⟨by omega, fun v3 ev3 rv3 => ⟨by omega, by omega, fun oe2 eo2 => ?_⟩⟩
    refine ⟨fun nd2 => ∀ c, 0 ≤ c → c < w * h → nd2 c = nd c - (if c ∈ (NB w h sh d).take (x + 1 - 8 * d).toNat then mined d else 0), ⟨fun z => ?_, fun z => ⟨by omega, fun v4 ev4 rv4 => ⟨by omega, by omega, fun nd2 en2 => ?_⟩⟩⟩, fun nd2 hnd2 => ?_⟩
    · intro c h0 h1
      rw [b4 c h0 h1, show mined d = 0 by omega]
      split <;> split <;> rfl
    · intro c h0 h1
      rw [show (x + 1 - 8 * d).toNat = (x - 8 * d).toNat + 1 by omega, tk, en2]
      by_cases ec : c = near x
      · rw [ec, upZ_s, if_pos (List.mem_append_right _ (List.mem_singleton.mpr rfl)), ev4, u2]
        omega
      · rw [upZ_n _ _ ec, b4 c h0 h1]
        congr 1
        by_cases mm : c ∈ (NB w h sh d).take (x - 8 * d).toNat
        · rw [if_pos mm, if_pos (List.mem_append_left _ mm)]
        · rw [if_neg mm, if_neg (fun z => (List.mem_append.mp z).elim mm (fun z => ec (List.mem_singleton.mp z)))]
    · have hoe2 : ∀ c, 0 ≤ c → c < w * h → oe2 c = oe c - (if c ∈ (NB w h sh d).take (x + 1 - 8 * d).toNat then 1 else 0) := by
        intro c h0 h1
        rw [show (x + 1 - 8 * d).toNat = (x - 8 * d).toNat + 1 by omega, tk, eo2]
        by_cases ec : c = near x
        · rw [ec, upZ_s, if_pos (List.mem_append_right _ (List.mem_singleton.mpr rfl)), ev3, u1]
          omega
        · rw [upZ_n _ _ ec, b3 c h0 h1]
          congr 1
          by_cases mm : c ∈ (NB w h sh d).take (x - 8 * d).toNat
          · rw [if_pos mm, if_pos (List.mem_append_left _ mm)]
          · rw [if_neg mm, if_neg (fun z => (List.mem_append.mp z).elim mm (fun z => ec (List.mem_singleton.mp z)))]
      have next : ∀ (wc2 : Int) (wt2 ws2 : Int → Int), WT (w * h) st wc2 wt2 ws2 → wc2 ≤ wc' + 1 → (∀ c, 0 ≤ c → c < w * h → st c = 2 → ws2 c = 0 → ws' c = 0 ∧ c ≠ near x) → ∃ m : Nat, m < (nearEnd d - x).toNat ∧ (m = (nearEnd d - (x + 1)).toNat ∧ 8 * d ≤ x + 1 ∧ x + 1 ≤ nearEnd d ∧ (∀ c, 0 ≤ c → c < w * h → oe2 c = oe c - (if c ∈ (NB w h sh d).take (x + 1 - 8 * d).toNat then 1 else 0)) ∧ (∀ c, 0 ≤ c → c < w * h → nd2 c = nd c - (if c ∈ (NB w h sh d).take (x + 1 - 8 * d).toNat then mined d else 0)) ∧ WT (w * h) st wc2 wt2 ws2 ∧ wc2 ≤ wc + (x + 1 - 8 * d) ∧ (∀ c, 0 ≤ c → c < w * h → st c = 2 → ws2 c = 0 → ws c = 0 ∧ ¬ c ∈ (NB w h sh d).take (x + 1 - 8 * d).toNat)) := by
        intro wc2 wt2 ws2 k1 k2 k3
        refine ⟨_, ?_, rfl, by omega, by omega, hoe2, hnd2, k1, by omega, fun c h0 h1 hs hw => ?_⟩
        · omega
        · obtain ⟨p1, p2⟩ := k3 c h0 h1 hs hw
          obtain ⟨p3, p4⟩ := b7 c h0 h1 hs p1
          refine ⟨p3, fun z => ?_⟩
          rw [show (x + 1 - 8 * d).toNat = (x - 8 * d).toNat + 1 by omega, tk] at z
          exact (List.mem_append.mp z).elim p4 (fun z => p2 (List.mem_singleton.mp z))
      refine ⟨by omega, fun v5 ev5 rv5 => exJ3 ⟨fun z => nx (by omega) (next _ _ _ b5 (by omega) (fun c h0 h1 hs hw => ⟨hw, fun z2 => z (by rw [ev5, ← z2]; exact hs)⟩)), fun z => ⟨by omega, fun v6 ev6 rv6 => ⟨fun z2 => nx (by omega) (next _ _ _ b5 (by omega) (fun c h0 h1 hs hw => ⟨hw, fun z3 => z2 (by rw [ev6, ← z3]; exact hw)⟩)), fun z2 => ?_⟩⟩⟩⟩
      have lt := b5.lt (by omega) mc (by omega)
      have w0 := b5.1
      refine ⟨fun z3 => absurd z3 (by omega), fun z3 => ⟨by omega, fun ws2 ew2 => ⟨by omega, fun wt2 et2 => ⟨by omega, fun wc2 ec2 => nx (by omega) ?_⟩⟩⟩⟩
      subst ew2 et2 ec2
      refine next _ _ _ (b5.push mc (by omega) (by omega)) (by omega) (fun c h0 h1 hs hw => ?_)
      by_cases ec : c = near x
      · rw [ec, upZ_s] at hw; omega
      · rw [upZ_n _ _ ec] at hw; exact ⟨hw, ec⟩
