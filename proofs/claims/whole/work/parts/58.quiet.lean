/-! quiet cells and their fields -/
def Bs (mined st : Int → Int) (c : Int) : Prop := st c ≤ 1 ∧ mined c = 0
def Qt (w h : Int) (mined number st : Int → Int) (c : Int) : Prop := (0 ≤ c ∧ c < w * h) ∧ Bs mined st c ∧ number c = 0
def Con (w h sh : Int) (Q : Int → Prop) (a b : Int) : Prop := ∀ S : Int → Prop, S a → (∀ c d, S c → Q c → Q d → d ∈ NB w h sh c → S d) → S b
theorem Con.refl {w h sh a : Int} {Q : Int → Prop} : Con w h sh Q a a := fun _ s _ => s
theorem Con.step {w h sh a c d : Int} {Q : Int → Prop} (q : Con w h sh Q a c) (hc : Q c) (hd : Q d) (m : d ∈ NB w h sh c) : Con w h sh Q a d := fun S s k => k c d (q S s k) hc hd m
theorem Con.trans {w h sh a b c : Int} {Q : Int → Prop} (p : Con w h sh Q a b) (q : Con w h sh Q b c) : Con w h sh Q a c := fun S s k => q S (p S s k) k
theorem Con.symm {w h sh a b : Int} {Q : Int → Prop} (ok : okB w h sh) (hQ : ∀ c, Q c → 0 ≤ c ∧ c < w * h) (p : Con w h sh Q a b) : Con w h sh Q b a := p (fun x => Con w h sh Q x a) Con.refl (fun c d s hc hd m => ((Con.refl).step hd hc ((NB_sym ok (hQ c hc) (hQ d hd)).mp m)).trans s)
def Rt (w h sh : Int) (Q : Int → Prop) (c : Int) : Prop := Q c ∧ ∀ d, Q d → Con w h sh Q d c → c ≤ d
def Ln (w h sh : Int) (mined st : Int → Int) (Q : Int → Prop) (c : Int) : Prop := Bs mined st c ∧ ¬ Q c ∧ ∀ d ∈ NB w h sh c, ¬ Q d
noncomputable def LO (w h sh : Int) (mined number st : Int → Int) : Int := sumL (cellsL (w * h)) (fun c => iB (Rt w h sh (Qt w h mined number st) c)) + sumL (cellsL (w * h)) (fun c => iB (Ln w h sh mined st (Qt w h mined number st) c))
theorem s_hasToOpen {post : Int → Prop} {mined st seen : Int → Int} {c : Int} (hc : 0 ≤ c ∧ c < 144) (h1 : seen c = 0 → Bs mined st c → post 1) (h0 : ¬ (seen c = 0 ∧ Bs mined st c) → post 0) : P_X2_hasToOpen post mined st seen c := by
  unfold P_X2_hasToOpen
  refine ⟨hc, fun v ev bv => exJi (exJ0 ⟨fun z _ => ⟨by omega, h0 (fun y => z (by omega))⟩, fun z => ⟨hc, fun v2 ev2 bv2 => ⟨fun z2 _ => ⟨by omega, h0 (fun y => z2 (by rw [ev2]; exact y.2.2))⟩, fun z2 => ?_⟩⟩⟩)⟩
  exact s_isUnknown hc (fun hu _ => ⟨fun y => absurd y (by omega), fun _ _ => ⟨by omega, h1 (by omega) ⟨hu, by omega⟩⟩⟩) (fun hu _ => ⟨fun _ _ => ⟨by omega, h0 (fun y => hu y.2.1)⟩, fun y => absurd rfl y⟩)
/-- what holds while the class passes a field of zeros -/
def PZ (w h sh : Int) (mined number st : Int → Int) (first : Int) (seen0 : Int → Int) (e : Int) (wt seen : Int → Int) : Prop :=
  (∀ c, 0 ≤ c → c < w * h → seen c = seen0 c ∨ (seen0 c = 0 ∧ seen c = 1 ∧ Bs mined st c)) ∧ seen first = 1 ∧ 1 ≤ e ∧ e = sumL (cellsL (w * h)) (fun c => iK 1 (seen c)) - sumL (cellsL (w * h)) (fun c => iK 1 (seen0 c)) ∧
  (∀ j, 0 ≤ j → j < e → (0 ≤ wt j ∧ wt j < w * h) ∧ seen (wt j) = 1) ∧ (∀ c, 0 ≤ c → c < w * h → seen c ≠ seen0 c → ∃ j, 0 ≤ j ∧ j < e ∧ wt j = c) ∧
  (∀ S : Int → Prop, S first → (∀ c d, S c → number c = 0 → d ∈ NB w h sh c → Bs mined st d → S d) → ∀ j, 0 ≤ j → j < e → S (wt j))
theorem sumL_lt1 {l : List Int} {f : Int → Int} {x : Int} (h : ∀ y ∈ l, 0 ≤ f y ∧ f y ≤ 1) (hx : x ∈ l) (h0 : f x = 0) : sumL l f + 1 ≤ l.length := by
  induction l with
  | nil => cases hx
  | cons a l ih =>
    rw [sumL_cons, List.length_cons]
    have ha := h a List.mem_cons_self
    have hb := sumL_bound (l := l) (f := f) (fun y hy => h y (List.mem_cons_of_mem _ hy))
    rcases List.mem_cons.mp hx with rfl | hx
    · omega
    · have := ih (fun y hy => h y (List.mem_cons_of_mem _ hy)) hx
      omega
theorem sumK_up {n c : Int} {seen : Int → Int} (hc : 0 ≤ c ∧ c < n) (h0 : seen c = 0) : sumL (cellsL n) (fun x => iK 1 (upZ seen c 1 x)) = sumL (cellsL n) (fun x => iK 1 (seen x)) + 1 := by
  have := sumL_change (f := fun x => iK 1 (seen x)) (g := fun x => iK 1 (upZ seen c 1 x)) (x := c) (pw_nodup (cells_pw (n := n))) (fun y _ e => by simp only [upZ_n _ _ e])
  rw [this, if_pos (mem_cells.mpr hc)]
  simp only [upZ_s]
  rw [h0, show iK 1 1 = 1 from rfl, show iK 1 0 = 0 from rfl]
  omega
theorem PZ.more {w h sh first e j0 d : Int} {mined number st seen0 wt seen : Int → Int} (b : PZ w h sh mined number st first seen0 e wt seen) (hj : 0 ≤ j0 ∧ j0 < e) (hz : number (wt j0) = 0) (hd : d ∈ NB w h sh (wt j0)) (hs : seen d = 0) (hb : Bs mined st d) : PZ w h sh mined number st first seen0 (e + 1) (upZ wt e d) (upZ seen d 1) := by
  obtain ⟨b1, b2, b3, b4, b5, b6, b7⟩ := b
  have dc := nb_cell hd
  refine ⟨fun c h0 h1 => ?_, ?_, by omega, by rw [sumK_up dc hs]; omega, fun j h0 h1 => ?_, fun c h0 h1 hne => ?_, fun S s1 s2 j h0 h1 => ?_⟩
  · by_cases q : c = d
    · subst q
      rw [upZ_s]
      rcases b1 c h0 h1 with q | q
      · exact Or.inr ⟨by omega, rfl, hb⟩
      · omega
    · rw [upZ_n _ _ q]; exact b1 c h0 h1
  · by_cases q : first = d
    · rw [q, upZ_s]
    · rw [upZ_n _ _ q]; exact b2
  · by_cases q : j = e
    · rw [q, upZ_s, upZ_s]; exact ⟨dc, rfl⟩
    · rw [upZ_n _ _ q]
      obtain ⟨p1, p2⟩ := b5 j h0 (by omega)
      refine ⟨p1, ?_⟩
      by_cases q2 : wt j = d
      · rw [q2, upZ_s]
      · rw [upZ_n _ _ q2]; exact p2
  · by_cases q : c = d
    · exact ⟨e, by omega, by omega, by rw [upZ_s, q]⟩
    · rw [upZ_n _ _ q] at hne
      obtain ⟨j, p1, p2, p3⟩ := b6 c h0 h1 hne
      exact ⟨j, p1, by omega, by rw [upZ_n _ _ (by omega)]; exact p3⟩
  · by_cases q : j = e
    · rw [q, upZ_s]; exact s2 _ d (b7 S s1 s2 j0 hj.1 hj.2) hz hd hb
    · rw [upZ_n _ _ q]; exact b7 S s1 s2 j h0 (by omega)
theorem exJ3i {β γ : Type} {p : Int → β → γ → Prop} {A : (Int → β → γ → Prop) → Prop} (h : A (fun x y z => inR x → p x y z)) : ∃ J : Int → β → γ → Prop, A J ∧ ∀ (x : Int) (y : β) (z : γ), inR x → J x y z → p x y z := ⟨_, h, fun _ _ _ r k => k r⟩
theorem s_passAround {w h sh c0 first e j0 : Int} {mined number st seen0 wt seen near nearEnd : Int → Int} {post : Int → (Int → Int) → (Int → Int) → Prop} (ok : okB w h sh) (g : GeoD w h sh near nearEnd) (hc : 0 ≤ c0 ∧ c0 < w * h) (b : PZ w h sh mined number st first seen0 e wt seen) (hj : 0 ≤ j0 ∧ j0 < e) (ew : wt j0 = c0) (hz : number c0 = 0)
    (hp : ∀ (e' : Int) (wt' seen' : Int → Int), PZ w h sh mined number st first seen0 e' wt' seen' → e ≤ e' → (∀ j, j < e → wt' j = wt j) → (∀ c, ¬ seen c = 0 → ¬ seen' c = 0) → (∀ d ∈ NB w h sh c0, Bs mined st d → ¬ seen' d = 0) → post e' wt' seen') : P_X2_passAround post mined st wt seen near nearEnd c0 e := by
  have hle := wh_le ok
  have hge := wh_ge ok
  have hn := cells_len (n := w * h) (by omega)
  have hl := NB_len ok hc
  have ge := (g c0 hc.1 hc.2).1
  unfold P_X2_passAround
  refine ⟨by omega, fun x4 ex4 => ⟨fun n e' x wt' seen' => n = (nearEnd c0 - x).toNat ∧ 8 * c0 ≤ x ∧ x ≤ nearEnd c0 ∧ PZ w h sh mined number st first seen0 e' wt' seen' ∧ e ≤ e' ∧ (∀ j, j < e → wt' j = wt j) ∧ (∀ c, ¬ seen c = 0 → ¬ seen' c = 0) ∧ (∀ d ∈ (NB w h sh c0).take (x - 8 * c0).toNat, Bs mined st d → ¬ seen' d = 0), ⟨_, rfl, by omega, by omega, b, by omega, fun _ _ => rfl, fun _ q => q, fun d hd => by rw [ex4, show (c0 * 8 - 8 * c0).toNat = 0 by omega] at hd; simp at hd⟩, ?_⟩⟩
  rintro n e' x wt' seen' re rx ⟨rfl, b1, b2, b3, b4, b5, b6, b7⟩
  refine ⟨by omega, fun v ev rv => ⟨fun q => ?_, fun q => ?_⟩⟩
  · rw [row_end g hc (by omega)] at b7
    exact hp _ _ _ b3 b4 b5 b6 b7
  · obtain ⟨m, t, nm⟩ := row_at g hc b1 (by omega)
    have mc := nb_cell m
    have next : ∀ (e2 : Int) (wt2 seen2 : Int → Int), PZ w h sh mined number st first seen0 e2 wt2 seen2 → e ≤ e2 → (∀ j, j < e → wt2 j = wt j) → (∀ c, ¬ seen' c = 0 → ¬ seen2 c = 0) → (∀ d, ¬ seen' d = 0 → ¬ seen2 d = 0) → (Bs mined st (near x) → ¬ seen2 (near x) = 0) → ∃ m : Nat, m < (nearEnd c0 - x).toNat ∧ (m = (nearEnd c0 - (x + 1)).toNat ∧ 8 * c0 ≤ x + 1 ∧ x + 1 ≤ nearEnd c0 ∧ PZ w h sh mined number st first seen0 e2 wt2 seen2 ∧ e ≤ e2 ∧ (∀ j, j < e → wt2 j = wt j) ∧ (∀ c, ¬ seen c = 0 → ¬ seen2 c = 0) ∧ (∀ d ∈ (NB w h sh c0).take (x + 1 - 8 * c0).toNat, Bs mined st d → ¬ seen2 d = 0)) := by
      intro e2 wt2 seen2 k1 k2 k3 k4 k6 k5
      refine ⟨_, ?_, rfl, by omega, by omega, k1, k2, k3, fun c q => k4 c (b6 c q), fun d hd hb => ?_⟩
      · omega
      · rw [show (x + 1 - 8 * c0).toNat = (x - 8 * c0).toNat + 1 by omega, t] at hd
        rcases List.mem_append.mp hd with hd | hd
        · exact k6 d (b7 d hd hb)
        · rw [List.mem_singleton.mp hd] at hb ⊢; exact k5 hb
    refine ⟨by omega, fun v2 ev2 rv2 => ?_⟩
    subst ev2
    refine s_hasToOpen (by omega) (fun hs hb _ => exJ3i ⟨fun z => absurd z (by omega), fun _ => ⟨fun z => ?_, fun z => ⟨by omega, fun seen2 es => ⟨?_, fun wt2 ew2 => ⟨by omega, fun e2 ee2 _ => nx (by omega) ?_⟩⟩⟩⟩⟩) (fun hs _ => exJ3i ⟨fun _ _ => nx (by omega) (next _ _ _ b3 b4 b5 (fun _ q => q) (fun _ q => q) (fun hb y => hs ⟨y, hb⟩)), fun z => absurd rfl z⟩)
    · exfalso
      have := sumL_lt1 (l := cellsL (w * h)) (f := fun c => iK 1 (seen' c)) (fun y _ => iK_b _ _) (mem_cells.mpr mc) (if_neg (by omega))
      have := (sumL_bound (l := cellsL (w * h)) (f := fun c => iK 1 (seen0 c)) (fun y _ => iK_b _ _)).1
      have := b3.2.2.2.1
      omega
    · have := b3.2.2.1; omega
    · subst es ew2 ee2
      have hwj : wt' j0 = c0 := by rw [b5 j0 hj.2, ew]
      refine next _ _ _ (b3.more (j0 := j0) ⟨hj.1, by omega⟩ (by rw [hwj]; exact hz) (by rw [hwj]; exact m) hs hb) (by omega) (fun j hj => by rw [upZ_n _ _ (by omega)]; exact b5 j hj) (fun c q => ?_) (fun c q => ?_) (fun _ => by rw [upZ_s]; omega)
      · by_cases q2 : c = near x
        · rw [q2, upZ_s]; omega
        · rw [upZ_n _ _ q2]; exact q
      · by_cases q2 : c = near x
        · rw [q2, upZ_s]; omega
        · rw [upZ_n _ _ q2]; exact q
def PZF (w h sh : Int) (mined number st : Int → Int) (first : Int) (seen0 seen : Int → Int) : Prop :=
  (∀ c, 0 ≤ c → c < w * h → seen c = seen0 c ∨ (seen0 c = 0 ∧ seen c = 1 ∧ Bs mined st c)) ∧ seen first = 1 ∧ (∀ c, 0 ≤ c → c < w * h → seen c ≠ seen0 c → number c = 0 → ∀ d ∈ NB w h sh c, Bs mined st d → ¬ seen d = 0) ∧
  (∀ S : Int → Prop, S first → (∀ c d, S c → number c = 0 → d ∈ NB w h sh c → Bs mined st d → S d) → ∀ c, 0 ≤ c → c < w * h → seen c ≠ seen0 c → S c)
theorem s_passZeros {w h sh first : Int} {mined number st wt seen0 near nearEnd : Int → Int} {post : (Int → Int) → (Int → Int) → Prop} (ok : okB w h sh) (g : GeoD w h sh near nearEnd) (hc : 0 ≤ first ∧ first < w * h) (hs : seen0 first = 0) (hb : Bs mined st first)
    (hp : ∀ wt' seen' : Int → Int, PZF w h sh mined number st first seen0 seen' → post wt' seen') : P_X2_passZeros post mined number st wt seen0 near nearEnd first := by
  have hle := wh_le ok
  have hge := wh_ge ok
  have hn := cells_len (n := w * h) (by omega)
  unfold P_X2_passZeros
  refine ⟨by omega, fun s1 es1 w1 ew1 => ?_⟩
  subst es1 ew1
  have b0 : PZ w h sh mined number st first seen0 1 (upZ wt 0 first) (upZ seen0 first 1) := by
    refine ⟨fun c h0 h1 => ?_, upZ_s _ _ _, by omega, by rw [sumK_up hc hs]; omega, fun j h0 h1 => ?_, fun c h0 h1 hne => ?_, fun S s1 s2 j h0 h1 => ?_⟩
    · by_cases q : c = first
      · subst q; rw [upZ_s]; exact Or.inr ⟨hs, rfl, hb⟩
      · exact Or.inl (upZ_n _ _ q)
    · rw [show j = 0 by omega, upZ_s, upZ_s]; exact ⟨hc, rfl⟩
    · by_cases q : c = first
      · exact ⟨0, by omega, by omega, by rw [upZ_s, q]⟩
      · exact absurd (upZ_n _ _ q) hne
    · rw [show j = 0 by omega, upZ_s]; exact s1
  refine ⟨fun n e i wt' seen' => n = (144 - i).toNat ∧ 0 ≤ i ∧ i ≤ e ∧ e ≤ 144 ∧ PZ w h sh mined number st first seen0 e wt' seen' ∧ (∀ j, 0 ≤ j → j < i → number (wt' j) = 0 → ∀ d ∈ NB w h sh (wt' j), Bs mined st d → ¬ seen' d = 0), ⟨_, rfl, by omega, by omega, by omega, b0, fun j h0 h1 => by omega⟩, ?_⟩
  rintro n e i wt' seen' re ri ⟨rfl, b1, b2, b3, b4, b5⟩
  have fin : e ≤ i → post wt' seen' := by
    intro hei
    obtain ⟨c1, c2, c3, c4, c5, c6, c7⟩ := b4
    refine hp wt' seen' ⟨c1, c2, fun c h0 h1 hne hz d hd hb => ?_, fun S s1 s2 c h0 h1 hne => ?_⟩
    · obtain ⟨j, j0, j1, j2⟩ := c6 c h0 h1 hne
      rw [← j2] at hz hd
      exact b5 j j0 (by omega) hz d hd hb
    · obtain ⟨j, j0, j1, j2⟩ := c6 c h0 h1 hne
      rw [← j2]
      exact c7 S s1 s2 j j0 j1
  refine ⟨fun z => fin z, fun z => ⟨fun z2 => fin (by omega), fun z2 => ?_⟩⟩
  obtain ⟨p1, p2⟩ := b4.2.2.2.2.1 i b1 (by omega)
  have next : ∀ (e2 : Int) (wt2 seen2 : Int → Int), PZ w h sh mined number st first seen0 e2 wt2 seen2 → e ≤ e2 → (∀ j, j < e → wt2 j = wt' j) → (∀ c, ¬ seen' c = 0 → ¬ seen2 c = 0) → (number (wt' i) = 0 → ∀ d ∈ NB w h sh (wt' i), Bs mined st d → ¬ seen2 d = 0) → ∃ m : Nat, m < (144 - i).toNat ∧ (m = (144 - (i + 1)).toNat ∧ 0 ≤ i + 1 ∧ i + 1 ≤ e2 ∧ e2 ≤ 144 ∧ PZ w h sh mined number st first seen0 e2 wt2 seen2 ∧ (∀ j, 0 ≤ j → j < i + 1 → number (wt2 j) = 0 → ∀ d ∈ NB w h sh (wt2 j), Bs mined st d → ¬ seen2 d = 0)) := by
    intro e2 wt2 seen2 q1 q2 q3 q4 q5
    refine ⟨_, ?_, rfl, by omega, by omega, ?_, q1, ?_⟩
    · omega
    · have := q1.2.2.2.1
      have := (sumL_bound (l := cellsL (w * h)) (f := fun c => iK 1 (seen2 c)) (fun y _ => iK_b _ _)).2
      have := (sumL_bound (l := cellsL (w * h)) (f := fun c => iK 1 (seen0 c)) (fun y _ => iK_b _ _)).1
      omega
    · intro j j0 j1 hz dd hdd hb
      rw [q3 j (by omega)] at hz hdd
      by_cases ej : j = i
      · subst ej; exact q5 hz dd hdd hb
      · exact q4 dd (b5 j j0 (by omega) hz dd hdd hb)
  refine ⟨by omega, fun v2 ev2 rv2 => ?_⟩
  subst ev2
  refine ⟨by omega, fun v3 ev3 rv3 => exJ3i ⟨fun z3 _ => nx (by omega) (next _ _ _ b4 (by omega) (fun _ _ => rfl) (fun _ q => q) (fun z4 => absurd (by rw [ev3]; exact z4) z3)), fun z3 => ⟨by omega, fun v4 ev4 rv4 => ?_⟩⟩⟩
  subst ev4
  rw [ev3] at z3
  refine s_passAround ok g p1 b4 ⟨b1, by omega⟩ rfl z3 (fun e2 wt2 seen2 q1 q2 q3 q4 q5 _ _ => nx (by omega) (next e2 wt2 seen2 q1 q2 q3 q4 (fun _ => q5)))
theorem s_leastOpenings {w h sh mines : Int} {mined number st wt seen near nearEnd : Int → Int} {post : Int → (Int → Int) → (Int → Int) → Prop} (ok : okB w h sh) (g : GeoD w h sh near nearEnd) (dm : DMi w h sh mined number mines)
    (hp : ∀ wt' seen' : Int → Int, post (LO w h sh mined number st) wt' seen') : P_X2_leastOpenings post (w * h) mined number st wt seen near nearEnd := by
  have hle := wh_le ok
  have hge := wh_ge ok
  have hn := cells_len (n := w * h) (by omega)
  generalize eQ : Qt w h mined number st = Q
  have hQ : ∀ c, Q c ↔ (0 ≤ c ∧ c < w * h) ∧ Bs mined st c ∧ number c = 0 := fun c => by rw [← eQ]; exact Iff.rfl
  have hQc : ∀ c, Q c → 0 ≤ c ∧ c < w * h := fun c q => ((hQ c).mp q).1
  unfold P_X2_leastOpenings
  refine ⟨fun n x s => n = (w * h - x).toNat ∧ 0 ≤ x ∧ x ≤ w * h ∧ (∀ c, 0 ≤ c → c < x → s c = 0), ⟨_, rfl, by omega, by omega, fun c _ _ => by omega⟩, ?_⟩
  rintro n x s rx ⟨rfl, b1, b2, b3⟩
  refine ⟨fun q => ?_, fun q => ⟨by omega, fun s2 es => nx (by omega) ⟨_, ?_, rfl, by omega, by omega, fun c h0 h1 => ?_⟩⟩⟩
  · refine ⟨fun n k x wt' s' => n = (w * h - x).toNat ∧ 0 ≤ x ∧ x ≤ w * h ∧ (∀ c, 0 ≤ c → c < w * h → s' c = 0 ∨ (s' c = 1 ∧ Bs mined st c)) ∧ k = sumL (cellsL x) (fun c => iB (Rt w h sh Q c)) ∧
      (∀ c, Q c → (s' c = 1 ↔ ∃ d, d < x ∧ Q d ∧ Con w h sh Q d c)) ∧ (∀ c, 0 ≤ c → c < w * h → ¬ Q c → s' c = 1 → ∃ d ∈ NB w h sh c, Q d) ∧ (∀ c, Q c → s' c = 1 → ∀ d ∈ NB w h sh c, Bs mined st d → s' d = 1), ⟨_, rfl, by omega, by omega, fun c h0 h1 => Or.inl (b3 c h0 (by omega)), rfl, fun c hc => ⟨fun y => absurd (b3 c (hQc c hc).1 (by have := (hQc c hc).2; omega)) (by omega), fun ⟨d, d1, d2, _⟩ => absurd (hQc d d2).1 (by omega)⟩, fun c h0 h1 _ y => absurd (b3 c h0 (by omega)) (by omega), fun c hc y => absurd (b3 c (hQc c hc).1 (by have := (hQc c hc).2; omega)) (by omega)⟩, ?_⟩
    rintro n k x wt' s' rk rx ⟨rfl, c1, c2, c3, c4, c5, c6, c7⟩
    have kb := cellsB (f := fun c => iB (Rt w h sh Q c)) ⟨c1, c2⟩ hle (fun c _ _ => iB_b _)
    refine ⟨fun q2 => ?_, fun q2 => ?_⟩
    · have ex : x = w * h := by omega
      subst ex
      have lone : ∀ c, 0 ≤ c → c < w * h → ((s' c = 0 ∧ Bs mined st c) ↔ Ln w h sh mined st Q c) := by
        intro c h0 h1
        constructor
        · rintro ⟨y1, y2⟩
          have nq : ¬ Q c := fun z => absurd ((c5 c z).mpr ⟨c, h1, z, Con.refl⟩) (by omega)
          refine ⟨y2, nq, fun d hd hqd => ?_⟩
          have dc := hQc d hqd
          have := c7 d hqd ((c5 d hqd).mpr ⟨d, dc.2, hqd, Con.refl⟩) c ((NB_sym ok ⟨h0, h1⟩ dc).mp hd) y2
          omega
        · rintro ⟨y1, y2, y3⟩
          refine ⟨?_, y1⟩
          rcases c3 c h0 h1 with z | z
          · exact z
          · obtain ⟨d, hd, hqd⟩ := c6 c h0 h1 y2 z.1
            exact absurd hqd (y3 d hd)
      refine ⟨fun n k2 y => n = (w * h - y).toNat ∧ 0 ≤ y ∧ y ≤ w * h ∧ k2 = k + sumL (cellsL y) (fun c => iB (Ln w h sh mined st Q c)), ⟨_, rfl, by omega, by omega, by rw [show cellsL 0 = [] from rfl, sumL_nil]; omega⟩, ?_⟩
      rintro n k2 y rk2 ry ⟨rfl, d1, d2, d3⟩
      have kb2 := cellsB (f := fun c => iB (Ln w h sh mined st Q c)) ⟨d1, d2⟩ hle (fun c _ _ => iB_b _)
      refine ⟨fun q3 => ?_, fun q3 => ?_⟩
      · have ey : y = w * h := by omega
        subst ey
        have : k2 = LO w h sh mined number st := by unfold LO; rw [eQ, ← c4]; exact d3
        rw [this]; exact hp _ _
      · refine s_hasToOpen (by omega) (fun hs hb _ => exJi ⟨fun z => absurd z (by omega), fun _ => ⟨by omega, fun k3 ek3 _ => nx (by omega) ⟨_, ?_, rfl, by omega, by omega, ?_⟩⟩⟩) (fun hs _ => exJi ⟨fun _ _ => nx (by omega) ⟨_, ?_, rfl, by omega, by omega, ?_⟩, fun z => absurd rfl z⟩)
        · omega
        · rw [cells_succ d1, sumL_snoc, iB_t ((lone y d1 (by omega)).mp ⟨hs, hb⟩)]; omega
        · omega
        · rw [cells_succ d1, sumL_snoc, iB_f (fun z => hs ((lone y d1 (by omega)).mpr z))]; omega
    · have hx : 0 ≤ x ∧ x < w * h := ⟨c1, by omega⟩
      -- the next turn, where nothing was passed
      have same : (¬ Q x ∨ s' x = 1) → ∃ m : Nat, m < (w * h - x).toNat ∧ (m = (w * h - (x + 1)).toNat ∧ 0 ≤ x + 1 ∧ x + 1 ≤ w * h ∧ (∀ c, 0 ≤ c → c < w * h → s' c = 0 ∨ (s' c = 1 ∧ Bs mined st c)) ∧ k = sumL (cellsL (x + 1)) (fun c => iB (Rt w h sh Q c)) ∧ (∀ c, Q c → (s' c = 1 ↔ ∃ d, d < x + 1 ∧ Q d ∧ Con w h sh Q d c)) ∧ (∀ c, 0 ≤ c → c < w * h → ¬ Q c → s' c = 1 → ∃ d ∈ NB w h sh c, Q d) ∧ (∀ c, Q c → s' c = 1 → ∀ d ∈ NB w h sh c, Bs mined st d → s' d = 1)) := by
        intro hq
        refine ⟨_, ?_, rfl, by omega, by omega, c3, ?_, fun c hc => ?_, c6, c7⟩
        · omega
        · rw [cells_succ c1, sumL_snoc, iB_f, c4]
          · omega
          · rintro ⟨r1, r2⟩
            rcases hq with hq | hq
            · exact hq r1
            · obtain ⟨d, d1, d2, d3⟩ := (c5 x r1).mp hq
              have := r2 d d2 d3
              omega
        · rw [c5 c hc]
          constructor
          · rintro ⟨d, d1, d2, d3⟩; exact ⟨d, by omega, d2, d3⟩
          · rintro ⟨d, d1, d2, d3⟩
            by_cases ed : d = x
            · subst ed
              rcases hq with hq | hq
              · exact absurd d2 hq
              · obtain ⟨d', e1, e2, e3⟩ := (c5 d d2).mp hq
                exact ⟨d', e1, e2, e3.trans d3⟩
            · exact ⟨d, by omega, d2, d3⟩
      refine ⟨by omega, fun v ev rv => exJ3i ⟨fun z _ => nx (by omega) (same (Or.inl (fun y => z (by rw [ev]; exact ((hQ x).mp y).2.2)))), fun z => ?_⟩⟩
      refine s_hasToOpen (by omega) (fun hs hb _ => ⟨fun z => absurd z (by omega), fun _ => ⟨by omega, fun k2 ek2 => ?_⟩⟩) (fun hs _ => ⟨fun _ _ => nx (by omega) (same ?_), fun z => absurd rfl z⟩)
      · have qx : Q x := (hQ x).mpr ⟨hx, hb, by omega⟩
        have rt : Rt w h sh Q x := ⟨qx, fun d hd hcon => by
          by_cases hdx : d < x
          · have := (c5 x qx).mpr ⟨d, hdx, hd, hcon⟩
            omega
          · omega⟩
        refine s_passZeros ok g hx hs hb (fun wt2 s2 pz _ => ?_)
        have v2 : ∀ c, 0 ≤ c → c < w * h → s2 c = 0 ∨ (s2 c = 1 ∧ Bs mined st c) := by
          intro c h0 h1
          rcases pz.1 c h0 h1 with p | p
          · rw [p]; exact c3 c h0 h1
          · exact Or.inr p.2
        have mono : ∀ c, 0 ≤ c → c < w * h → s' c = 1 → s2 c = 1 := by
          intro c h0 h1 y
          rcases pz.1 c h0 h1 with p | p <;> omega
        have close : ∀ c, Q c → s2 c = 1 → ∀ d ∈ NB w h sh c, Bs mined st d → s2 d = 1 := by
          intro c hc y d hd hbd
          have cc := hQc c hc
          have dc := nb_cell hd
          by_cases eo : s2 c = s' c
          · exact mono d dc.1 dc.2 (c7 c hc (by omega) d hd hbd)
          · have := pz.2.2.1 c cc.1 cc.2 eo ((hQ c).mp hc).2.2 d hd hbd
            rcases v2 d dc.1 dc.2 with p | p
            · exact absurd p this
            · exact p.1
        refine nx (by omega) ⟨_, ?_, rfl, by omega, by omega, v2, ?_, fun c hc => ?_, fun c h0 h1 hc y => ?_, close⟩
        · omega
        · rw [cells_succ c1, sumL_snoc, iB_t rt, ek2, c4]
        · have cc := hQc c hc
          constructor
          · intro y
            by_cases eo : s2 c = s' c
            · obtain ⟨d, d1, d2, d3⟩ := (c5 c hc).mp (by omega)
              exact ⟨d, by omega, d2, d3⟩
            · refine ⟨x, by omega, qx, ?_⟩
              have := pz.2.2.2 (fun c => ((0 ≤ c ∧ c < w * h) ∧ Bs mined st c) ∧ (Q c → Con w h sh Q x c)) ⟨⟨hx, hb⟩, fun _ => Con.refl⟩ (fun a b ha hz hab hbb => ⟨⟨nb_cell hab, hbb⟩, fun hqb => by
                have qa : Q a := (hQ a).mpr ⟨ha.1.1, ha.1.2, hz⟩
                exact (ha.2 qa).step qa hqb hab⟩) c cc.1 cc.2 eo
              exact this.2 hc
          · rintro ⟨d, d1, d2, d3⟩
            by_cases ed : d = x
            · rw [ed] at d3
              exact d3 (fun c => s2 c = 1) pz.2.1 (fun a b ha qa qb hab => close a qa ha b hab ((hQ b).mp qb).2.1)
            · exact mono c cc.1 cc.2 ((c5 c hc).mpr ⟨d, by omega, d2, d3⟩)
        · by_cases eo : s2 c = s' c
          · exact c6 c h0 h1 hc (by omega)
          · have := pz.2.2.2 (fun c => ((0 ≤ c ∧ c < w * h) ∧ Bs mined st c) ∧ (¬ Q c → ∃ d ∈ NB w h sh c, Q d)) ⟨⟨hx, hb⟩, fun y => absurd qx y⟩ (fun a b ha hz hab hbb => ⟨⟨nb_cell hab, hbb⟩, fun _ => by
              have qa : Q a := (hQ a).mpr ⟨ha.1.1, ha.1.2, hz⟩
              exact ⟨a, (NB_sym ok ha.1.1 (nb_cell hab)).mp hab, qa⟩⟩) c h0 h1 eo
            exact this.2 hc
      · by_cases hs1 : Q x
        · right
          rcases c3 x hx.1 hx.2 with p | p
          · exact absurd ⟨p, ((hQ x).mp hs1).2.1⟩ hs
          · exact p.1
        · exact Or.inl hs1
  · omega
  · rw [es]
    by_cases q2 : c = x
    · rw [q2, upZ_s]
    · rw [upZ_n _ _ q2]; exact b3 c h0 (by omega)
