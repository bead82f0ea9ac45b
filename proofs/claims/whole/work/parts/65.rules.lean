/-! the reference's rules -/
def ME (w h sh : Int) (near degree mine M mined number st : Int → Int) : Prop :=
  okB w h sh ∧ GeoM w h sh near degree ∧ Eqc (w * h) mine mined ∧ (∀ c, 0 ≤ c → c < w * h → mined c = 0 ∨ mined c = 1) ∧ GSt w h sh mined number st ∧ (∀ c, 0 ≤ c → c < w * h → M c = tr (st c)) ∧ (∀ c, 0 ≤ c → c < w * h → number c = Num w h sh mined c)
theorem ME.hM {w h sh : Int} {near degree mine M mined number st : Int → Int} (E : ME w h sh near degree mine M mined number st) : ∀ c, 0 ≤ c → c < w * h → 0 ≤ M c ∧ M c ≤ 3 := fun c h0 h1 => by rw [E.2.2.2.2.2.1 c h0 h1]; exact tr_b (E.2.2.2.2.1.1 c h0 h1)
theorem ME.trM {w h sh : Int} {near degree mine M mined number st : Int → Int} (E : ME w h sh near degree mine M mined number st) {c : Int} (h0 : 0 ≤ c) (h1 : c < w * h) : tr (M c) = st c := by rw [E.2.2.2.2.2.1 c h0 h1, tr_tr]
theorem ME.hm {w h sh : Int} {near degree mine M mined number st : Int → Int} (E : ME w h sh near degree mine M mined number st) : ∀ c, 0 ≤ c → c < w * h → mine c = 0 ∨ mine c = 1 := fun c h0 h1 => by rw [E.2.2.1 c h0 h1]; exact E.2.2.2.1 c h0 h1
theorem ME.iK {w h sh : Int} {near degree mine M mined number st : Int → Int} (E : ME w h sh near degree mine M mined number st) {c k : Int} (h0 : 0 ≤ c) (h1 : c < w * h) : iK k (M c) = iK (tr k) (st c) := by rw [E.2.2.2.2.2.1 c h0 h1]; exact iK_tr (E.2.2.2.2.1.1 c h0 h1)
theorem s_unkM {w h sh c : Int} {near degree mine M mined number st : Int → Int} {post : Int → Prop} (E : ME w h sh near degree mine M mined number st) (hc : 0 ≤ c ∧ c < w * h) (hp : ∀ u : Int, (u = 0 ∨ u = 1) → (u = 1 ↔ st c ≤ 1) → post u) : P_X12_isUnknown post M c := by
  have hle := wh_le E.1
  have e := E.trM hc.1 hc.2
  exact s_isUnknownM (by omega) (E.hM c hc.1 hc.2) (fun q => hp 1 (Or.inr rfl) ⟨fun _ => by omega, fun _ => rfl⟩) (fun q => hp 0 (Or.inl rfl) ⟨fun y => absurd y (by omega), fun y => absurd y (by omega)⟩)
/-- the two rows of the reference as one row of findings -/
def fM (st sf mf : Int → Int) (d : Int) : Int := if st d ≤ 1 then (if sf d = 0 then (if mf d = 0 then 0 else 2) else 1) else 3
theorem fM_u {st sf mf : Int → Int} {d : Int} (h : st d ≤ 1) : fM st sf mf d = (if sf d = 0 then (if mf d = 0 then 0 else 2) else 1) := if_pos h
theorem fM_k {st sf mf : Int → Int} {d : Int} (h : ¬ st d ≤ 1) : fM st sf mf d = 3 := if_neg h
theorem fM_0 {st sf mf : Int → Int} {d : Int} : fM st sf mf d = 0 ↔ st d ≤ 1 ∧ sf d = 0 ∧ mf d = 0 := by
  unfold fM
  by_cases h1 : st d ≤ 1
  · rw [if_pos h1]
    by_cases h2 : sf d = 0
    · rw [if_pos h2]
      by_cases h3 : mf d = 0
      · rw [if_pos h3]; exact ⟨fun _ => ⟨h1, h2, h3⟩, fun _ => rfl⟩
      · rw [if_neg h3]; exact ⟨fun y => absurd y (by omega), fun y => absurd y.2.2 h3⟩
    · rw [if_neg h2]; exact ⟨fun y => absurd y (by omega), fun y => absurd y.2.1 h2⟩
  · rw [if_neg h1]; exact ⟨fun y => absurd y (by omega), fun y => absurd y.1 h1⟩
/-- the rows hold the truth -/
def MI (n : Int) (mined st sf mf : Int → Int) : Prop := ∀ d, 0 ≤ d → d < n → (sf d = 0 ∨ (sf d = 1 ∧ mined d = 0 ∧ st d ≤ 1)) ∧ (mf d = 0 ∨ (mf d = 1 ∧ mined d = 1 ∧ st d ≤ 1))
theorem MI.val {n d : Int} {mined st sf mf : Int → Int} (m : MI n mined st sf mf) (h0 : 0 ≤ d) (h1 : d < n) : (st d ≤ 1 → fM st sf mf d = 0 ∨ fM st sf mf d = 1 + mined d) ∧ (¬ st d ≤ 1 → fM st sf mf d = 3) := by
  refine ⟨fun u => ?_, fun u => if_neg u⟩
  rw [fM_u u]
  obtain ⟨p, q⟩ := m d h0 h1
  rcases p with p | p
  · rw [if_pos p]
    rcases q with q | q
    · rw [if_pos q]; exact Or.inl rfl
    · rw [if_neg (by omega)]; exact Or.inr (by omega)
  · rw [if_neg (by omega)]; exact Or.inr (by omega)
theorem MI.v1 {n d : Int} {mined st sf mf : Int → Int} (m : MI n mined st sf mf) (h0 : 0 ≤ d) (h1 : d < n) : fM st sf mf d = 1 ↔ sf d = 1 := by
  obtain ⟨p, q⟩ := m d h0 h1
  by_cases u : st d ≤ 1
  · rw [fM_u u]
    rcases p with p | p
    · rw [if_pos p]
      by_cases z : mf d = 0
      · rw [if_pos z]; omega
      · rw [if_neg z]; omega
    · rw [if_neg (by omega)]; exact ⟨fun _ => p.1, fun _ => rfl⟩
  · rw [fM_k u]; omega
theorem MI.v2 {n d : Int} {mined st sf mf : Int → Int} (m : MI n mined st sf mf) (h0 : 0 ≤ d) (h1 : d < n) : fM st sf mf d = 2 ↔ mf d = 1 := by
  obtain ⟨p, q⟩ := m d h0 h1
  by_cases u : st d ≤ 1
  · rw [fM_u u]
    rcases p with p | p
    · rw [if_pos p]
      by_cases z : mf d = 0
      · rw [if_pos z]; omega
      · rw [if_neg z]; omega
    · rw [if_neg (by omega)]; omega
  · rw [fM_k u]; omega
theorem s_isOpenEndM {w h sh c : Int} {near degree mine M mined number st sf mf : Int → Int} {post : Int → Prop} (E : ME w h sh near degree mine M mined number st) (hc : 0 ≤ c ∧ c < w * h) (hp : ∀ u : Int, (u = 0 ∨ u = 1) → (u = 1 ↔ fM st sf mf c = 0) → post u) : P_X12_isOpenEnd post M sf mf c := by
  have hle := wh_le E.1
  have e := fM_0 (st := st) (sf := sf) (mf := mf) (d := c)
  unfold P_X12_isOpenEnd
  refine s_unkM E hc (fun u hu iu _ => exJi (exJ0 ⟨fun z _ => ⟨by omega, hp 0 (Or.inl rfl) ⟨fun y => absurd y (by omega), fun y => ?_⟩⟩, fun z => ⟨by omega, fun v ev rv => ⟨fun z2 _ => ⟨by omega, hp 0 (Or.inl rfl) ⟨fun y => absurd y (by omega), fun y => ?_⟩⟩, fun z2 => ⟨by omega, fun v2 ev2 rv2 => ⟨fun z3 _ => ⟨by omega, hp 0 (Or.inl rfl) ⟨fun y => absurd y (by omega), fun y => ?_⟩⟩, fun z3 _ => ⟨by omega, hp 1 (Or.inr rfl) ⟨fun _ => e.mpr ⟨iu.mp (by omega), by omega, by omega⟩, fun _ => rfl⟩⟩⟩⟩⟩⟩⟩))
  · have := iu.mpr (e.mp y).1; omega
  · exact absurd (by rw [ev]; exact (e.mp y).2.1) z2
  · exact absurd (by rw [ev2]; exact (e.mp y).2.2) z3
/-- a count over the row of neighbours of the reference, as its loops make it -/
theorem s_foundAroundM {w h sh c what : Int} {near degree mine M mined number st sf mf : Int → Int} {post : Int → Prop} (E : ME w h sh near degree mine M mined number st) (mi : MI (w * h) mined st sf mf) (hc : 0 ≤ c ∧ c < w * h) (hw : what = 0 ∨ what = 1) (hp : post (sumL (NB w h sh c) (fun d => iK (what + 1) (fM st sf mf d)))) : P_X12_foundAround post near degree M sf mf c what := by
  have ok := E.1
  have g := E.2.1
  have hle := wh_le ok
  have hl := NB_len ok hc
  have ge := (g c hc.1 hc.2).1
  unfold P_X12_foundAround
  refine ⟨fun n s k => n = (degree c - k).toNat ∧ 0 ≤ k ∧ k ≤ degree c ∧ s = sumL ((NB w h sh c).take k.toNat) (fun d => iK (what + 1) (fM st sf mf d)), ⟨_, rfl, by omega, by omega, rfl⟩, ?_⟩
  rintro n s k rs rk ⟨rfl, b1, b2, b3⟩
  refine ⟨by omega, fun v ev rv => ⟨fun q => ?_, fun q => ?_⟩⟩
  · rw [rowM_end g hc (by omega)] at b3
    rw [b3]; exact hp
  · obtain ⟨m, t⟩ := rowM_at g hc b1 (by omega)
    have mc := nb_cell m
    have tb := take_b (k := k.toNat) (f := fun d => iK (what + 1) (fM st sf mf d)) ok hc (fun x _ => iK_b _ _)
    refine ⟨by omega, fun v2 ev2 rv2 => ?_⟩
    subst ev2
    have i1 := mi.v1 mc.1 mc.2
    have i2 := mi.v2 mc.1 mc.2
    have iu0 : ¬ st (near (8 * c + k)) ≤ 1 → fM st sf mf (near (8 * c + k)) = 3 := (mi.val mc.1 mc.2).2
    have fin : ∀ z : Int, z = iK (what + 1) (fM st sf mf (near (8 * c + k))) → (inR (s + z) ∧ ∀ s2 : Int, s2 = s + z → (inR (k + 1) ∧ ∀ k2 : Int, k2 = k + 1 → ∃ m : Nat, m < (degree c - k).toNat ∧ (m = (degree c - k2).toNat ∧ 0 ≤ k2 ∧ k2 ≤ degree c ∧ s2 = sumL ((NB w h sh c).take k2.toNat) (fun d => iK (what + 1) (fM st sf mf d))))) := by
      intro z ez
      have kb := iK_b (what + 1) (fM st sf mf (near (8 * c + k)))
      refine ⟨by omega, fun s2 es2 => nx (by omega) ⟨_, ?_, rfl, by omega, by omega, ?_⟩⟩
      · omega
      · rw [show (k + 1).toNat = k.toNat + 1 by omega, t, sumL_snoc, es2, b3, ez]
    have f0 : ¬ fM st sf mf (near (8 * c + k)) = what + 1 → (0 : Int) = iK (what + 1) (fM st sf mf (near (8 * c + k))) := fun y => (if_neg y).symm
    have f1 : fM st sf mf (near (8 * c + k)) = what + 1 → (1 : Int) = iK (what + 1) (fM st sf mf (near (8 * c + k))) := fun y => (if_pos y).symm
    refine s_unkM E mc (fun u hu iu _ => exJi (exJ0 ⟨fun z _ => fin 0 (f0 (fun y => ?_)), fun z => exJ0 ⟨fun z2 => ⟨by omega, fun v3 ev3 rv3 => ⟨fun z3 _ => fin 0 (f0 (fun y => ?_)), fun z3 _ => fin 1 (f1 ?_)⟩⟩, fun z2 => ⟨by omega, fun v3 ev3 rv3 => ⟨fun z3 _ => fin 0 (f0 (fun y => ?_)), fun z3 _ => fin 1 (f1 ?_)⟩⟩⟩⟩))
    · rw [iu0 (fun y2 => by have := iu.mpr y2; omega)] at y; omega
    · have := i1.mp (by omega); omega
    · have := i1.mpr (by omega); omega
    · have := i2.mp (by omega); omega
    · have := i2.mpr (by omega); omega
theorem s_restOfM {w h sh c : Int} {near degree mine M mined number st : Int → Int} {post : Int → Prop} (E : ME w h sh near degree mine M mined number st) (hc : 0 ≤ c ∧ c < w * h) (hp : post (sumL (NB w h sh c) (fun d => iU (st d) * mined d))) : P_X12_restOf post near degree mine M c := by
  obtain ⟨ok, g, em, hmi, gs, eM, en⟩ := id E
  have e : sumL (NB w h sh c) mined = sumL (NB w h sh c) (fun d => iU (st d) * mined d) + sumL (NB w h sh c) (fun d => iK 3 (M d)) := sumL_add (fun x hx => by
    have xc := nb_cell hx
    have sx := gs.1 x xc.1 xc.2
    rw [E.iK xc.1 xc.2]
    rcases (show st x = 0 ∨ st x = 1 ∨ st x = 2 ∨ st x = 3 by omega) with e | e | e | e
    · rw [e, show iU 0 = 1 from rfl, show iK (tr 3) 0 = 0 from rfl]; omega
    · rw [e, show iU 1 = 1 from rfl, show iK (tr 3) 1 = 0 from rfl]; omega
    · rw [gs.2.1 x xc.1 xc.2 e, e]; rfl
    · rw [gs.2.2.1 x xc.1 xc.2 e, e]; rfl)
  have b1 := sumL_bound (l := NB w h sh c) (f := fun d => iK 3 (M d)) (fun x _ => iK_b _ _)
  have b2 := sumL_bound (l := NB w h sh c) (f := fun d => iU (st d) * mined d) (fun x hx => by
    have xc := nb_cell hx
    have := mul01 (iU_b (st x)) (hmi x xc.1 xc.2)
    have := iU_b (st x)
    omega)
  have hl := NB_len ok hc
  unfold P_X12_restOf
  refine s_numberOf ok g hc E.hm (fun _ => s_aroundM ok g hc (fun _ => ?_))
  have e2 : Num w h sh mine c = sumL (NB w h sh c) mined := num_congr em
  rw [show Num w h sh mine c - sumL (NB w h sh c) (fun d => iK 3 (M d)) = sumL (NB w h sh c) (fun d => iU (st d) * mined d) by omega]
  exact ⟨by omega, hp⟩
theorem s_unknownsM {w h sh c : Int} {near degree mine M mined number st : Int → Int} {post : Int → Prop} (E : ME w h sh near degree mine M mined number st) (hc : 0 ≤ c ∧ c < w * h) (hp : post (sumL (NB w h sh c) (fun d => iU (st d)))) : P_X12_unknowns post near degree M c := by
  obtain ⟨ok, g, em, hmi, gs, eM, en⟩ := id E
  have e : sumL (NB w h sh c) (fun d => iU (st d)) = sumL (NB w h sh c) (fun d => iK 0 (M d)) + sumL (NB w h sh c) (fun d => iK 2 (M d)) := sumL_add (fun x hx => by
    have xc := nb_cell hx
    rw [E.iK xc.1 xc.2, E.iK xc.1 xc.2]
    exact iU_split (gs.1 x xc.1 xc.2))
  have b1 := sumL_bound (l := NB w h sh c) (f := fun d => iU (st d)) (fun x _ => iU_b _)
  have hl := NB_len ok hc
  unfold P_X12_unknowns
  refine s_aroundM ok g hc (fun _ => s_aroundM ok g hc (fun _ => ?_))
  rw [← e]
  exact ⟨by omega, hp⟩
theorem s_endsBesideM {w h sh c other : Int} {near degree mine M mined number st sf mf : Int → Int} {post : Int → Prop} (E : ME w h sh near degree mine M mined number st) (hc : 0 ≤ c ∧ c < w * h) (ho : 0 ≤ other ∧ other < w * h) (hp : post (sumL (NB w h sh c) (fun d => iB (¬ d ∈ NB w h sh other) * iK 0 (fM st sf mf d)))) : P_X12_endsBeside post w h sh near degree M sf mf c other := by
  have ok := E.1
  have g := E.2.1
  have hle := wh_le ok
  have hl := NB_len ok hc
  have ge := (g c hc.1 hc.2).1
  unfold P_X12_endsBeside
  refine ⟨fun n s k => n = (degree c - k).toNat ∧ 0 ≤ k ∧ k ≤ degree c ∧ s = sumL ((NB w h sh c).take k.toNat) (fun d => iB (¬ d ∈ NB w h sh other) * iK 0 (fM st sf mf d)), ⟨_, rfl, by omega, by omega, rfl⟩, ?_⟩
  rintro n s k rs rk ⟨rfl, b1, b2, b3⟩
  have vb : ∀ x, 0 ≤ iB (¬ x ∈ NB w h sh other) * iK 0 (fM st sf mf x) ∧ iB (¬ x ∈ NB w h sh other) * iK 0 (fM st sf mf x) ≤ 1 := by
    intro x
    have := iK_b 0 (fM st sf mf x)
    by_cases q : x ∈ NB w h sh other
    · rw [iB_f (fun z => z q)]; omega
    · rw [iB_t q]; omega
  refine ⟨by omega, fun v ev rv => ⟨fun q => ?_, fun q => ?_⟩⟩
  · rw [rowM_end g hc (by omega)] at b3
    rw [b3]; exact hp
  · obtain ⟨m, t⟩ := rowM_at g hc b1 (by omega)
    have mc := nb_cell m
    have tb := take_b (k := k.toNat) (f := fun d => iB (¬ d ∈ NB w h sh other) * iK 0 (fM st sf mf d)) ok hc (fun x _ => vb x)
    refine ⟨by omega, fun v2 ev2 rv2 => ?_⟩
    subst ev2
    have vx := vb (near (8 * c + k))
    have fin : ∀ z : Int, z = iB (¬ near (8 * c + k) ∈ NB w h sh other) * iK 0 (fM st sf mf (near (8 * c + k))) → (inR (s + z) ∧ ∀ s2 : Int, s2 = s + z → (inR (k + 1) ∧ ∀ k2 : Int, k2 = k + 1 → ∃ m : Nat, m < (degree c - k).toNat ∧ (m = (degree c - k2).toNat ∧ 0 ≤ k2 ∧ k2 ≤ degree c ∧ s2 = sumL ((NB w h sh c).take k2.toNat) (fun d => iB (¬ d ∈ NB w h sh other) * iK 0 (fM st sf mf d))))) := by
      intro z ez
      refine ⟨by omega, fun s2 es2 => nx (by omega) ⟨_, ?_, rfl, by omega, by omega, ?_⟩⟩
      · omega
      · rw [show (k + 1).toNat = k.toNat + 1 by omega, t, sumL_snoc, es2, b3, ez]
    refine s_isOpenEndM E mc (fun u hu iu _ => exJi (exJ0 ⟨fun z _ => fin 0 ?_, fun z => exJ0 ⟨fun z2 => absurd z2 (by omega), fun z2 => s_areNearM ok ho mc (fun y _ => ⟨fun _ _ => fin 0 ?_, fun z3 => absurd z3 (by omega)⟩) (fun y _ => ⟨fun z3 => absurd rfl z3, fun _ _ => fin 1 ?_⟩)⟩⟩))
    · rw [iK0_f (fun y => by have := iu.mpr y; omega)]; omega
    · rw [iB_f (fun z3 => z3 y)]; omega
    · rw [iB_t y, iK0_t (iu.mp (by omega))]; rfl
/-- finding in the reference -/
theorem s_findM {w h sh c other v : Int} {near degree mine M mined number st sf mf : Int → Int} {post : Int → (Int → Int) → (Int → Int) → Prop} (E : ME w h sh near degree mine M mined number st) (mi : MI (w * h) mined st sf mf) (hc : 0 ≤ c ∧ c < w * h) (ho : other = -1 ∨ (0 ≤ other ∧ other < w * h)) (hv2 : v = 0 ∨ v = 1) (hv : ∀ d, Mk w h sh (fM st sf mf) c other d → v = mined d)
    (h0 : (∀ d, ¬ Mk w h sh (fM st sf mf) c other d) → post 0 sf mf)
    (h1 : ∀ sf' mf' : Int → Int, MI (w * h) mined st sf' mf' → (∀ d, ¬ Mk w h sh (fM st sf mf) c other d → fM st sf' mf' d = fM st sf mf d) → Zf (w * h) (fM st sf' mf') < Zf (w * h) (fM st sf mf) → post 1 sf' mf') : P_X12_find post w h sh near degree M sf mf c other v := by
  obtain ⟨ok, g, em, hmi, gs, eM, en⟩ := id E
  have hle := wh_le ok
  have hl := NB_len ok hc
  have ge := (g c hc.1 hc.2).1
  have nd := pw_nodup (NB_pw (w := w) (h := h) (sh := sh) (a := c))
  unfold P_X12_find
  refine ⟨fun n b k sf' mf' => n = (degree c - k).toNat ∧ 0 ≤ k ∧ k ≤ degree c ∧ (b = 0 ∨ b = 1) ∧ MI (w * h) mined st sf' mf' ∧ (b = 0 → sf' = sf ∧ mf' = mf ∧ ∀ d ∈ (NB w h sh c).take k.toNat, ¬ Mk w h sh (fM st sf mf) c other d) ∧ (∀ d, ¬ (Mk w h sh (fM st sf mf) c other d ∧ d ∈ (NB w h sh c).take k.toNat) → fM st sf' mf' d = fM st sf mf d) ∧ (b = 1 → Zf (w * h) (fM st sf' mf') < Zf (w * h) (fM st sf mf)), ⟨_, rfl, by omega, by omega, Or.inl rfl, mi, fun _ => ⟨rfl, rfl, fun d hd => by simp at hd⟩, fun _ _ => rfl, fun y => absurd y (by omega)⟩, ?_⟩
  rintro n b k sf' mf' rb rk ⟨rfl, b1, b2, b3, b4, b5, b6, b7⟩
  refine ⟨by omega, fun v1 ev1 rv1 => ⟨fun q => ⟨b3, ?_⟩, fun q => ?_⟩⟩
  · rw [rowM_end g hc (by omega)] at b5 b6
    rcases b3 with e | e
    · subst e
      obtain ⟨e1, e2, e3⟩ := b5 rfl
      subst e1 e2
      exact h0 (fun d hd => e3 d hd.1 hd)
    · subst e
      exact h1 sf' mf' b4 (fun d hd => b6 d (fun y => hd y.1)) (b7 rfl)
  · obtain ⟨m, t⟩ := rowM_at g hc b1 (by omega)
    have mc := nb_cell m
    have nm : ¬ near (8 * c + k) ∈ (NB w h sh c).take k.toNat := fun y => by
      have nd2 := nd.sublist (List.take_sublist (k.toNat + 1) _)
      rw [t] at nd2
      exact (List.nodup_append.mp nd2).2.2 _ y _ (List.mem_singleton.mpr rfl) rfl
    have fx : fM st sf' mf' (near (8 * c + k)) = fM st sf mf (near (8 * c + k)) := b6 _ (fun y => nm y.2)
    refine ⟨by omega, fun v2 ev2 rv2 => ?_⟩
    subst ev2
    have skip : ¬ Mk w h sh (fM st sf mf) c other (near (8 * c + k)) → ∃ m : Nat, m < (degree c - k).toNat ∧ (m = (degree c - (k + 1)).toNat ∧ 0 ≤ k + 1 ∧ k + 1 ≤ degree c ∧ (b = 0 ∨ b = 1) ∧ MI (w * h) mined st sf' mf' ∧ (b = 0 → sf' = sf ∧ mf' = mf ∧ ∀ d ∈ (NB w h sh c).take (k + 1).toNat, ¬ Mk w h sh (fM st sf mf) c other d) ∧ (∀ d, ¬ (Mk w h sh (fM st sf mf) c other d ∧ d ∈ (NB w h sh c).take (k + 1).toNat) → fM st sf' mf' d = fM st sf mf d) ∧ (b = 1 → Zf (w * h) (fM st sf' mf') < Zf (w * h) (fM st sf mf))) := by
      intro hn
      refine ⟨_, ?_, rfl, by omega, by omega, b3, b4, fun e => ⟨(b5 e).1, (b5 e).2.1, fun d hd => ?_⟩, fun d hd => b6 d (fun y => hd ⟨y.1, ?_⟩), b7⟩
      · omega
      · rw [show (k + 1).toNat = k.toNat + 1 by omega, t] at hd
        rcases List.mem_append.mp hd with hd | hd
        · exact (b5 e).2.2 d hd
        · rw [List.mem_singleton.mp hd]; exact hn
      · rw [show (k + 1).toNat = k.toNat + 1 by omega, t]; exact List.mem_append_left _ y.2
    have take : Mk w h sh (fM st sf mf) c other (near (8 * c + k)) → ∀ sf2 mf2 : Int → Int, ((v = 0 ∧ sf2 = upZ sf' (near (8 * c + k)) 1 ∧ mf2 = mf') ∨ (v = 1 ∧ sf2 = sf' ∧ mf2 = upZ mf' (near (8 * c + k)) 1)) → ∃ m : Nat, m < (degree c - k).toNat ∧ (m = (degree c - (k + 1)).toNat ∧ 0 ≤ k + 1 ∧ k + 1 ≤ degree c ∧ ((1 : Int) = 0 ∨ (1 : Int) = 1) ∧ MI (w * h) mined st sf2 mf2 ∧ ((1 : Int) = 0 → sf2 = sf ∧ mf2 = mf ∧ ∀ d ∈ (NB w h sh c).take (k + 1).toNat, ¬ Mk w h sh (fM st sf mf) c other d) ∧ (∀ d, ¬ (Mk w h sh (fM st sf mf) c other d ∧ d ∈ (NB w h sh c).take (k + 1).toNat) → fM st sf2 mf2 d = fM st sf mf d) ∧ ((1 : Int) = 1 → Zf (w * h) (fM st sf2 mf2) < Zf (w * h) (fM st sf mf))) := by
      intro mk sf2 mf2 hh
      have tv := hv _ mk
      have e0 := fM_0.mp mk.2.1
      have e0' : fM st sf' mf' (near (8 * c + k)) = 0 := by rw [fx]; exact mk.2.1
      have e1 := fM_0.mp e0'
      have fn : ∀ d, d ≠ near (8 * c + k) → fM st sf2 mf2 d = fM st sf' mf' d := by
        intro d hd
        rcases hh with ⟨-, h1, h2⟩ | ⟨-, h1, h2⟩
        · unfold fM; rw [h1, h2, upZ_n _ _ hd]
        · unfold fM; rw [h1, h2, upZ_n _ _ hd]
      have fz : ¬ fM st sf2 mf2 (near (8 * c + k)) = 0 := by
        intro y
        have := fM_0.mp y
        rcases hh with ⟨-, h1, h2⟩ | ⟨-, h1, h2⟩
        · rw [h1, upZ_s] at this; omega
        · rw [h2, upZ_s] at this; omega
      have fe : fM st sf2 mf2 = upZ (fM st sf' mf') (near (8 * c + k)) (fM st sf2 mf2 (near (8 * c + k))) := by
        funext d
        by_cases ed : d = near (8 * c + k)
        · rw [ed, upZ_s]
        · rw [upZ_n _ _ ed]; exact fn d ed
      have zz := Zf_up (n := w * h) (f := fM st sf' mf') mc e0' fz
      rw [← fe] at zz
      refine ⟨_, ?_, rfl, by omega, by omega, Or.inr rfl, fun d d0 d1 => ?_, fun y => absurd y (by omega), fun d hd => ?_, fun _ => ?_⟩
      · omega
      · by_cases ed : d = near (8 * c + k)
        · rw [ed]
          rcases hh with ⟨h0, h1, h2⟩ | ⟨h0, h1, h2⟩
          · rw [h1, h2, upZ_s]; exact ⟨Or.inr ⟨rfl, by omega, e0.1⟩, Or.inl e1.2.2⟩
          · rw [h1, h2, upZ_s]; exact ⟨Or.inl e1.2.1, Or.inr ⟨rfl, by omega, e0.1⟩⟩
        · have := b4 d d0 d1
          rcases hh with ⟨h0, h1, h2⟩ | ⟨h0, h1, h2⟩
          · rw [h1, h2, upZ_n _ _ ed]; exact this
          · rw [h1, h2, upZ_n _ _ ed]; exact this
      · by_cases ed : d = near (8 * c + k)
        · exfalso
          refine hd ⟨by rw [ed]; exact mk, ?_⟩
          rw [show (k + 1).toNat = k.toNat + 1 by omega, t, ed]
          exact List.mem_append_right _ (List.mem_singleton.mpr rfl)
        · rw [fn d ed]
          refine b6 d (fun y => hd ⟨y.1, ?_⟩)
          rw [show (k + 1).toNat = k.toNat + 1 by omega, t]; exact List.mem_append_left _ y.2
      · rcases b3 with e | e
        · obtain ⟨z1, z2, -⟩ := b5 e
          rw [z1, z2] at zz
          omega
        · have := b7 e; omega
    refine s_isOpenEndM E mc (fun u hu iu _ => exJ3i ⟨fun z _ => nx (by omega) (skip (fun y => ?_)), fun z => ⟨(other = -1 ∨ ¬ near (8 * c + k) ∈ NB w h sh other), ⟨fun z2 => Or.inl (by omega), fun z2 => s_areNearM ok (by omega) mc (fun y _ => ⟨fun _ _ => nx (by omega) (skip (fun y2 => ?_)), fun z3 => absurd z3 (by omega)⟩) (fun y _ => ⟨fun z3 => absurd rfl z3, fun _ => Or.inr y⟩)⟩, fun hJ => ?_⟩⟩)
    · have := iu.mpr (by rw [fx]; exact y.2.1); omega
    · rcases y2.2.2 with y2 | y2
      · omega
      · exact y2 y
    · have mk : Mk w h sh (fM st sf mf) c other (near (8 * c + k)) := ⟨m, by rw [← fx]; exact iu.mp (by omega), hJ⟩
      exact exJ2' ⟨fun z2 => ⟨by omega, fun sf2 e2 _ => nx (by omega) (take mk sf2 mf' (Or.inl ⟨z2, e2, rfl⟩))⟩, fun z2 => ⟨by omega, fun mf2 e2 _ => nx (by omega) (take mk sf' mf2 (Or.inr ⟨by omega, rfl, e2⟩))⟩⟩
