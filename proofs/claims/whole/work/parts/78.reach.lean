/-! the reference: parts counted, and sums that can be reached -/
theorem DV.pl {w h sh fits q p : Int} {st po pl sz : Int → Int} {Ch : Int → Prop} (dv : DV w h sh st Ch fits q po pl sz) (hf : fits = 1) (hp : 0 ≤ p ∧ p < q) : PlOk (w * h) st po pl p ∧ sz p = (Lp (w * h) po p).length ∧ sz p ≤ 16 := by
  obtain ⟨-, hq, d1, d2, d3, d4, d5⟩ := dv
  have e1 : sz p = (Lp (w * h) po p).length := by
    rw [(d4 p hp.1 hp.2).1, Lp_len]
  have e2 := d5.1 hf p hp.1 hp.2
  refine ⟨fun d h0 h1 hd => ?_, e1, e2⟩
  have bd : Bd w h sh st Ch d := by
    by_cases k : Bd w h sh st Ch d
    · exact k
    · have := (d1 d h0 h1).2 k
      omega
  have e3 := d3 d bd
  rw [hd] at e3
  have get := Lp_get (n := w * h) ⟨h0, h1⟩ hd
  rw [← e3] at get
  have lt : (pl d).toNat < (Lp (w * h) po p).length := (List.getElem?_eq_some_iff.1 get).1
  have nn : 0 ≤ pl d := by
    rw [e3]
    exact sumL_pos (fun x _ => (iK_b _ _).1)
  exact ⟨bd.2.1, e3, nn, by omega⟩
def RLs (n q : Int) (po : Int → Int) : List (List Int) := (List.range q.toNat).map (fun i : Nat => Lp n po (i : Int))
theorem map_flat_nd {f : Nat → List Int} : ∀ {r : List Nat}, r.Nodup → (∀ i ∈ r, (f i).Nodup) → (∀ i ∈ r, ∀ j ∈ r, ∀ c, c ∈ f i → c ∈ f j → i = j) → (r.map f).flatten.Nodup := by
  intro r
  induction r with
  | nil => intro _ _ _; exact List.nodup_nil
  | cons a r ih =>
    intro nd h1 h2
    have nd' := List.nodup_cons.1 nd
    rw [List.map_cons, List.flatten_cons]
    refine List.nodup_append.2 ⟨h1 a List.mem_cons_self, ih nd'.2 (fun i m => h1 i (List.mem_cons_of_mem _ m)) (fun i mi j mj => h2 i (List.mem_cons_of_mem _ mi) j (List.mem_cons_of_mem _ mj)), fun x hx y hy e => ?_⟩
    subst e
    obtain ⟨l, ml, mx⟩ := List.mem_flatten.1 hy
    obtain ⟨j, mj, ej⟩ := List.mem_map.1 ml
    subst ej
    have := h2 a List.mem_cons_self j (List.mem_cons_of_mem _ mj) x hx mx
    exact nd'.1 (this ▸ mj)
theorem DV.pls {w h sh fits q : Int} {st po pl sz : Int → Int} {Ch : Int → Prop} (cok : ChOk w h sh st Ch) (dv : DV w h sh st Ch fits q po pl sz) : PLs w h sh st Ch (RLs (w * h) q po) := by
  obtain ⟨-, hq, d1, d2, d3, d4, d5⟩ := dv
  have bdp : ∀ d, 0 ≤ d → d < w * h → 0 ≤ po d → Bd w h sh st Ch d := by
    intro d h0 h1 hd
    by_cases k : Bd w h sh st Ch d
    · exact k
    · have := (d1 d h0 h1).2 k
      omega
  refine ⟨map_flat_nd List.nodup_range (fun i _ => Lp_nd) (fun i _ j _ c hi hj => ?_), fun L mL => ?_, fun c => ?_⟩
  · have := (mem_Lp.1 hi).2
    have := (mem_Lp.1 hj).2
    omega
  · obtain ⟨i, mi, ei⟩ := List.mem_map.1 mL
    subst ei
    rintro n hn ⟨d, md, ml⟩ e me ue
    obtain ⟨m1, m2⟩ := mem_Lp.1 ml
    have bd := bdp d m1.1 m1.2 (by omega)
    have be : Bd w h sh st Ch e := ⟨(mem_NB.1 me).1, ue, n, hn, me⟩
    have := (d2 d e bd be).2 (Cn.one hn md bd.2.1 me ue)
    exact mem_Lp.2 ⟨be.1, by omega⟩
  · rw [List.mem_flatten]
    constructor
    · rintro ⟨l, ml, mc⟩
      obtain ⟨i, mi, ei⟩ := List.mem_map.1 ml
      subst ei
      obtain ⟨m1, m2⟩ := mem_Lp.1 mc
      exact bdp c m1.1 m1.2 (by omega)
    · intro bd
      have := (d1 c bd.1.1 bd.1.2).1 bd
      exact ⟨_, List.mem_map.2 ⟨(po c).toNat, List.mem_range.2 (by omega), rfl⟩, mem_Lp.2 ⟨bd.1, by omega⟩⟩
/-- the reference's border, divided and counted -/
def CM (w h sh : Int) (st R : Int → Int) (Ch : Int → Prop) (fits q : Int) (po pl sz ways wth : Int → Int) : Prop := DV w h sh st Ch fits q po pl sz ∧ (fits = 1 → ∀ p, 0 ≤ p → p < q → CPt w h sh st R Ch (Lp (w * h) po p) p pl ways wth)
theorem s_countPartsM {w h sh q0 N0 : Int} {near degree mine M mined number st us po0 pl0 sz0 ms0 rs0 bt ways0 wth0 : Int → Int} {Ch : Int → Prop} {post : Int → Int → Int → (Int → Int) → (Int → Int) → (Int → Int) → (Int → Int) → (Int → Int) → (Int → Int) → (Int → Int) → Prop} (E : ME w h sh near degree mine M mined number st) (uk : UsOk w h sh st us Ch) (cok : ChOk w h sh st Ch) (bt_ok : BT bt)
    (hp : ∀ (fits q N : Int) (po pl sz ways wth ms rs : Int → Int), CM w h sh st (fun n => sumL (NB w h sh n) (fun d => iU (st d) * mined d)) Ch fits q po pl sz ways wth → post fits q N po pl sz ways wth ms rs) : P_X12_countParts post (w * h) q0 N0 near degree mine M us po0 pl0 sz0 ways0 wth0 ms0 rs0 bt := by
  unfold P_X12_countParts
  refine s_divideM E uk cok (fun fits q po pl sz dv hf => ?_)
  have hq := dv.2.1
  refine ⟨fun k x N ways wth ms rs => k = (q - x).toNat ∧ 0 ≤ x ∧ x ≤ q ∧ (fits = 1 → ∀ p, 0 ≤ p → p < x → CPt w h sh st (fun n => sumL (NB w h sh n) (fun d => iU (st d) * mined d)) Ch (Lp (w * h) po p) p pl ways wth), ⟨_, rfl, by omega, by omega, fun _ p _ _ => by omega⟩, ?_⟩
  rintro k x N ways wth ms rs rx ⟨rfl, b1, b2, b3⟩
  refine ⟨fun z => hp _ _ _ _ _ _ _ _ _ _ ⟨dv, fun f p p0 p1 => b3 f p p0 (by omega)⟩, fun z => ⟨fun z2 => hp _ _ _ _ _ _ _ _ _ _ ⟨dv, fun f => by omega⟩, fun z2 => ?_⟩⟩
  have f1 : fits = 1 := by omega
  have px := dv.pl f1 (p := x) ⟨b1, by omega⟩
  refine s_countPartM E uk cok bt_ok px.1 ⟨by omega, by omega⟩ px.2.1 px.2.2 (fun N' ways' wth' ms' rs' c1 c2 c3 => nx (by omega) ⟨_, ?_, rfl, by omega, by omega, fun _ p p0 p1 => ?_⟩)
  · omega
  · by_cases e : p = x
    · subst e
      exact c1
    · intro m m0 m1
      have o := b3 f1 p p0 (by omega) m m0 m1
      refine ⟨by rw [c2 _ (by omega)]; exact o.1, fun c hc => ?_⟩
      have hc' := mem_Lp.1 hc
      have := (dv.pl f1 (p := p) ⟨p0, by omega⟩).1 c hc'.1.1 hc'.1.2 hc'.2
      rw [c3 _ (by omega)]
      exact o.2 c hc
theorem Fr_len {w h sh : Int} {st : Int → Int} {Ch : Int → Prop} : ((FrL w h sh st Ch).length : Int) = sumL (cellsL (w * h)) (fun c => iB (st c ≤ 1 ∧ ¬ Bd w h sh st Ch c)) := by
  have e : ((FrL w h sh st Ch).length : Int) = sumL (FrL w h sh st Ch) (fun _ => 1) := by
    rw [sumL_const (k := 1) (fun _ _ => rfl)]
    omega
  rw [e]
  unfold FrL
  rw [sumL_filter]
  refine sumL_congr (fun c _ => ?_)
  by_cases k : st c ≤ 1 ∧ ¬ Bd w h sh st Ch c
  · rw [if_pos (dB_iff.2 k), iB_t k]
  · rw [if_neg (fun q => k (dB_iff.1 q)), iB_f k]
theorem s_freeM {w h sh fits q : Int} {near degree mine M mined number st po pl sz : Int → Int} {Ch : Int → Prop} {post : Int → Prop} (E : ME w h sh near degree mine M mined number st) (dv : DV w h sh st Ch fits q po pl sz) (hp : post ((FrL w h sh st Ch).length : Int)) : P_X12_freeCells post (w * h) M po := by
  have hle := wh_le E.1
  have hge := wh_ge E.1
  obtain ⟨-, hq, d1, -⟩ := dv
  unfold P_X12_freeCells
  refine ⟨fun k s x => k = (w * h - x).toNat ∧ 0 ≤ x ∧ x ≤ w * h ∧ s = sumL (cellsL x) (fun c => iB (st c ≤ 1 ∧ ¬ Bd w h sh st Ch c)), ⟨_, rfl, by omega, by omega, rfl⟩, ?_⟩
  rintro k s x rs rx ⟨rfl, b1, b2, b3⟩
  refine ⟨fun z => ?_, fun z => ?_⟩
  · have e : x = w * h := by omega
    subst e
    rw [b3, ← Fr_len]
    exact hp
  · have hx : 0 ≤ x ∧ x < w * h := ⟨b1, by omega⟩
    have sb := cellsB (n := w * h) (x := x) (f := fun c => iB (st c ≤ 1 ∧ ¬ Bd w h sh st Ch c)) ⟨b1, b2⟩ hle (fun c _ _ => iB_b _)
    have fin : ∀ v : Int, v = iB (st x ≤ 1 ∧ ¬ Bd w h sh st Ch x) → (inR (s + v) ∧ ∀ s2 : Int, s2 = s + v → (inR (x + 1) ∧ ∀ x2 : Int, x2 = x + 1 → ∃ m : Nat, m < (w * h - x).toNat ∧ (m = (w * h - x2).toNat ∧ 0 ≤ x2 ∧ x2 ≤ w * h ∧ s2 = sumL (cellsL x2) (fun c => iB (st c ≤ 1 ∧ ¬ Bd w h sh st Ch c))))) := by
      intro v ev
      have vb := iB_b (st x ≤ 1 ∧ ¬ Bd w h sh st Ch x)
      refine ⟨by omega, fun s2 es2 => nx (by omega) ⟨_, ?_, rfl, by omega, by omega, ?_⟩⟩
      · omega
      · rw [cells_succ b1, sumL_snoc, es2, b3, ev]
    refine s_unkM E hx (fun u hu iu _ => exJi (exJ0 ⟨fun z1 _ => fin 0 (iB_f (fun y => by have := iu.mpr y.1; omega)).symm, fun z1 => ⟨by omega, fun v ev rv => ⟨fun z2 _ => fin 0 (iB_f (fun y => ?_)).symm, fun z2 _ => fin 1 (iB_t ⟨iu.mp (by omega), fun y => ?_⟩).symm⟩⟩⟩))
    · have := (d1 x hx.1 hx.2).2 y.2
      omega
    · have := (d1 x hx.1 hx.2).1 y
      omega
/-- parts below x, but for one -/
def RLb (n x but : Int) (po : Int → Int) : List (List Int) := ((List.range x.toNat).filter (fun i : Nat => decide (¬ (i : Int) = but))).map (fun i : Nat => Lp n po (i : Int))
theorem RLb_succ {n x but : Int} {po : Int → Int} (hx : 0 ≤ x) : RLb n (x + 1) but po = if x = but then RLb n x but po else RLb n x but po ++ [Lp n po x] := by
  unfold RLb
  rw [show (x + 1).toNat = x.toNat + 1 by omega, List.range_succ, List.filter_append, List.map_append]
  have ex : ((x.toNat : Nat) : Int) = x := by omega
  by_cases k : x = but
  · rw [if_pos k]
    rw [List.filter_cons, if_neg (by rw [decide_eq_true_eq, ex]; exact fun q => q k)]
    simp
  · rw [if_neg k]
    rw [List.filter_cons, if_pos (by rw [decide_eq_true_eq, ex]; exact k)]
    simp [ex]
theorem mS_rng {w h sh m : Int} {st R : Int → Int} {Ch : Int → Prop} {L : List Int} (q : mS w h sh st R Ch L m) : 0 ≤ m ∧ m ≤ L.length := by
  obtain ⟨t, bt, -, e⟩ := q
  have := sum_le_len (l := L) (t := t) (fun c => (bt c).1)
  omega
theorem RS_rng {w h sh : Int} {st R : Int → Int} {Ch : Int → Prop} : ∀ {ls : List (List Int)} {k : Int}, RS w h sh st R Ch ls k → 0 ≤ k ∧ k ≤ ls.flatten.length := by
  intro ls
  induction ls with
  | nil =>
    intro k q
    have : k = 0 := q
    simp [this]
  | cons L ls ih =>
    rintro k ⟨m, j, h1, h2, e⟩
    have := mS_rng h1
    have := ih h2
    rw [List.flatten_cons, List.length_append]
    omega
def Rch (w h sh : Int) (st R : Int → Int) (Ch : Int → Prop) (ls : List (List Int)) (rc : Int → Int) : Prop := ∀ k, 0 ≤ k → k < 145 → (rc k = 0 ∨ rc k = 1) ∧ (rc k = 1 ↔ RS w h sh st R Ch ls k)
theorem s_findReachM {w h sh fits q but : Int} {st R po pl sz ways wth rc0 mo0 : Int → Int} {Ch : Int → Prop} {post : (Int → Int) → (Int → Int) → Prop} (cm : CM w h sh st R Ch fits q po pl sz ways wth) (hf : fits = 1)
    (hp : ∀ rc mo : Int → Int, Rch w h sh st R Ch (RLb (w * h) q but po) rc → post rc mo) : P_X12_findReach post q sz ways rc0 mo0 but := by
  obtain ⟨dv, cp⟩ := cm
  have hq := dv.2.1
  unfold P_X12_findReach
  refine ⟨fun k x rc => k = (145 - x).toNat ∧ 0 ≤ x ∧ x ≤ 145 ∧ ∀ k, 0 ≤ k → k < x → (rc k = 0 ∨ rc k = 1) ∧ (rc k = 1 ↔ k = 0), ⟨_, rfl, by omega, by omega, fun k _ _ => by omega⟩, ?_⟩
  rintro k x rc rx ⟨rfl, b1, b2, b3⟩
  refine ⟨fun z => ?_, fun z => exJi ⟨fun z1 _ => ⟨by omega, Or.inl rfl, fun rc' er => nx (by omega) ⟨_, ?_, rfl, by omega, by omega, fun k k0 k1 => ?_⟩⟩, fun z1 _ => ⟨by omega, Or.inr rfl, fun rc' er => nx (by omega) ⟨_, ?_, rfl, by omega, by omega, fun k k0 k1 => ?_⟩⟩⟩⟩
  rotate_left
  · omega
  · rw [er]
    by_cases e : k = x
    · rw [e, upZ_s]; omega
    · rw [upZ_n _ _ e]; exact b3 k k0 (by omega)
  · omega
  · rw [er]
    by_cases e : k = x
    · rw [e, upZ_s]; omega
    · rw [upZ_n _ _ e]; exact b3 k k0 (by omega)
  have r0 : Rch w h sh st R Ch (RLb (w * h) 0 but po) rc := fun k k0 k1 => b3 k k0 (by omega)
  clear b3
  refine ⟨fun k p rc mo => k = (q - p).toNat ∧ 0 ≤ p ∧ p ≤ q ∧ Rch w h sh st R Ch (RLb (w * h) p but po) rc, ⟨_, rfl, by omega, by omega, r0⟩, ?_⟩
  rintro k p rc mo rp ⟨rfl, c1, c2, c3⟩
  refine ⟨fun z1 => ?_, fun z1 => ?_⟩
  · have e : p = q := by omega
    subst e
    exact hp _ _ c3
  have hpq : 0 ≤ p ∧ p < q := ⟨c1, by omega⟩
  have px := dv.pl hf hpq
  have cpp := cp hf p c1 hpq.2
  refine ⟨fun k x mo => k = (145 - x).toNat ∧ 0 ≤ x ∧ x ≤ 145 ∧ ∀ k, 0 ≤ k → k < x → mo k = 0, ⟨_, rfl, by omega, by omega, fun k _ _ => by omega⟩, ?_⟩
  rintro k x1 mo1 rx1 ⟨rfl, e1, e2, e3⟩
  refine ⟨fun z2 => ?_, fun z2 => ⟨by omega, fun mo' em => nx (by omega) ⟨_, ?_, rfl, by omega, by omega, fun k k0 k1 => ?_⟩⟩⟩
  rotate_left
  · omega
  · rw [em]
    by_cases e : k = x1
    · rw [e, upZ_s]
    · rw [upZ_n _ _ e]; exact e3 k k0 (by omega)
  have m0 : ∀ k, 0 ≤ k → k < 145 → mo1 k = 0 := fun k k0 k1 => e3 k k0 (by omega)
  clear e3
  -- the sums with one part more
  have wp : ∀ m, 0 ≤ m → m ≤ 16 → (¬ ways (17 * p + m) ≤ 0 ↔ mS w h sh st R Ch (Lp (w * h) po p) m) := by
    intro m m0 m1
    rw [← Tw_pos, (cpp m m0 m1).1]
    omega
  refine ⟨fun k x mo => k = (145 - x).toNat ∧ 0 ≤ x ∧ x ≤ 145 ∧ (p = but → x = 0) ∧ ∀ k, 0 ≤ k → k < 145 → (mo k = 0 ∨ mo k = 1) ∧ (mo k = 1 ↔ ∃ i m, 0 ≤ i ∧ i < x ∧ 0 ≤ m ∧ m ≤ sz p ∧ k = i + m ∧ rc i = 1 ∧ mS w h sh st R Ch (Lp (w * h) po p) m), ⟨_, rfl, by omega, by omega, fun _ => rfl, fun k k0 k1 => ⟨Or.inl (m0 k k0 k1), ⟨fun y => by rw [m0 k k0 k1] at y; omega, fun ⟨i, m, y⟩ => by omega⟩⟩⟩, ?_⟩
  rintro k x2 mo2 rx2 ⟨rfl, f1, f2, f3, f4⟩
  -- and then they are taken over
  have fin : (¬ p = but → x2 = 145) → ∃ Inv_36 : Nat → (Int) → (Int → Int) → Prop, (∃ n_37 : Nat, Inv_36 n_37 0 rc) ∧ ∀ (n_38 : Nat) (x3_41 : Int) (M_reach_42 : Int → Int), inR x3_41 → Inv_36 n_38 x3_41 M_reach_42 → (∃ J_43 : Prop, ((145 ≤ x3_41 → (J_43)) ∧ (¬ 145 ≤ x3_41 → ((p = but → (J_43)) ∧ (¬ p = but → ((0 ≤ x3_41 ∧ x3_41 < 145) ∧ (∀ v_51 : Int, v_51 = mo2 x3_41 → (v_51 = 0 ∨ v_51 = 1) → ((0 ≤ x3_41 ∧ x3_41 < 145) ∧ (∀ M_reach_53 : Int → Int, M_reach_53 = upZ M_reach_42 x3_41 v_51 → (inR (x3_41 + 1) ∧ (∀ x3_55 : Int, x3_55 = (x3_41 + 1) → (∃ n_56 : Nat, n_56 < n_38 ∧ Inv_36 n_56 x3_55 M_reach_53))))))))))) ∧ (J_43 → (inR (p + 1) ∧ (∀ x2_46 : Int, x2_46 = (p + 1) → (∃ n_47 : Nat, n_47 < (q - p).toNat ∧ (n_47 = (q - x2_46).toNat ∧ 0 ≤ x2_46 ∧ x2_46 ≤ q ∧ Rch w h sh st R Ch (RLb (w * h) x2_46 but po) M_reach_42)))))) := by
    intro hx2
    refine ⟨fun k y rc2 => k = (145 - y).toNat ∧ 0 ≤ y ∧ y ≤ 145 ∧ (p = but → y = 0) ∧ ∀ k, 0 ≤ k → k < 145 → rc2 k = if k < y then mo2 k else rc k, ⟨_, rfl, by omega, by omega, fun _ => rfl, fun k k0 k1 => by rw [if_neg (by omega)]⟩, ?_⟩
    rintro k y rc2 ry ⟨rfl, g1, g2, g3, g4⟩
    have don : (¬ p = but → y = 145) → (inR (p + 1) ∧ (∀ x2_46 : Int, x2_46 = (p + 1) → (∃ n_47 : Nat, n_47 < (q - p).toNat ∧ (n_47 = (q - x2_46).toNat ∧ 0 ≤ x2_46 ∧ x2_46 ≤ q ∧ Rch w h sh st R Ch (RLb (w * h) x2_46 but po) rc2)))) := by
      intro hy
      refine nx (by omega) ⟨_, ?_, rfl, by omega, by omega, fun k k0 k1 => ?_⟩
      · omega
      · rw [RLb_succ c1, g4 k k0 k1]
        by_cases e : p = but
        · rw [if_pos e, if_neg (by have := g3 e; omega)]
          exact c3 k k0 k1
        · rw [if_neg e, if_pos (by have := hy e; omega)]
          refine ⟨(f4 k k0 k1).1, ?_⟩
          rw [(f4 k k0 k1).2, RS.snoc]
          constructor
          · rintro ⟨i, m, y1, y2, y3, y4, y5, y6, y7⟩
            exact ⟨i, m, (c3 i y1 (by omega)).2.1 y6, y7, y5⟩
          · rintro ⟨i, m, y1, y2, y3⟩
            have r1 := RS_rng y1
            have r2 := mS_rng y2
            have := px.2.1
            have hx := hx2 e
            exact ⟨i, m, r1.1, by omega, r2.1, by omega, y3, (c3 i r1.1 (by omega)).2.2 y1, y2⟩
    refine ⟨_, ⟨fun z3 => ?_, fun z3 => ⟨fun z4 => ?_, fun z4 => ⟨by omega, fun v ev hv => ⟨by omega, fun rc3 er3 => nx (by omega) ⟨_, ?_, rfl, by omega, by omega, fun z5 => absurd z5 z4, fun k k0 k1 => ?_⟩⟩⟩⟩⟩, fun jj => jj⟩
    · exact don (fun _ => by omega)
    · exact don (fun z5 => absurd z4 z5)
    · omega
    · rw [er3]
      by_cases e : k = y
      · rw [e, upZ_s, if_pos (by omega), ev]
      · rw [upZ_n _ _ e, g4 k k0 k1]
        by_cases e2 : k < y
        · rw [if_pos e2, if_pos (by omega)]
        · rw [if_neg e2, if_neg (by omega)]
  refine ⟨_, ⟨fun z3 => ?_, fun z3 => ⟨fun z4 => ?_, fun z4 => ?_⟩⟩, fun jj => jj⟩
  · exact fin (fun _ => by omega)
  · exact fin (fun z5 => absurd z4 z5)
  · refine ⟨fun k m mo => k = (17 - m).toNat ∧ 0 ≤ m ∧ m ≤ sz p + 1 ∧ ∀ k, 0 ≤ k → k < 145 → (mo k = 0 ∨ mo k = 1) ∧ (mo k = 1 ↔ (∃ i m, 0 ≤ i ∧ i < x2 ∧ 0 ≤ m ∧ m ≤ sz p ∧ k = i + m ∧ rc i = 1 ∧ mS w h sh st R Ch (Lp (w * h) po p) m) ∨ (∃ m', 0 ≤ m' ∧ m' < m ∧ k = x2 + m' ∧ rc x2 = 1 ∧ mS w h sh st R Ch (Lp (w * h) po p) m')), ⟨_, rfl, by omega, by omega, fun k k0 k1 => ⟨(f4 k k0 k1).1, by rw [(f4 k k0 k1).2]; exact ⟨fun y => Or.inl y, fun y => by rcases y with y | ⟨m', y⟩; exact y; omega⟩⟩⟩, ?_⟩
    rintro k m mo3 rm ⟨rfl, g1, g2, g3⟩
    have szp := px.2.2
    have out : (sz p < m ∨ 145 ≤ x2 + m) → (inR (x2 + 1) ∧ (∀ x3_71 : Int, x3_71 = (x2 + 1) → (∃ n_72 : Nat, n_72 < (145 - x2).toNat ∧ (n_72 = (145 - x3_71).toNat ∧ 0 ≤ x3_71 ∧ x3_71 ≤ 145 ∧ (p = but → x3_71 = 0) ∧ ∀ k, 0 ≤ k → k < 145 → (mo3 k = 0 ∨ mo3 k = 1) ∧ (mo3 k = 1 ↔ ∃ i m, 0 ≤ i ∧ i < x3_71 ∧ 0 ≤ m ∧ m ≤ sz p ∧ k = i + m ∧ rc i = 1 ∧ mS w h sh st R Ch (Lp (w * h) po p) m))))) := by
      intro hm
      refine nx (by omega) ⟨_, ?_, rfl, by omega, by omega, fun z5 => absurd z5 z4, fun k k0 k1 => ⟨(g3 k k0 k1).1, ?_⟩⟩
      · omega
      · rw [(g3 k k0 k1).2]
        constructor
        · rintro (⟨i, m', y1, y2, y3⟩ | ⟨m', y1, y2, y3, y4⟩)
          · exact ⟨i, m', y1, by omega, y3⟩
          · exact ⟨x2, m', f1, by omega, y1, by omega, y3, y4⟩
        · rintro ⟨i, m', y1, y2, y3, y4, y5, y6, y7⟩
          by_cases e : i = x2
          · subst e
            exact Or.inr ⟨m', y3, by omega, y5, y6, y7⟩
          · exact Or.inl ⟨i, m', y1, by omega, y3, y4, y5, y6, y7⟩
    refine ⟨by omega, fun v ev rv => exJ0 ⟨fun z5 => out (Or.inl (by omega)), fun z5 => ⟨by omega, fun z6 => out (Or.inr z6), fun z6 => ⟨by omega, fun v1 e1' h1 => ?_⟩⟩⟩⟩
    have go : ∀ zz : Int, (zz = 0 ∨ zz = 1) → (zz = 1 ↔ v1 = 1 ∨ (rc x2 = 1 ∧ mS w h sh st R Ch (Lp (w * h) po p) m)) → ((0 ≤ (x2 + m) ∧ (x2 + m) < 145) ∧ ((zz = 0 ∨ zz = 1) ∧ (∀ M_more_83 : Int → Int, M_more_83 = upZ mo3 (x2 + m) zz → (inR (m + 1) ∧ (∀ x4_85 : Int, x4_85 = (m + 1) → (∃ n_86 : Nat, n_86 < (17 - m).toNat ∧ (n_86 = (17 - x4_85).toNat ∧ 0 ≤ x4_85 ∧ x4_85 ≤ sz p + 1 ∧ ∀ k, 0 ≤ k → k < 145 → (M_more_83 k = 0 ∨ M_more_83 k = 1) ∧ (M_more_83 k = 1 ↔ (∃ i m, 0 ≤ i ∧ i < x2 ∧ 0 ≤ m ∧ m ≤ sz p ∧ k = i + m ∧ rc i = 1 ∧ mS w h sh st R Ch (Lp (w * h) po p) m) ∨ (∃ m', 0 ≤ m' ∧ m' < x4_85 ∧ k = x2 + m' ∧ rc x2 = 1 ∧ mS w h sh st R Ch (Lp (w * h) po p) m'))))))))) := by
      intro zz h01 hz
      refine ⟨by omega, h01, fun mo4 em4 => nx (by omega) ⟨_, ?_, rfl, by omega, by omega, fun k k0 k1 => ?_⟩⟩
      · omega
      · rw [em4]
        by_cases e : k = x2 + m
        · subst e
          rw [upZ_s]
          refine ⟨h01, ?_⟩
          rw [hz, e1', (g3 _ k0 k1).2]
          constructor
          · rintro ((y | ⟨m', y1, y2, y3⟩) | ⟨y1, y2⟩)
            · exact Or.inl y
            · exact Or.inr ⟨m', y1, by omega, y3⟩
            · exact Or.inr ⟨m, g1, by omega, rfl, y1, y2⟩
          · rintro (y | ⟨m', y1, y2, y3, y4, y5⟩)
            · exact Or.inl (Or.inl y)
            · have : m' = m := by omega
              subst this
              exact Or.inr ⟨y4, y5⟩
        · rw [upZ_n _ _ e]
          refine ⟨(g3 k k0 k1).1, ?_⟩
          rw [(g3 k k0 k1).2]
          constructor
          · rintro (y | ⟨m', y1, y2, y3⟩)
            · exact Or.inl y
            · exact Or.inr ⟨m', y1, by omega, y3⟩
          · rintro (y | ⟨m', y1, y2, y3⟩)
            · exact Or.inl y
            · exact Or.inr ⟨m', y1, by omega, y3⟩
    have c3x := c3 x2 f1 (by omega)
    have wpm := wp m g1 (by omega)
    refine exJi (exJ0 ⟨fun z7 _ => go 1 (Or.inr rfl) ⟨fun _ => Or.inl (by omega), fun _ => rfl⟩, fun z7 => ⟨by omega, fun v2 e2' h2 => exJ0 ⟨fun z8 _ => go 0 (Or.inl rfl) ⟨fun y => by omega, fun y => by omega⟩, fun z8 => ⟨by omega, fun v3 e3' r3 => ⟨fun z9 _ => go 0 (Or.inl rfl) ⟨fun y => by omega, fun y => ?_⟩, fun z9 _ => go 1 (Or.inr rfl) ⟨fun _ => Or.inr ⟨by omega, wpm.1 (by omega)⟩, fun _ => rfl⟩⟩⟩⟩⟩⟩)
    · rcases y with y | y
      · omega
      · exact absurd (wpm.2 y.2) (by omega)
