/-! the reference: all that follows -/
def Fit (w h sh : Int) (st : Int → Int) (Ch : Int → Prop) : Prop := ∀ c, Bd w h sh st Ch c → sumL (cellsL (w * h)) (fun e => iB (Bd w h sh st Ch e ∧ Cn w h sh st Ch c e)) ≤ 16
theorem DV.fit {w h sh fits q : Int} {st po pl sz : Int → Int} {Ch : Int → Prop} (dv : DV w h sh st Ch fits q po pl sz) : fits = 1 ↔ Fit w h sh st Ch := by
  obtain ⟨-, hq, d1, d2, d3, d4, d5⟩ := dv
  have key : ∀ c, Bd w h sh st Ch c → sz (po c) = sumL (cellsL (w * h)) (fun e => iB (Bd w h sh st Ch e ∧ Cn w h sh st Ch c e)) := by
    intro c hc
    have hp := (d1 c hc.1.1 hc.1.2).1 hc
    rw [(d4 _ hp.1 hp.2).1]
    refine sumL_congr (fun e me => ?_)
    have he := mem_cells.1 me
    by_cases k : Bd w h sh st Ch e
    · by_cases k2 : po e = po c
      · rw [show iK (po c) (po e) = 1 from if_pos k2, iB_t ⟨k, (d2 c e hc k).1 k2.symm⟩]
      · rw [show iK (po c) (po e) = 0 from if_neg k2, iB_f (fun y => k2 ((d2 c e hc k).2 y.2).symm)]
    · have := (d1 e he.1 he.2).2 k
      rw [show iK (po c) (po e) = 0 from if_neg (by omega), iB_f (fun y => k y.1)]
  rw [d5]
  constructor
  · intro y c hc
    have hp := (d1 c hc.1.1 hc.1.2).1 hc
    rw [← key c hc]
    exact y _ hp.1 hp.2
  · intro y p p0 p1
    obtain ⟨c, hc, ec⟩ := (d4 p p0 p1).2
    rw [← ec, key c hc]
    exact y c hc
def AllCh (w h sh : Int) (st : Int → Int) (n : Int) : Prop := (0 ≤ n ∧ n < w * h) ∧ st n = 2 ∧ ∃ d ∈ NB w h sh n, st d ≤ 1
theorem AllCh.ok {w h sh : Int} {st : Int → Int} : ChOk w h sh st (AllCh w h sh st) := fun _ hn => hn
theorem unk_pos {w h sh c : Int} {st : Int → Int} : ¬ sumL (NB w h sh c) (fun d => iU (st d)) ≤ 0 ↔ ∃ d ∈ NB w h sh c, st d ≤ 1 := by
  have nn : ∀ x ∈ NB w h sh c, 0 ≤ iU (st x) := fun x _ => by
    by_cases k : st x ≤ 1
    · rw [show iU (st x) = 1 from if_pos k]; decide
    · rw [show iU (st x) = 0 from if_neg k]; decide
  have := sumL_pos nn
  constructor
  · intro y
    apply Classical.byContradiction
    intro z
    have : sumL (NB w h sh c) (fun d => iU (st d)) = 0 := by
      rw [sumL_congr (g := fun _ => 0) (fun d m => if_neg (fun k => z ⟨d, m, k⟩)), sumL_const (k := 0) (fun _ _ => rfl)]
      omega
    omega
  · rintro ⟨d, m, k⟩ y
    have := sumL_zero nn (by omega) d m
    rw [show iU (st d) = 1 from if_pos k] at this
    exact absurd this (by decide)
theorem s_useAllM {w h sh : Int} {near degree mine M mined number st us0 : Int → Int} {post : (Int → Int) → Prop} (E : ME w h sh near degree mine M mined number st)
    (hp : ∀ us : Int → Int, UsOk w h sh st us (AllCh w h sh st) → (∀ n, 0 ≤ n → n < w * h → (us n = 1 ↔ AllCh w h sh st n)) → post us) : P_X12_useAll post (w * h) near degree M us0 := by
  have hle := wh_le E.1
  have hge := wh_ge E.1
  unfold P_X12_useAll
  refine ⟨fun k x us => k = (w * h - x).toNat ∧ 0 ≤ x ∧ x ≤ w * h ∧ ∀ n, 0 ≤ n → n < x → (us n = 0 ∨ us n = 1) ∧ (us n = 1 ↔ AllCh w h sh st n), ⟨_, rfl, by omega, by omega, fun n _ _ => by omega⟩, ?_⟩
  rintro k x us rx ⟨rfl, b1, b2, b3⟩
  refine ⟨fun z => ?_, fun z => ?_⟩
  · refine hp us (fun n n0 n1 => ?_) (fun n n0 n1 => (b3 n n0 (by omega)).2)
    obtain ⟨c1, c2⟩ := b3 n n0 (by omega)
    exact ⟨c1, fun y => (c2.1 y).2.1, ⟨fun y => ⟨c2.2 y, y.2.2⟩, fun y => c2.1 y.1⟩⟩
  · have hx : 0 ≤ x ∧ x < w * h := ⟨b1, by omega⟩
    have fin : ∀ v : Int, (v = 0 ∨ v = 1) → (v = 1 ↔ AllCh w h sh st x) → ((0 ≤ x ∧ x < 144) ∧ ((v = 0 ∨ v = 1) ∧ (∀ M_used_17 : Int → Int, M_used_17 = upZ us x v → (inR (x + 1) ∧ (∀ x1_19 : Int, x1_19 = (x + 1) → (∃ n_20 : Nat, n_20 < (w * h - x).toNat ∧ (n_20 = (w * h - x1_19).toNat ∧ 0 ≤ x1_19 ∧ x1_19 ≤ w * h ∧ ∀ n, 0 ≤ n → n < x1_19 → (M_used_17 n = 0 ∨ M_used_17 n = 1) ∧ (M_used_17 n = 1 ↔ AllCh w h sh st n)))))))) := by
      intro v h1 h2
      refine ⟨by omega, h1, fun us' eu => nx (by omega) ⟨_, ?_, rfl, by omega, by omega, fun n n0 n1 => ?_⟩⟩
      · omega
      · rw [eu]
        by_cases e : n = x
        · subst e
          rw [upZ_s]
          exact ⟨h1, h2⟩
        · rw [upZ_n _ _ e]
          exact b3 n n0 (by omega)
    have sx := E.2.2.2.2.2.1 x hx.1 hx.2
    refine ⟨by omega, fun v ev rv => exJi (exJ0 ⟨fun z1 _ => fin 0 (Or.inl rfl) ⟨fun y => by omega, fun y => ?_⟩, fun z1 => s_unknownsM E hx (fun _ => ⟨fun z2 _ => fin 0 (Or.inl rfl) ⟨fun y => by omega, fun y => absurd z2 (unk_pos.2 y.2.2)⟩, fun z2 _ => fin 1 (Or.inr rfl) ⟨fun _ => ⟨hx, ?_, unk_pos.1 z2⟩, fun _ => rfl⟩⟩)⟩)⟩
    · have := y.2.1
      rw [this] at sx
      have e1 : tr 2 = 1 := by decide
      omega
    · have e1 : tr (st x) = 1 := by omega
      have := tr_tr (st x)
      rw [e1] at this
      exact this.symm
theorem s_isPossibleM {w h sh fits q c b all : Int} {near degree mine M mined number st po pl sz ways wth rc0 mo0 : Int → Int} {Ch : Int → Prop} {post : Int → (Int → Int) → (Int → Int) → Prop} (E : ME w h sh near degree mine M mined number st) (cok : ChOk w h sh st Ch)
    (cm : CM w h sh st (fun n => sumL (NB w h sh n) (fun d => iU (st d) * mined d)) Ch fits q po pl sz ways wth) (hf : fits = 1) (hc : 0 ≤ c ∧ c < w * h) (hu : st c ≤ 1) (hb : b = 0 ∨ b = 1)
    (hp : ∀ (v : Int) (rc mo : Int → Int), (v = 0 ∨ v = 1) → (v = 1 ↔ Pos w h sh st (fun n => sumL (NB w h sh n) (fun d => iU (st d) * mined d)) Ch (MLf (w * h) mine M) all c b) → post v rc mo) : P_X12_isPossible post (w * h) q mine M po pl sz ways wth rc0 mo0 c b all := by
  have hle := wh_le E.1
  unfold P_X12_isPossible
  refine ⟨fun rc mo => ¬ all = 0 → Rch w h sh st (fun n => sumL (NB w h sh n) (fun d => iU (st d) * mined d)) Ch (RLb (w * h) q (po c) po) rc, ⟨fun z y => absurd z y, fun z => ⟨by omega, fun v ev rv => ?_⟩⟩, fun rc mo hr => ?_⟩
  · subst ev
    exact s_findReachM cm hf (fun rc mo hr _ => hr)
  · exact s_hasWayM E cok cm hf hc hu hb hr (fun v h1 h2 _ => hp v rc mo h1 h2)
theorem s_findByAllM {w h sh q0 N0 : Int} {near degree mine M mined number st sf mf us0 po0 pl0 sz0 ways0 wth0 ms0 rs0 bt rc0 mo0 : Int → Int} {post : (Int) → (Int) → (Int → Int) → (Int → Int) → (Int → Int) → (Int → Int) → (Int → Int) → (Int → Int) → (Int → Int) → (Int → Int) → (Int → Int) → (Int → Int) → (Int → Int) → (Int → Int) → Prop} (E : ME w h sh near degree mine M mined number st) (bt_ok : BT bt) (h01 : ∀ c, 0 ≤ c → c < w * h → (sf c = 0 ∨ sf c = 1) ∧ (mf c = 0 ∨ mf c = 1))
    (hp : ∀ (q N : Int) (sf' mf' us po pl sz ways wth ms rs rc mo : Int → Int), (¬ Fit w h sh st (AllCh w h sh st) → sf' = sf ∧ mf' = mf) → (Fit w h sh st (AllCh w h sh st) → ∀ c, 0 ≤ c → c < w * h → ((sf' c = 0 ∨ sf' c = 1) ∧ (mf' c = 0 ∨ mf' c = 1)) ∧ (st c ≤ 1 → (sf' c = 1 ↔ sf c = 1 ∨ ¬ Pos w h sh st (fun n => sumL (NB w h sh n) (fun d => iU (st d) * mined d)) (AllCh w h sh st) (MLf (w * h) mine M) 1 c 1) ∧ (mf' c = 1 ↔ mf c = 1 ∨ ¬ Pos w h sh st (fun n => sumL (NB w h sh n) (fun d => iU (st d) * mined d)) (AllCh w h sh st) (MLf (w * h) mine M) 1 c 0)) ∧ (¬ st c ≤ 1 → sf' c = sf c ∧ mf' c = mf c)) → post q N sf' mf' us po pl sz ways wth ms rs rc mo) :
    P_X12_findByAll post (w * h) q0 N0 near degree mine M sf mf us0 po0 pl0 sz0 ways0 wth0 ms0 rs0 bt rc0 mo0 := by
  have hle := wh_le E.1
  have hge := wh_ge E.1
  unfold P_X12_findByAll
  refine s_useAllM E (fun us uk _ => s_countPartsM E uk AllCh.ok bt_ok (fun fits q N po pl sz ways wth ms rs cm hf => ⟨fun z => ?_, fun z => ?_⟩))
  rotate_left
  · have nf : ¬ Fit w h sh st (AllCh w h sh st) := fun y => by have := cm.1.fit.2 y; omega
    exact hp _ _ _ _ _ _ _ _ _ _ _ _ _ _ (fun _ => ⟨rfl, rfl⟩) (fun y => absurd y nf)
  have f1 : fits = 1 := by omega
  have ft := cm.1.fit.1 f1
  have dv := cm.1
  have hq := dv.2.1
  have por : ∀ c, 0 ≤ c → c < w * h → -1 ≤ po c ∧ po c < q := by
    intro c c0 c1
    by_cases k : Bd w h sh st (AllCh w h sh st) c
    · have := (dv.2.2.1 c c0 c1).1 k
      omega
    · have := (dv.2.2.1 c c0 c1).2 k
      omega
  refine ⟨fun k p sf' mf' rc mo => k = (q - p).toNat ∧ -1 ≤ p ∧ p ≤ q ∧ ∀ c, 0 ≤ c → c < w * h → ((sf' c = 0 ∨ sf' c = 1) ∧ (mf' c = 0 ∨ mf' c = 1)) ∧ (st c ≤ 1 → po c < p → (sf' c = 1 ↔ sf c = 1 ∨ ¬ Pos w h sh st (fun n => sumL (NB w h sh n) (fun d => iU (st d) * mined d)) (AllCh w h sh st) (MLf (w * h) mine M) 1 c 1) ∧ (mf' c = 1 ↔ mf c = 1 ∨ ¬ Pos w h sh st (fun n => sumL (NB w h sh n) (fun d => iU (st d) * mined d)) (AllCh w h sh st) (MLf (w * h) mine M) 1 c 0)) ∧ (¬ (st c ≤ 1 ∧ po c < p) → sf' c = sf c ∧ mf' c = mf c), ⟨_, rfl, by omega, by omega, fun c c0 c1 => ⟨h01 c c0 c1, fun _ y => by have := por c c0 c1; omega, fun _ => ⟨rfl, rfl⟩⟩⟩, ?_⟩
  rintro k p sf1 mf1 rc1 mo1 rp ⟨rfl, b1, b2, b3⟩
  refine ⟨fun z1 => hp _ _ _ _ _ _ _ _ _ _ _ _ _ _ (fun y => absurd ft y) (fun _ c c0 c1 => ?_), fun z1 => ?_⟩
  · obtain ⟨c3, c4, c5⟩ := b3 c c0 c1
    have := por c c0 c1
    exact ⟨c3, fun y => c4 y (by omega), fun y => c5 (fun k => y k.1)⟩
  refine s_findReachM cm f1 (fun rc mo hr => ?_)
  refine ⟨fun k x sf' mf' => k = (w * h - x).toNat ∧ 0 ≤ x ∧ x ≤ w * h ∧ ∀ c, 0 ≤ c → c < w * h → ((sf' c = 0 ∨ sf' c = 1) ∧ (mf' c = 0 ∨ mf' c = 1)) ∧ (st c ≤ 1 → (po c < p ∨ (po c = p ∧ c < x)) → (sf' c = 1 ↔ sf c = 1 ∨ ¬ Pos w h sh st (fun n => sumL (NB w h sh n) (fun d => iU (st d) * mined d)) (AllCh w h sh st) (MLf (w * h) mine M) 1 c 1) ∧ (mf' c = 1 ↔ mf c = 1 ∨ ¬ Pos w h sh st (fun n => sumL (NB w h sh n) (fun d => iU (st d) * mined d)) (AllCh w h sh st) (MLf (w * h) mine M) 1 c 0)) ∧ (¬ (st c ≤ 1 ∧ (po c < p ∨ (po c = p ∧ c < x))) → sf' c = sf c ∧ mf' c = mf c), ⟨_, rfl, by omega, by omega, fun c c0 c1 => ⟨(b3 c c0 c1).1, fun y1 y2 => (b3 c c0 c1).2.1 y1 (by omega), fun y => (b3 c c0 c1).2.2 (fun k => y ⟨k.1, Or.inl k.2⟩)⟩⟩, ?_⟩
  rintro k x sf2 mf2 rx ⟨rfl, c1, c2, c3⟩
  refine ⟨fun z2 => nx (by omega) ⟨_, ?_, rfl, by omega, by omega, fun c d0 d1 => ?_⟩, fun z2 => ?_⟩
  · omega
  · obtain ⟨c4, c5, c6⟩ := c3 c d0 d1
    exact ⟨c4, fun y1 y2 => c5 y1 (by omega), fun y => c6 (fun k => y ⟨k.1, by omega⟩)⟩
  · have hx : 0 ≤ x ∧ x < w * h := ⟨c1, by omega⟩
    have skip : ¬ (st x ≤ 1 ∧ po x = p) → (inR (x + 1) ∧ (∀ x2_46 : Int, x2_46 = (x + 1) → (∃ n_47 : Nat, n_47 < (w * h - x).toNat ∧ (n_47 = (w * h - x2_46).toNat ∧ 0 ≤ x2_46 ∧ x2_46 ≤ w * h ∧ ∀ c, 0 ≤ c → c < w * h → ((sf2 c = 0 ∨ sf2 c = 1) ∧ (mf2 c = 0 ∨ mf2 c = 1)) ∧ (st c ≤ 1 → (po c < p ∨ (po c = p ∧ c < x2_46)) → (sf2 c = 1 ↔ sf c = 1 ∨ ¬ Pos w h sh st (fun n => sumL (NB w h sh n) (fun d => iU (st d) * mined d)) (AllCh w h sh st) (MLf (w * h) mine M) 1 c 1) ∧ (mf2 c = 1 ↔ mf c = 1 ∨ ¬ Pos w h sh st (fun n => sumL (NB w h sh n) (fun d => iU (st d) * mined d)) (AllCh w h sh st) (MLf (w * h) mine M) 1 c 0)) ∧ (¬ (st c ≤ 1 ∧ (po c < p ∨ (po c = p ∧ c < x2_46))) → sf2 c = sf c ∧ mf2 c = mf c))))) := by
      intro ns
      refine nx (by omega) ⟨_, ?_, rfl, by omega, by omega, fun c d0 d1 => ?_⟩
      · omega
      · obtain ⟨c4, c5, c6⟩ := c3 c d0 d1
        refine ⟨c4, fun y1 y2 => c5 y1 ?_, fun y => c6 (fun k => y ⟨k.1, by omega⟩)⟩
        by_cases e : c = x
        · subst e
          have : ¬ po c = p := fun k => ns ⟨y1, k⟩
          omega
        · omega
    refine s_unkM E hx (fun u hu iu _ => ⟨_, ⟨fun z3 => skip (fun y => by have := iu.2 y.1; omega), fun z3 => ⟨by omega, fun v ev rv => ⟨fun z4 => skip (fun y => by omega), fun z4 => ?_⟩⟩⟩, fun _ _ jj => jj⟩)
    have ux := iu.1 (by omega)
    have hr' : ¬ (1 : Int) = 0 → Rch w h sh st (fun n => sumL (NB w h sh n) (fun d => iU (st d) * mined d)) (AllCh w h sh st) (RLb (w * h) q (po x) po) rc := by
      intro _
      rw [← ev, z4]
      exact hr
    have old := (c3 x hx.1 hx.2)
    have old2 := old.2.2 (by omega)
    have bdP := fun b => Pos w h sh st (fun n => sumL (NB w h sh n) (fun d => iU (st d) * mined d)) (AllCh w h sh st) (MLf (w * h) mine M) 1 x b
    refine ⟨by omega, fun v1 e1 h1 => ?_⟩
    have second : ∀ vs : Int, (vs = 0 ∨ vs = 1) → (vs = 1 ↔ sf x = 1 ∨ ¬ Pos w h sh st (fun n => sumL (NB w h sh n) (fun d => iU (st d) * mined d)) (AllCh w h sh st) (MLf (w * h) mine M) 1 x 1) → ∀ vm : Int, (vm = 0 ∨ vm = 1) → (vm = 1 ↔ mf x = 1 ∨ ¬ Pos w h sh st (fun n => sumL (NB w h sh n) (fun d => iU (st d) * mined d)) (AllCh w h sh st) (MLf (w * h) mine M) 1 x 0) → (inR (x + 1) ∧ (∀ x2_46 : Int, x2_46 = (x + 1) → (∃ n_47 : Nat, n_47 < (w * h - x).toNat ∧ (n_47 = (w * h - x2_46).toNat ∧ 0 ≤ x2_46 ∧ x2_46 ≤ w * h ∧ ∀ c, 0 ≤ c → c < w * h → ((upZ sf2 x vs c = 0 ∨ upZ sf2 x vs c = 1) ∧ (upZ mf2 x vm c = 0 ∨ upZ mf2 x vm c = 1)) ∧ (st c ≤ 1 → (po c < p ∨ (po c = p ∧ c < x2_46)) → (upZ sf2 x vs c = 1 ↔ sf c = 1 ∨ ¬ Pos w h sh st (fun n => sumL (NB w h sh n) (fun d => iU (st d) * mined d)) (AllCh w h sh st) (MLf (w * h) mine M) 1 c 1) ∧ (upZ mf2 x vm c = 1 ↔ mf c = 1 ∨ ¬ Pos w h sh st (fun n => sumL (NB w h sh n) (fun d => iU (st d) * mined d)) (AllCh w h sh st) (MLf (w * h) mine M) 1 c 0)) ∧ (¬ (st c ≤ 1 ∧ (po c < p ∨ (po c = p ∧ c < x2_46))) → upZ sf2 x vs c = sf c ∧ upZ mf2 x vm c = mf c))))) := by
      intro vs hs is vm hm im
      refine nx (by omega) ⟨_, ?_, rfl, by omega, by omega, fun c d0 d1 => ?_⟩
      · omega
      · by_cases e : c = x
        · subst e
          rw [upZ_s, upZ_s]
          exact ⟨⟨hs, hm⟩, fun _ _ => ⟨is, im⟩, fun y => absurd ⟨ux, Or.inr ⟨by omega, by omega⟩⟩ y⟩
        · rw [upZ_n _ _ e, upZ_n _ _ e]
          obtain ⟨c4, c5, c6⟩ := c3 c d0 d1
          exact ⟨c4, fun y1 y2 => c5 y1 (by omega), fun y => c6 (fun k => y ⟨k.1, by omega⟩)⟩
    have first : ∀ vs : Int, (vs = 0 ∨ vs = 1) → (vs = 1 ↔ sf x = 1 ∨ ¬ Pos w h sh st (fun n => sumL (NB w h sh n) (fun d => iU (st d) * mined d)) (AllCh w h sh st) (MLf (w * h) mine M) 1 x 1) → ((0 ≤ x ∧ x < 144) ∧ ((vs = 0 ∨ vs = 1) ∧ (∀ M_safe_59 : Int → Int, M_safe_59 = upZ sf2 x vs → ((0 ≤ x ∧ x < 144) ∧ (∀ v_61 : Int, v_61 = mf2 x → (v_61 = 0 ∨ v_61 = 1) → (∃ J_62 : (Int) → Prop, (∃ J_68 : Prop, ((¬ v_61 = 0 → (J_68)) ∧ (v_61 = 0 → (P_X12_hasWay (fun (c_71 : Int) => (c_71 = 0 ∨ c_71 = 1) → ((¬ c_71 = 0 → (J_62 0)) ∧ (c_71 = 0 → (J_68)))) (w * h) mine M po pl sz ways wth rc x 0 1))) ∧ (J_68 → (J_62 1))) ∧ (∀ (z_64 : Int), inR z_64 → J_62 z_64 → ((0 ≤ x ∧ x < 144) ∧ ((z_64 = 0 ∨ z_64 = 1) ∧ (∀ M_mined_67 : Int → Int, M_mined_67 = upZ mf2 x z_64 → ((inR (x + 1) ∧ (∀ x2_46 : Int, x2_46 = (x + 1) → (∃ n_47 : Nat, n_47 < (w * h - x).toNat ∧ (n_47 = (w * h - x2_46).toNat ∧ 0 ≤ x2_46 ∧ x2_46 ≤ w * h ∧ ∀ c, 0 ≤ c → c < w * h → ((M_safe_59 c = 0 ∨ M_safe_59 c = 1) ∧ (M_mined_67 c = 0 ∨ M_mined_67 c = 1)) ∧ (st c ≤ 1 → (po c < p ∨ (po c = p ∧ c < x2_46)) → (M_safe_59 c = 1 ↔ sf c = 1 ∨ ¬ Pos w h sh st (fun n => sumL (NB w h sh n) (fun d => iU (st d) * mined d)) (AllCh w h sh st) (MLf (w * h) mine M) 1 c 1) ∧ (M_mined_67 c = 1 ↔ mf c = 1 ∨ ¬ Pos w h sh st (fun n => sumL (NB w h sh n) (fun d => iU (st d) * mined d)) (AllCh w h sh st) (MLf (w * h) mine M) 1 c 0)) ∧ (¬ (st c ≤ 1 ∧ (po c < p ∨ (po c = p ∧ c < x2_46))) → M_safe_59 c = sf c ∧ M_mined_67 c = mf c)))))))))))))))) := by
      intro vs hs is
      refine ⟨by omega, hs, fun sf3 e3 => ⟨by omega, fun v2 e2 h2 => ?_⟩⟩
      have m2 : mf2 x = mf x := old2.2
      subst e3
      have x144 : 0 ≤ x ∧ x < 144 := by omega
      refine exJi (exJ0 ⟨fun z5 _ => ⟨x144, Or.inr rfl, fun mf3 e4 => by subst e4; exact second vs hs is 1 (Or.inr rfl) ⟨fun _ => Or.inl (by omega), fun _ => rfl⟩⟩, fun z5 => s_hasWayM E AllCh.ok cm f1 hx ux (Or.inl rfl) hr' (fun v3 h3 i3 _ => ⟨fun z6 _ => ⟨x144, Or.inl rfl, fun mf3 e4 => by
        subst e4
        exact second vs hs is 0 (Or.inl rfl) ⟨fun y => absurd y (by decide), fun y => y.elim (fun y => by omega) (fun y => absurd (i3.1 (h3.resolve_left z6)) y)⟩⟩, fun z6 _ => ⟨x144, Or.inr rfl, fun mf3 e4 => by
        subst e4
        exact second vs hs is 1 (Or.inr rfl) ⟨fun _ => Or.inr (fun y => absurd (i3.2 y) (by rw [z6]; decide)), fun _ => rfl⟩⟩⟩)⟩)
    have s2 : sf2 x = sf x := old2.1
    refine exJi (exJ0 ⟨fun z5 _ => first 1 (Or.inr rfl) ⟨fun _ => Or.inl (by omega), fun _ => rfl⟩, fun z5 => s_hasWayM E AllCh.ok cm f1 hx ux (Or.inr rfl) hr' (fun v3 h3 i3 _ => ⟨fun z6 _ => first 0 (Or.inl rfl) ⟨fun y => absurd y (by decide), fun y => ?_⟩, fun z6 _ => first 1 (Or.inr rfl) ⟨fun _ => Or.inr (fun y => ?_), fun _ => rfl⟩⟩)⟩)
    · rcases y with y | y
      · omega
      · exact absurd (i3.1 (h3.resolve_left z6)) y
    · have := i3.2 y
      omega
