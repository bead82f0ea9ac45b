/-! the reference's reason -/
theorem UsOk.of {w h sh : Int} {st us : Int → Int} {Ch : Int → Prop} (hs : ∀ n, Ch n → AllCh w h sh st n) (hu : ∀ n, 0 ≤ n → n < w * h → (us n = 0 ∨ us n = 1) ∧ (us n = 1 ↔ Ch n)) : UsOk w h sh st us Ch := by
  intro n n0 n1
  obtain ⟨q1, q2⟩ := hu n n0 n1
  exact ⟨q1, fun y => (hs n (q2.1 y)).2.1, ⟨fun y => ⟨q2.2 y, (hs n y).2.2⟩, fun y => q2.1 y.1⟩⟩
theorem s_isForcedM {w h sh c x2 b total q0 N0 : Int} {near degree mine M mined number st us po0 pl0 sz0 ways0 wth0 ms0 rs0 bt rc0 mo0 : Int → Int} {Ch : Int → Prop} {post : Int → (Int) → (Int) → (Int → Int) → (Int → Int) → (Int → Int) → (Int → Int) → (Int → Int) → (Int → Int) → (Int → Int) → (Int → Int) → (Int → Int) → Prop} (E : ME w h sh near degree mine M mined number st) (uk : UsOk w h sh st us Ch) (cok : ChOk w h sh st Ch) (bt_ok : BT bt) (ft : Fit w h sh st Ch) (hc : 0 ≤ c ∧ c < w * h) (hu : st c ≤ 1) (hb0 : x2 = 0 → b = 1) (hb1 : ¬ x2 = 0 → b = 0)
    (hp : ∀ (v q N : Int) (po pl sz ways wth ms rs rc mo : Int → Int), (v = 0 ∨ v = 1) → (v = 1 ↔ ¬ Pos w h sh st (Rn w h sh st mined) Ch (MLf (w * h) mine M) total c b) → post v q N po pl sz ways wth ms rs rc mo) : P_X12_isForced post (w * h) q0 N0 total near degree mine M us po0 pl0 sz0 ways0 wth0 ms0 rs0 bt rc0 mo0 c x2 := by
  unfold P_X12_isForced
  refine s_countPartsM E uk cok bt_ok (fun fits q N po pl sz ways wth ms rs cm hf => ?_)
  have f1 : fits = 1 := cm.1.fit.2 ft
  refine ⟨fun rc mo z => (z = 0 ∨ z = 1) ∧ (z = 1 ↔ ¬ Pos w h sh st (Rn w h sh st mined) Ch (MLf (w * h) mine M) total c b), ⟨fun rc mo => Pos w h sh st (Rn w h sh st mined) Ch (MLf (w * h) mine M) total c b, ⟨fun z => by omega, fun z => ?_⟩, fun rc mo k => ⟨Or.inl rfl, ⟨fun y => absurd y (by decide), fun y => absurd k y⟩⟩⟩, fun rc mo z rz ⟨z1, z2⟩ => ⟨z1, hp _ _ _ _ _ _ _ _ _ _ _ _ z1 z2⟩⟩
  have go : ∀ zz : Int, zz = b → (zz = 0 ∨ zz = 1) ∧ P_X12_isPossible (fun (c_27 : Int) (M_reach_28 : Int → Int) (M_more_29 : Int → Int) => (c_27 = 0 ∨ c_27 = 1) → ((¬ c_27 = 0 → Pos w h sh st (Rn w h sh st mined) Ch (MLf (w * h) mine M) total c b) ∧ (c_27 = 0 → ((1 : Int) = 0 ∨ (1 : Int) = 1) ∧ ((1 : Int) = 1 ↔ ¬ Pos w h sh st (Rn w h sh st mined) Ch (MLf (w * h) mine M) total c b)))) (w * h) q mine M po pl sz ways wth rc0 mo0 c zz total := by
    intro zz ez
    have hz : zz = 0 ∨ zz = 1 := by
      by_cases k : x2 = 0
      · exact Or.inr (by rw [ez, hb0 k])
      · exact Or.inl (by rw [ez, hb1 k])
    refine ⟨hz, s_isPossibleM E cok cm f1 hc hu hz (fun v rc mo h1 h2 _ => ⟨fun y => ?_, fun y => ⟨Or.inr rfl, ⟨fun _ k => ?_, fun _ => rfl⟩⟩⟩)⟩
    · have := h2.1 (h1.resolve_left y)
      rw [ez] at this
      exact this
    · rw [← ez] at k
      have := h2.2 k
      rw [y] at this
      exact absurd this (by decide)
  exact exJi ⟨fun y _ => go 0 (hb1 y).symm, fun y _ => go 1 (hb0 y).symm⟩
theorem s_usePartM {w h sh c q0 : Int} {near degree mine M mined number st us0 po0 pl0 sz0 : Int → Int} {post : (Int) → (Int → Int) → (Int → Int) → (Int → Int) → (Int → Int) → Prop} (E : ME w h sh near degree mine M mined number st) (hb : Bd w h sh st (AllCh w h sh st) c)
    (hp : ∀ (q : Int) (us po pl sz : Int → Int), (∀ n, 0 ≤ n → n < w * h → (us n = 0 ∨ us n = 1) ∧ (us n = 1 ↔ PCh w h sh st (AllCh w h sh st) c n)) → post q us po pl sz) : P_X12_usePart post (w * h) q0 near degree M us0 po0 pl0 sz0 c := by
  have ok := E.1
  have g := E.2.1
  have hle := wh_le ok
  have hge := wh_ge ok
  have cok : ChOk w h sh st (AllCh w h sh st) := AllCh.ok
  unfold P_X12_usePart
  refine s_useAllM E (fun us1 uk1 hu1 => s_divideM E uk1 cok (fun fits q po pl sz dv _ => ⟨by have := hb.1; omega, fun p ep rp => ?_⟩))
  have key : ∀ n, AllCh w h sh st n → ∀ d ∈ NB w h sh n, st d ≤ 1 → (po d = p ↔ Cn w h sh st (AllCh w h sh st) c d) := by
    intro n hn d md ud
    have bd : Bd w h sh st (AllCh w h sh st) d := ⟨nb_cell md, ud, n, hn, md⟩
    rw [ep, ← dv.2.2.2.1 c d hb bd]
    exact eq_comm
  refine ⟨fun k x us => k = (w * h - x).toNat ∧ 0 ≤ x ∧ x ≤ w * h ∧ (∀ n, 0 ≤ n → n < x → (us n = 0 ∨ us n = 1) ∧ (us n = 1 ↔ PCh w h sh st (AllCh w h sh st) c n)) ∧ (∀ n, x ≤ n → n < w * h → us n = us1 n), ⟨_, rfl, by omega, by omega, fun n _ _ => by omega, fun _ _ _ => rfl⟩, ?_⟩
  rintro k x us rx ⟨rfl, b1, b2, b3, b4⟩
  refine ⟨fun z => hp _ _ _ _ _ (fun n n0 n1 => b3 n n0 (by omega)), fun z => ?_⟩
  have hx : 0 ≤ x ∧ x < w * h := ⟨b1, by omega⟩
  have hl := NB_len ok hx
  have ge := (g x hx.1 hx.2).1
  have ux := b4 x (Int.le_refl _) hx.2
  have u1 := hu1 x hx.1 hx.2
  have u01 := (uk1 x hx.1 hx.2).1
  refine ⟨fun k v y => k = (degree x - y).toNat ∧ 0 ≤ y ∧ y ≤ degree x ∧ (us1 x = 0 → y = 0) ∧ (v = 0 ∨ v = 1) ∧ (v = 1 ↔ ∃ d ∈ (NB w h sh x).take y.toNat, st d ≤ 1 ∧ po d = p), ⟨_, rfl, by omega, by omega, fun _ => rfl, Or.inl rfl, ⟨fun q => by omega, fun ⟨d, md, _⟩ => by simp at md⟩⟩, ?_⟩
  rintro k v y rv ry ⟨rfl, c1, c2, c3, c4, c5⟩
  have fin : (¬ us1 x = 0 → degree x ≤ y) → ((0 ≤ x ∧ x < 144) ∧ ((v = 0 ∨ v = 1) ∧ (∀ M_used_31 : Int → Int, M_used_31 = upZ us x v → (inR (x + 1) ∧ (∀ x3_33 : Int, x3_33 = (x + 1) → (∃ n_34 : Nat, n_34 < (w * h - x).toNat ∧ (n_34 = (w * h - x3_33).toNat ∧ 0 ≤ x3_33 ∧ x3_33 ≤ w * h ∧ (∀ n, 0 ≤ n → n < x3_33 → (M_used_31 n = 0 ∨ M_used_31 n = 1) ∧ (M_used_31 n = 1 ↔ PCh w h sh st (AllCh w h sh st) c n)) ∧ (∀ n, x3_33 ≤ n → n < w * h → M_used_31 n = us1 n)))))))) := by
    intro hh
    have iv : v = 1 ↔ PCh w h sh st (AllCh w h sh st) c x := by
      rw [c5]
      constructor
      · rintro ⟨d, md, ud, pd⟩
        have md' := List.mem_of_mem_take md
        have un : ¬ us1 x = 0 := fun k => by
          rw [c3 k] at md
          simp at md
        have ax := u1.1 (u01.resolve_left un)
        exact ⟨ax, d, md', ud, (key x ax d md' ud).1 pd⟩
      · rintro ⟨ax, d, md, ud, kd⟩
        have un : ¬ us1 x = 0 := by have := u1.2 ax; omega
        rw [rowM_end g hx (hh un)]
        exact ⟨d, md, ud, (key x ax d md ud).2 kd⟩
    refine ⟨by omega, c4, fun us2 e2 => nx (by omega) ⟨_, ?_, rfl, by omega, by omega, fun n n0 n1 => ?_, fun n n0 n1 => ?_⟩⟩
    · omega
    · rw [e2]
      by_cases e : n = x
      · rw [e, upZ_s]; exact ⟨c4, iv⟩
      · rw [upZ_n _ _ e]; exact b3 n n0 (by omega)
    · rw [e2, upZ_n _ _ (by omega)]
      exact b4 n (by omega) n1
  refine ⟨by omega, fun dg edg rdg => ⟨_, ⟨fun z1 => fin (fun _ => by omega), fun z1 => ⟨by omega, fun v1 e1 h1 => ⟨fun z2 => fin (fun k => by omega), fun z2 => ?_⟩⟩⟩, fun jj => jj⟩⟩
  obtain ⟨m, t⟩ := rowM_at g hx c1 (by omega)
  have mc := nb_cell m
  have et : (y + 1).toNat = y.toNat + 1 := by omega
  have stp : ∀ v2 : Int, (v2 = 0 ∨ v2 = 1) → (v2 = 1 ↔ v = 1 ∨ (st (near (8 * x + y)) ≤ 1 ∧ po (near (8 * x + y)) = p)) → (inR (y + 1) ∧ (∀ x5_43 : Int, x5_43 = (y + 1) → (∃ n_44 : Nat, n_44 < (degree x - y).toNat ∧ (n_44 = (degree x - x5_43).toNat ∧ 0 ≤ x5_43 ∧ x5_43 ≤ degree x ∧ (us1 x = 0 → x5_43 = 0) ∧ (v2 = 0 ∨ v2 = 1) ∧ (v2 = 1 ↔ ∃ d ∈ (NB w h sh x).take x5_43.toNat, st d ≤ 1 ∧ po d = p))))) := by
    intro v2 h2 i2
    refine nx (by omega) ⟨_, ?_, rfl, by omega, by omega, fun k => by omega, h2, ?_⟩
    · omega
    · rw [i2, c5, et, t]
      constructor
      · rintro (⟨d, md, r⟩ | r)
        · exact ⟨d, List.mem_append_left _ md, r⟩
        · exact ⟨_, List.mem_append_right _ (List.mem_singleton.mpr rfl), r⟩
      · rintro ⟨d, md, r⟩
        rcases List.mem_append.mp md with md | md
        · exact Or.inl ⟨d, md, r⟩
        · rw [List.mem_singleton.mp md] at r
          exact Or.inr r
  refine exJi (exJ0 ⟨fun z3 _ => stp 1 (Or.inr rfl) ⟨fun _ => Or.inl (by omega), fun _ => rfl⟩, fun z3 => ⟨by omega, fun v2 e2 r2 => ?_⟩⟩)
  subst e2
  refine s_unkM E mc (fun u hu iu _ => exJ0 ⟨fun z4 _ => stp 0 (Or.inl rfl) ⟨fun q => by omega, fun q => ?_⟩, fun z4 => ⟨by omega, fun v3 e3 r3 => ?_⟩⟩)
  · rcases q with q | q
    · omega
    · have := iu.2 q.1
      omega
  · subst e3
    refine ⟨by omega, fun v4 e4 r4 => ⟨fun z5 _ => stp 0 (Or.inl rfl) ⟨fun q => by omega, fun q => by omega⟩, fun z5 _ => stp 1 (Or.inr rfl) ⟨fun _ => Or.inr ⟨iu.1 (by omega), by omega⟩, fun _ => rfl⟩⟩⟩
theorem Pos_off {w h sh left c b : Int} {st mined : Int → Int} {Ch : Int → Prop} (hm : ∀ c, 0 ≤ c → c < w * h → mined c = 0 ∨ mined c = 1) (hc : 0 ≤ c ∧ c < w * h) (hu : st c ≤ 1) (nb : ¬ Bd w h sh st Ch c) (hb : b = 0 ∨ b = 1) : Pos w h sh st (Rn w h sh st mined) Ch left 0 c b := by
  obtain ⟨t, t01, ht⟩ := RM.way (w := w) (h := h) (sh := sh) (st := st) (R := Rn w h sh st mined) (mined := mined) (Ch := Ch) ⟨hm, fun _ _ => rfl⟩
  refine ⟨upZ t c b, fun d => ?_, fun n hn => (ht n hn).cong (fun d md ud => ?_), fun k => absurd rfl k, upZ_s _ _ _⟩
  · by_cases e : d = c
    · rw [e, upZ_s]; exact hb
    · rw [upZ_n _ _ e]; exact t01 d
  · refine (upZ_n _ _ (fun e => ?_)).symm
    subst e
    exact nb ⟨hc, hu, n, hn, md⟩
theorem s_findReasonM {w h sh c x2 b q0 N0 rn0 tt0 : Int} {near degree mine M mined number st us0 po0 pl0 sz0 ways0 wth0 ms0 rs0 bt rc0 mo0 rea0 : Int → Int} {post : (Int) → (Int) → (Int) → (Int) → (Int → Int) → (Int → Int) → (Int → Int) → (Int → Int) → (Int → Int) → (Int → Int) → (Int → Int) → (Int → Int) → (Int → Int) → (Int → Int) → (Int → Int) → Prop} (E : ME w h sh near degree mine M mined number st) (bt_ok : BT bt) (hc : 0 ≤ c ∧ c < w * h) (hu : st c ≤ 1) (hb0 : x2 = 0 → b = 1) (hb1 : ¬ x2 = 0 → b = 0) (hbd : ¬ Fit w h sh st (AllCh w h sh st) → Bd w h sh st (AllCh w h sh st) c)
    (hp : ∀ (q N : Int) (us po pl sz ways wth ms rs rc mo rea : Int → Int), seg rea 0 (FinL w h sh st mined (MLf (w * h) mine M) c b).length = FinL w h sh st mined (MLf (w * h) mine M) c b → post q N (FinL w h sh st mined (MLf (w * h) mine M) c b).length (iB (W0 w h sh st mined (MLf (w * h) mine M) c b)) us po pl sz ways wth ms rs rc mo rea) :
    P_X12_findReason post (w * h) q0 N0 rn0 tt0 near degree mine M us0 po0 pl0 sz0 ways0 wth0 ms0 rs0 bt rc0 mo0 rea0 c x2 := by
  have ok := E.1
  have hm := E.2.2.2.1
  have hle := wh_le ok
  have hge := wh_ge ok
  have cok : ChOk w h sh st (AllCh w h sh st) := AllCh.ok
  have hbb : b = 0 ∨ b = 1 := by
    by_cases k : x2 = 0
    · exact Or.inr (hb0 k)
    · exact Or.inl (hb1 k)
  generalize eL : MLf (w * h) mine M = left at *
  unfold P_X12_findReason
  refine s_useAllM E (fun us1 uk1 hu1 => s_divideM E uk1 cok (fun fits q po pl sz dv f01 => ⟨by omega, fun pc epc rpc => ?_⟩))
  have fit := dv.fit
  have pcb := dv.2.2.1 c hc.1 hc.2
  refine ⟨fun z => (z = 0 ∨ z = 1) ∧ (z = 1 ↔ Bd w h sh st (AllCh w h sh st) c), ⟨fun y => ⟨Or.inl rfl, ⟨fun q => absurd q (by decide), fun q => by have := pcb.1 q; omega⟩⟩, fun y => ⟨Or.inr rfl, ⟨fun _ => Classical.byContradiction (fun k => by have := pcb.2 k; omega), fun _ => rfl⟩⟩⟩, fun z rz ⟨z01, zb⟩ => ?_⟩
  refine ⟨fun q us po pl sz => ∀ n, 0 ≤ n → n < w * h → (us n = 0 ∨ us n = 1) ∧ (us n = 1 ↔ (Bd w h sh st (AllCh w h sh st) c → PCh w h sh st (AllCh w h sh st) c n) ∧ (¬ Bd w h sh st (AllCh w h sh st) c → AllCh w h sh st n)), ⟨fun y n n0 n1 => ?_, fun y => ?_⟩, ?_⟩
  · have nb : ¬ Bd w h sh st (AllCh w h sh st) c := fun k => by have := zb.2 k; omega
    exact ⟨(uk1 n n0 n1).1, (hu1 n n0 n1).trans ⟨fun r => ⟨fun k => absurd k nb, fun _ => r⟩, fun r => r.2 nb⟩⟩
  · have bd := zb.1 (z01.resolve_left y)
    refine s_usePartM E bd (fun q us po pl sz hus n n0 n1 => ?_)
    obtain ⟨r1, r2⟩ := hus n n0 n1
    exact ⟨r1, r2.trans ⟨fun r => ⟨fun _ => r, fun k => absurd bd k⟩, fun r => r.1 bd⟩⟩
  intro q2 us2 po2 pl2 sz2 hus2
  have psub : ∀ n, PCh w h sh st (AllCh w h sh st) c n → AllCh w h sh st n := fun n hn => hn.1
  refine ⟨fun q N tot us po pl sz ways wth ms rs rc mo => tot = iB (W0 w h sh st mined left c b) ∧ ∀ n, 0 ≤ n → n < w * h → (us n = 0 ∨ us n = 1) ∧ (us n = 1 ↔ Ch0 w h sh st mined left c b n), ⟨fun y => ?_, fun y => ?_⟩, ?_⟩
  · -- too long
    have nf : ¬ Fit w h sh st (AllCh w h sh st) := fun k => by have := fit.2 k; omega
    have nw : ¬ W0 w h sh st mined left c b := fun k => nf k.1
    have bd := hbd nf
    refine ⟨(iB_f nw).symm, fun n n0 n1 => ?_⟩
    obtain ⟨r1, r2⟩ := hus2 n n0 n1
    exact ⟨r1, r2.trans ⟨fun r => ⟨fun k => absurd k nw, fun _ => ⟨bd, r.1 bd⟩⟩, fun r => ⟨fun _ => (r.2 nw).2, fun k => absurd bd k⟩⟩⟩
  · have ft := fit.1 (f01.resolve_left y)
    refine ⟨fun q N po pl sz ways wth ms rs rc mo => Pos w h sh st (Rn w h sh st mined) (AllCh w h sh st) left 0 c b, ⟨fun y2 => ?_, fun y2 => ?_⟩, ?_⟩
    · have nb : ¬ Bd w h sh st (AllCh w h sh st) c := fun k => by have := zb.2 k; omega
      exact Pos_off hm hc hu nb hbb
    · have bd := zb.1 (z01.resolve_left y2)
      have hus3 : ∀ n, 0 ≤ n → n < w * h → (us2 n = 0 ∨ us2 n = 1) ∧ (us2 n = 1 ↔ PCh w h sh st (AllCh w h sh st) c n) := fun n n0 n1 => ⟨(hus2 n n0 n1).1, (hus2 n n0 n1).2.trans ⟨fun r => r.1 bd, fun r => ⟨fun _ => r, fun k => absurd bd k⟩⟩⟩
      refine s_isForcedM E (UsOk.of psub hus3) (fun n hn => hn.1) bt_ok (ft.mono psub) hc hu hb0 hb1 (fun v q3 N3 po3 pl3 sz3 ways3 wth3 ms3 rs3 rc3 mo3 h1 h2 _ => ⟨fun r => ?_, fun r => ?_⟩)
      · have np := h2.1 (h1.resolve_left r)
        rw [eL, ← Pos_part hm] at np
        have nw : ¬ W0 w h sh st mined left c b := fun k => np k.2
        refine ⟨(iB_f nw).symm, fun n n0 n1 => ?_⟩
        obtain ⟨r1, r2⟩ := hus3 n n0 n1
        exact ⟨r1, r2.trans ⟨fun r => ⟨fun k => absurd k nw, fun _ => ⟨bd, r⟩⟩, fun r => (r.2 nw).2⟩⟩
      · rw [eL, ← Pos_part hm] at h2
        apply Classical.byContradiction
        intro k
        have := h2.2 k
        rw [r] at this
        exact absurd this (by decide)
    · intro q3 N3 po3 pl3 sz3 ways3 wth3 ms3 rs3 rc3 mo3 pp
      refine s_useAllM E (fun us4 uk4 hu4 => ?_)
      have w0 : W0 w h sh st mined left c b := ⟨ft, pp⟩
      exact ⟨(iB_t w0).symm, fun n n0 n1 => ⟨(uk4 n n0 n1).1, (hu4 n n0 n1).trans ⟨fun r => ⟨fun _ => r, fun k => absurd w0 k⟩, fun r => r.1 w0⟩⟩⟩
  rintro q3 N3 tot us3 po3 pl3 sz3 ways3 wth3 ms3 rs3 rc3 mo3 ⟨et, hus⟩
  refine ⟨by omega, fun x0 ex0 => ⟨fun k x q N us po pl sz ways wth ms rs rc mo => k = (x + 1).toNat ∧ -1 ≤ x ∧ x < w * h ∧ (fits = 0 → x = w * h - 1) ∧ ∀ n, 0 ≤ n → n < w * h → (us n = 0 ∨ us n = 1) ∧ (us n = 1 ↔ Lf w h sh st mined left tot c b (Ch0 w h sh st mined left c b) (w * h - 1 - x).toNat n), ⟨_, rfl, by omega, by omega, fun _ => by omega, ?_⟩, ?_⟩⟩
  · rw [ex0, show (w * h - 1 - (w * h - 1)).toNat = 0 by omega]
    exact hus
  rintro k x q5 N5 us5 po5 pl5 sz5 ways5 wth5 ms5 rs5 rc5 mo5 rx ⟨rfl, b1, b2, b3, b5⟩
  have fin : (x < 0 ∨ fits = 0) → ∃ Inv_57 : Nat → (Int) → (Int) → (Int → Int) → Prop, (∃ n_58 : Nat, Inv_57 n_58 0 0 rea0) ∧ ∀ (n_59 : Nat) (x5_62 : Int) (M_reasons_63 : Int) (M_reason_64 : Int → Int), inR x5_62 → Inv_57 n_59 x5_62 M_reasons_63 M_reason_64 → ((w * h ≤ x5_62 → (post q5 N5 M_reasons_63 tot us5 po5 pl5 sz5 ways5 wth5 ms5 rs5 rc5 mo5 M_reason_64)) ∧ (¬ w * h ≤ x5_62 → ((0 ≤ x5_62 ∧ x5_62 < 144) ∧ (∀ v_68 : Int, v_68 = us5 x5_62 → (v_68 = 0 ∨ v_68 = 1) → (∃ J_69 : (Int) → (Int → Int) → Prop, ((v_68 = 0 → (J_69 M_reasons_63 M_reason_64)) ∧ (¬ v_68 = 0 → ((0 ≤ M_reasons_63 ∧ M_reasons_63 < 144) ∧ (∀ M_reason_79 : Int → Int, M_reason_79 = upZ M_reason_64 M_reasons_63 x5_62 → (inR (M_reasons_63 + 1) ∧ (∀ M_reasons_82 : Int, M_reasons_82 = (M_reasons_63 + 1) → (J_69 M_reasons_82 M_reason_79))))))) ∧ (∀ (M_reasons_71 : Int) (M_reason_72 : Int → Int), J_69 M_reasons_71 M_reason_72 → (inR (x5_62 + 1) ∧ (∀ x5_74 : Int, x5_74 = (x5_62 + 1) → (∃ n_75 : Nat, n_75 < n_59 ∧ Inv_57 n_75 x5_74 M_reasons_71 M_reason_72))))))))) := by
    intro hh
    have hF : ∀ n, 0 ≤ n → n < w * h → (us5 n = 0 ∨ us5 n = 1) ∧ (us5 n = 1 ↔ FinC w h sh st mined left c b n) := by
      intro n n0 n1
      obtain ⟨r1, r2⟩ := b5 n n0 n1
      refine ⟨r1, r2.trans ?_⟩
      unfold FinC
      rw [← et]
      rcases hh with hh | hh
      · have e : (w * h - 1 - x).toNat = (w * h).toNat := by omega
        rw [e]
        refine ⟨fun y => ⟨fun _ => y, fun _ => Lf.sub y⟩, fun y => ?_⟩
        by_cases k : Fit w h sh st (AllCh w h sh st)
        · exact y.1 k
        · have := b3 (f01.resolve_right (fun q => k (fit.1 q)))
          omega
      · have e : (w * h - 1 - x).toNat = 0 := by have := b3 hh; omega
        rw [e]
        have nf : ¬ Fit w h sh st (AllCh w h sh st) := fun k => by have := fit.2 k; omega
        exact ⟨fun y => ⟨fun k => absurd k nf, fun _ => y⟩, fun y => y.2 nf⟩
    -- the same list as the class's
    have kc : P_X0_keepChosen (fun N nm => post q5 N5 N tot us5 po5 pl5 sz5 ways5 wth5 ms5 rs5 rc5 mo5 nm) (w * h) 0 us5 rea0 := by
      refine s_keepChosen ok hF (fun nm hn => ?_)
      rw [et]
      exact hp _ _ _ _ _ _ _ _ _ _ _ _ _ hn
    exact kc
  refine ⟨_, ⟨fun y => fin (Or.inl y), fun y => ⟨fun y2 => fin (Or.inr y2), fun y2 => ⟨by omega, fun vx evx hvx => ?_⟩⟩⟩, fun jj => jj⟩
  have ft := fit.1 (f01.resolve_left y2)
  have hx : 0 ≤ x ∧ x < w * h := ⟨by omega, b2⟩
  refine ⟨fun q N us po pl sz ways wth ms rs rc mo => ∀ n, 0 ≤ n → n < w * h → (us n = 0 ∨ us n = 1) ∧ (us n = 1 ↔ Lf w h sh st mined left tot c b (Ch0 w h sh st mined left c b) (w * h - 1 - (x - 1)).toNat n), ⟨fun y3 => Lf.step hx b5 (fun _ _ => rfl) (fun k => absurd (evx ▸ y3) k), fun y3 => ⟨by omega, fun us6 e6 => ?_⟩⟩, ?_⟩
  · have hus6 : ∀ n, 0 ≤ n → n < w * h → (us6 n = 0 ∨ us6 n = 1) ∧ (us6 n = 1 ↔ (Lf w h sh st mined left tot c b (Ch0 w h sh st mined left c b) (w * h - 1 - x).toNat n ∧ n ≠ x)) := by
      intro n n0 n1
      rw [e6]
      by_cases e : n = x
      · rw [e, upZ_s]
        exact ⟨Or.inl rfl, ⟨fun q => absurd q (by decide), fun q => absurd rfl q.2⟩⟩
      · rw [upZ_n _ _ e]
        obtain ⟨r1, r2⟩ := b5 n n0 n1
        exact ⟨r1, r2.trans ⟨fun r => ⟨r, e⟩, fun r => r.1⟩⟩
    have sub6 : ∀ n, (Lf w h sh st mined left tot c b (Ch0 w h sh st mined left c b) (w * h - 1 - x).toNat n ∧ n ≠ x) → AllCh w h sh st n := fun n hn => (Lf.sub hn.1).all
    refine s_isForcedM E (UsOk.of sub6 hus6) (fun n hn => sub6 n hn) bt_ok (ft.mono sub6) hc hu hb0 hb1 (fun v q7 N7 po7 pl7 sz7 ways7 wth7 ms7 rs7 rc7 mo7 h1 h2 _ => ?_)
    rw [eL] at h2
    have last : ∀ z3 : Int, (z3 = 0 ∨ z3 = 1) → (z3 = 1 ↔ Pos w h sh st (Rn w h sh st mined) (fun n => Lf w h sh st mined left tot c b (Ch0 w h sh st mined left c b) (w * h - 1 - x).toNat n ∧ n ≠ x) left tot c b) → ((0 ≤ x ∧ x < 144) ∧ ((z3 = 0 ∨ z3 = 1) ∧ (∀ M_used_124 : Int → Int, M_used_124 = upZ us6 x z3 → (∀ n, 0 ≤ n → n < w * h → (M_used_124 n = 0 ∨ M_used_124 n = 1) ∧ (M_used_124 n = 1 ↔ Lf w h sh st mined left tot c b (Ch0 w h sh st mined left c b) (w * h - 1 - (x - 1)).toNat n))))) := by
      intro z3 o3 i3
      refine ⟨by omega, o3, fun us7 e7 => Lf.step hx b5 (fun k => absurd (evx.trans k) y3) (fun _ => ⟨fun n hn => ?_, ?_, ?_⟩)⟩
      · rw [e7, upZ_n _ _ hn, e6, upZ_n _ _ hn]
      · rw [e7, upZ_s]; exact o3
      · rw [e7, upZ_s]; exact i3
    refine exJi ⟨fun r _ => last 0 (Or.inl rfl) ⟨fun s => absurd s (by decide), fun s => absurd s (h2.1 (h1.resolve_left r))⟩, fun r _ => last 1 (Or.inr rfl) ⟨fun _ => ?_, fun _ => rfl⟩⟩
    apply Classical.byContradiction
    intro k
    have := h2.2 k
    rw [r] at this
    exact absurd this (by decide)
  · intro q8 N8 us8 po8 pl8 sz8 ways8 wth8 ms8 rs8 rc8 mo8 q9
    refine ⟨by omega, fun x2' e2 => ⟨_, ?_, rfl, by omega, by omega, fun k => absurd k y2, ?_⟩⟩
    · omega
    · rw [e2, show w * h - 1 - (x + -1) = w * h - 1 - (x - 1) by omega]
      exact q9
