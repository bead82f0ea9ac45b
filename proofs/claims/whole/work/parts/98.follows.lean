/-! reason, reasonCell, follows -/
theorem op_reason {n ag aw an mg mt mr thr what : Int} {nm rea : Int → Int} (a : AR n ag aw an nm mg mt mr rea) : P_X11_reason (fun res => P_X12_reason (fun b t => t = 0 ∧ b = res) thr 1 mg mr mt what) (fun k => P_X12_reason (fun _ t => t = k) thr 1 mg mr mt what) 1 ag aw an what := by
  obtain ⟨a1, a2, a3, a4, a5, a6, -⟩ := a
  subst a1 a2 a4
  unfold P_X11_reason
  have yes : ∀ res : Int, (0 ≤ what ∧ what ≤ 2) → (what = 0 → res = ag) → (what = 1 → res = an) → (what = 2 → res = aw) → P_X12_reason (fun b t => t = 0 ∧ b = res) thr 1 ag an aw what := by
    intro res hw h0 h1 h2
    unfold P_X12_reason
    refine ⟨fun _ => s_within (fun _ _ => ⟨fun _ => ?_, fun z => absurd z (by decide)⟩) (fun y => absurd hw y), fun z => absurd z (by decide)⟩
    refine exJi ⟨fun z => ⟨fun z1 => ⟨fun z2 _ => ⟨rfl, ?_⟩, fun z2 _ => ⟨rfl, ?_⟩⟩, fun z1 _ => ⟨rfl, ?_⟩⟩, fun z _ => ⟨rfl, ?_⟩⟩
    · rw [h2 (by omega)]; omega
    · rw [h2 (by omega)]; omega
    · rw [h1 z1]
    · rw [h0 z]
  refine s_needBoard1 ⟨fun z => yes ag (by omega) (fun _ => rfl) (fun y => by omega) (fun y => by omega), fun z => yes an (by omega) (fun y => by omega) (fun _ => rfl) (fun y => by omega), fun z => exJi ⟨fun z1 _ => yes 0 (by omega) (fun y => by omega) (fun y => by omega) (fun y => by omega), fun z1 _ => yes 1 (by omega) (fun y => by omega) (fun y => by omega) (fun y => by omega)⟩, fun z => ?_⟩
  unfold P_X12_reason
  exact ⟨fun _ => s_within (fun y => by omega) (fun _ _ => ⟨fun z1 => absurd rfl z1, fun _ => s_failM (fun _ => rfl)⟩), fun z => absurd z (by decide)⟩
theorem op_reasonCell {n ag aw an mg mt mr thr k : Int} {nm rea : Int → Int} (hn : n ≤ 144) (a : AR n ag aw an nm mg mt mr rea) : P_X11_reasonCell (fun res => P_X12_reasonCell (fun b t => t = 0 ∧ b = res) thr 1 mr rea k) (fun e => P_X12_reasonCell (fun _ t => t = e) thr 1 mr rea k) 1 an nm k := by
  obtain ⟨a1, a2, a3, a4, a5, a6, a7⟩ := a
  subst a4
  unfold P_X11_reasonCell
  have no : ¬ (0 ≤ k ∧ k ≤ an - 1) → P_X12_reasonCell (fun _ t => t = 2) thr 1 an rea k := by
    intro hk
    unfold P_X12_reasonCell
    refine ⟨fun _ => ⟨by omega, s_within (fun y => absurd y hk) (fun _ _ => ⟨fun t _ => t = 2, ⟨fun _ => s_failM (fun _ => rfl), fun z => absurd rfl z⟩, fun t z _ h => h⟩)⟩, fun z => absurd z (by decide)⟩
  refine s_needBoard1 ⟨fun z => no (by omega), fun z => ⟨fun z1 => ⟨by omega, fun v ev rv => ?_⟩, fun z1 => no (by omega)⟩⟩
  have e := a7 k (by omega) z1
  unfold P_X12_reasonCell
  refine ⟨fun _ => ⟨by omega, s_within (fun _ _ => ⟨fun t z => t = 0 ∧ z = v, ⟨fun z2 => absurd z2 (by decide), fun _ => ⟨by omega, fun v2 e2 r2 => ⟨rfl, by omega⟩⟩⟩, fun t z _ h => h⟩) (fun y => by omega)⟩, fun z => absurd z (by decide)⟩
/-- the numbers of the reason that still tell something -/
def FCh (w h sh : Int) (st : Int → Int) (an : Int) (nm : Int → Int) (n : Int) : Prop := (∃ i, 0 ≤ i ∧ i < an ∧ nm i = n) ∧ AllCh w h sh st n
theorem s_chooseNumbers {w h sh an mines : Int} {near nearEnd mined number st ci un hi ch nm : Int → Int} {post : (Int → Int) → Prop} (D : DE w h sh near nearEnd mined number st ci un hi mines) (han : 0 ≤ an ∧ an ≤ 144) (hnm : ∀ i, 0 ≤ i → i < an → 0 ≤ nm i ∧ nm i < w * h)
    (hp : ∀ ch' : Int → Int, (∀ c, 0 ≤ c → c < w * h → (ch' c = 0 ∨ ch' c = 1) ∧ (ch' c = 1 ↔ FCh w h sh st an nm c)) → post ch') : P_X0_chooseNumbers post an st un ch nm := by
  have hle := wh_le D.1
  have hge := wh_ge D.1
  unfold P_X0_chooseNumbers P_X1_chooseNone
  refine ⟨fun n x c' => n = (144 - x).toNat ∧ 0 ≤ x ∧ x ≤ 144 ∧ ∀ c, 0 ≤ c → c < x → c' c = 0, ⟨_, rfl, by omega, by omega, fun c _ _ => by omega⟩, ?_⟩
  rintro n x c' rx ⟨rfl, b1, b2, b3⟩
  refine ⟨fun z => ?_, fun z => ⟨by omega, fun c2 e2 => nx (by omega) ⟨_, ?_, rfl, by omega, by omega, fun c c0 c1 => ?_⟩⟩⟩
  rotate_left
  · omega
  · rw [e2]
    by_cases e : c = x
    · rw [e, upZ_s]
    · rw [upZ_n _ _ e]; exact b3 c c0 (by omega)
  refine ⟨fun n x c' => n = (an - x).toNat ∧ 0 ≤ x ∧ x ≤ an ∧ ∀ c, 0 ≤ c → c < w * h → (c' c = 0 ∨ c' c = 1) ∧ (c' c = 1 ↔ (∃ i, 0 ≤ i ∧ i < x ∧ nm i = c) ∧ AllCh w h sh st c), ⟨_, rfl, by omega, by omega, fun c c0 c1 => ?_⟩, ?_⟩
  · rw [b3 c c0 (by omega)]
    exact ⟨Or.inl rfl, ⟨fun y => absurd y (by decide), fun ⟨⟨i, y⟩, _⟩ => by omega⟩⟩
  rintro n y c3 ry ⟨rfl, d1, d2, d3⟩
  refine ⟨fun z1 => ?_, fun z1 => ?_⟩
  · have e : y = an := by omega
    subst e
    exact hp c3 d3
  · have hy := hnm y d1 (by omega)
    refine ⟨by omega, fun v ev rv => ⟨by omega, fun v2 ev2 rv2 => ?_⟩⟩
    subst ev ev2
    refine s_canChoose D hy (fun u hu iu _ => ⟨by omega, fun c4 e4 => nx (by omega) ⟨_, ?_, rfl, by omega, by omega, fun c c0 c1 => ?_⟩⟩)
    · omega
    · rw [e4]
      by_cases e : c = nm y
      · subst e
        rw [upZ_s]
        exact ⟨hu, iu.trans ⟨fun k => ⟨⟨y, d1, by omega, rfl⟩, k⟩, fun k => k.2⟩⟩
      · rw [upZ_n _ _ e]
        obtain ⟨q1, q2⟩ := d3 c c0 c1
        refine ⟨q1, q2.trans ⟨fun ⟨⟨i, i0, i1, i2⟩, k⟩ => ⟨⟨i, i0, by omega, i2⟩, k⟩, fun ⟨⟨i, i0, i1, i2⟩, k⟩ => ⟨⟨i, i0, ?_, i2⟩, k⟩⟩⟩
        by_cases e' : i = y
        · rw [e'] at i2
          exact absurd i2.symm e
        · omega
theorem op_follows {w h sh mines thr r c x3 ag aw an mg mt mr P0 lg0 N0 ag0 tk0 q0 NN0 : Int} {near nearEnd mined number st ci un hi ch0 po0 rs0 uk0 ps0 cs0 mset0 sset0 pS0 ta0 as0 go0 gz0 links0 le0 pk0 gm0 gs0 nm mnear degree mine M us0 mpo0 pl0 sz0 ways0 wth0 ms0 mrs0 bt rc0 mo0 rea : Int → Int} {S0 nS0 : Int → Int64} (D : DE w h sh near nearEnd mined number st ci un hi mines) (E : ME w h sh mnear degree mine M mined number st) (h0 : ps0 0 = 0) (bt_ok : BT bt) (a : AR (w * h) ag aw an nm mg mt mr rea) :
    P_X11_follows (fun res _ _ _ _ _ _ _ _ _ ps' _ _ _ _ _ _ _ _ _ _ _ _ _ _ _ => P_X12_follows (fun b t _ _ _ _ _ _ _ _ _ _ _ _ => t = 0 ∧ b = res ∧ ps' 0 = 0) thr w h (w * h) 1 q0 NN0 mr mt mnear degree mine M us0 mpo0 pl0 sz0 ways0 wth0 ms0 mrs0 bt rc0 mo0 rea r c x3)
      (fun k _ _ _ _ _ _ _ _ _ ps' _ _ _ _ _ _ _ _ _ _ _ _ _ _ _ => P_X12_follows (fun _ t _ _ _ _ _ _ _ _ _ _ _ _ => t = k ∧ ps' 0 = 0) thr w h (w * h) 1 q0 NN0 mr mt mnear degree mine M us0 mpo0 pl0 sz0 ways0 wth0 ms0 mrs0 bt rc0 mo0 rea r c x3)
      1 mines w h (w * h) P0 lg0 N0 ag0 tk0 aw an number st ci un hi near nearEnd ch0 po0 rs0 uk0 ps0 cs0 mset0 sset0 pS0 ta0 as0 go0 gz0 links0 le0 pk0 gm0 gs0 S0 nS0 nm r c x3 := by
  have ok := D.1
  have geo := D.2.1
  have hm := D.2.2.1.1
  have hle := wh_le ok
  have hge := wh_ge ok
  have el := left_eq D E
  obtain ⟨a1, a2, a3, a4, a5, a6, a7⟩ := a
  subst a2 a4
  have cok : ChOk w h sh st (FCh w h sh st an nm) := fun n hn => hn.2
  have hnm : ∀ i, 0 ≤ i → i < an → 0 ≤ nm i ∧ nm i < w * h := fun i i0 i1 => (a7 i i0 i1).2
  have hb0 : x3 = 0 → iB (x3 = 0) = 1 := fun k => iB_t k
  have hb1 : ¬ x3 = 0 → iB (x3 = 0) = 0 := fun k => iB_f k
  -- the reference, up to its answer
  have ref : ∀ {post : Int → (Int) → (Int) → (Int) → (Int → Int) → (Int → Int) → (Int → Int) → (Int → Int) → (Int → Int) → (Int → Int) → (Int → Int) → (Int → Int) → (Int → Int) → (Int → Int) → Prop}, (¬ (0 ≤ r ∧ r < h ∧ 0 ≤ c ∧ c < w) → ∀ q N us po pl sz wy wt ms rs rc mo, post 0 2 q N us po pl sz wy wt ms rs rc mo) → ((0 ≤ r ∧ r < h ∧ 0 ≤ c ∧ c < w) → ¬ (st (r * w + c) ≤ 1 ∧ Fit w h sh st (FCh w h sh st an nm)) → ∀ q N us po pl sz wy wt ms rs rc mo, post 0 3 q N us po pl sz wy wt ms rs rc mo) → ((0 ≤ r ∧ r < h ∧ 0 ≤ c ∧ c < w) → st (r * w + c) ≤ 1 → Fit w h sh st (FCh w h sh st an nm) → ∀ v : Int, (v = 0 ∨ v = 1) → (v = 1 ↔ ¬ Pos w h sh st (Rn w h sh st mined) (FCh w h sh st an nm) (mines - ci 3) aw (r * w + c) (iB (x3 = 0))) → ∀ q N us po pl sz wy wt ms rs rc mo, post v 0 q N us po pl sz wy wt ms rs rc mo) → P_X12_follows post thr w h (w * h) 1 q0 NN0 an aw mnear degree mine M us0 mpo0 pl0 sz0 ways0 wth0 ms0 mrs0 bt rc0 mo0 rea r c x3 := by
    intro post k2 k3 k1
    unfold P_X12_follows
    refine s_hasM1 ok (fun hin _ => ⟨fun _ => ?_, fun z => absurd z (by decide)⟩) (fun hin _ => ⟨fun z => absurd rfl z, fun _ => k2 hin _ _ _ _ _ _ _ _ _ _ _ _⟩)
    have cr := rc_lt hin.1 hin.2.1 hin.2.2.1 hin.2.2.2
    rw [Int.mul_comm w r]
    refine ⟨by omega, fun cell ecell => ?_⟩
    subst ecell
    refine ⟨fun n x us => n = (w * h - x).toNat ∧ 0 ≤ x ∧ x ≤ w * h ∧ ∀ n, 0 ≤ n → n < x → us n = 0, ⟨_, rfl, by omega, by omega, fun n _ _ => by omega⟩, ?_⟩
    rintro n x us rx ⟨rfl, b1, b2, b3⟩
    refine ⟨fun z => ?_, fun z => ⟨by omega, fun us2 e2 => nx (by omega) ⟨_, ?_, rfl, by omega, by omega, fun n n0 n1 => ?_⟩⟩⟩
    rotate_left
    · omega
    · rw [e2]
      by_cases e : n = x
      · rw [e, upZ_s]
      · rw [upZ_n _ _ e]; exact b3 n n0 (by omega)
    refine ⟨fun n y us => n = (an - y).toNat ∧ 0 ≤ y ∧ y ≤ an ∧ ∀ n, 0 ≤ n → n < w * h → (us n = 0 ∨ us n = 1) ∧ (us n = 1 ↔ (∃ i, 0 ≤ i ∧ i < y ∧ nm i = n) ∧ st n = 2), ⟨_, rfl, by omega, by omega, fun n n0 n1 => ?_⟩, ?_⟩
    · rw [b3 n n0 (by omega)]
      exact ⟨Or.inl rfl, ⟨fun y => absurd y (by decide), fun ⟨⟨i, y⟩, _⟩ => by omega⟩⟩
    rintro n y us1 ry ⟨rfl, d1, d2, d3⟩
    refine ⟨fun z1 => ?_, fun z1 => ?_⟩
    · have ey : y = an := by omega
      subst ey
      have uk : UsOk w h sh st us1 (FCh w h sh st y nm) := by
        intro n n0 n1
        obtain ⟨q1, q2⟩ := d3 n n0 n1
        refine ⟨q1, fun k => (q2.1 k).2, ⟨fun k => ⟨q2.2 ⟨k.1, k.2.2.1⟩, k.2.2.2⟩, fun k => ⟨(q2.1 k.1).1, ⟨n0, n1⟩, (q2.1 k.1).2, k.2⟩⟩⟩
      refine s_unkM E cr (fun u hu iu _ => ⟨fun q N po pl sz ways wth ms rs => ¬ (st (r * w + c) ≤ 1 ∧ Fit w h sh st (FCh w h sh st y nm)), ⟨fun z2 k => ?_, fun z2 => ?_⟩, fun q N po pl sz ways wth ms rs nk => ?_⟩)
      · have := iu.2 k.1
        omega
      · have hu1 := iu.1 (hu.resolve_left z2)
        refine s_countPartsM E uk cok bt_ok (fun fits q N po pl sz ways wth ms rs cm hf => ⟨fun z3 => ?_, fun z3 k => ?_⟩)
        · have f1 := hf.resolve_left z3
          have ft := cm.1.fit.1 f1
          have last : ∀ zz : Int, (zz = 0 ∨ zz = 1) → zz = iB (x3 = 0) → (zz = 0 ∨ zz = 1) ∧ (P_X12_isPossible (fun (c_61 : Int) (M_reach_62 : Int → Int) (M_more_63 : Int → Int) => (c_61 = 0 ∨ c_61 = 1) → (∃ J_64 : (Int) → Prop, ((¬ c_61 = 0 → (J_64 0)) ∧ (c_61 = 0 → (J_64 1))) ∧ (∀ (z_66 : Int), inR z_66 → J_64 z_66 → ((z_66 = 0 ∨ z_66 = 1) ∧ (post z_66 0 q N us1 po pl sz ways wth ms rs M_reach_62 M_more_63))))) (w * h) q mine M po pl sz ways wth rc0 mo0 (r * w + c) zz aw) := by
            intro zz h01 ez
            refine ⟨h01, s_isPossibleM E cok cm f1 cr hu1 h01 (fun v rc mo o1 o2 _ => ?_)⟩
            rw [el, ez] at o2
            refine exJi ⟨fun z4 _ => ⟨Or.inl rfl, k1 hin hu1 ft 0 (Or.inl rfl) ⟨fun q => absurd q (by decide), fun q => absurd (o2.1 (o1.resolve_left z4)) q⟩ _ _ _ _ _ _ _ _ _ _ _ _⟩, fun z4 _ => ⟨Or.inr rfl, k1 hin hu1 ft 1 (Or.inr rfl) ⟨fun _ q => ?_, fun _ => rfl⟩ _ _ _ _ _ _ _ _ _ _ _ _⟩⟩
            have := o2.2 q
            rw [z4] at this
            exact absurd this (by decide)
          exact exJi ⟨fun z4 _ => last 0 (Or.inl rfl) (hb1 z4).symm, fun z4 _ => last 1 (Or.inr rfl) (hb0 z4).symm⟩
        · have := cm.1.fit.2 k.2
          rw [z3] at this
          exact absurd this (by decide)
      · refine s_failM (fun _ => exJi ⟨fun _ _ => ⟨Or.inl rfl, k3 hin nk _ _ _ _ _ _ _ _ _ _ _ _⟩, fun z3 => absurd (Int.le_refl 0) z3⟩)
    · have e := a7 y d1 (by omega)
      refine ⟨by omega, fun v ev rv => ⟨by omega, fun v2 ev2 rv2 => ?_⟩⟩
      rw [← e.1] at ev ev2
      subst ev ev2
      have sx := E.2.2.2.2.2.1 (nm y) e.2.1 e.2.2
      have go : ∀ z : Int, (z = 0 ∨ z = 1) → (z = 1 ↔ st (nm y) = 2) → ((0 ≤ nm y ∧ nm y < 144) ∧ ((z = 0 ∨ z = 1) ∧ (∀ M_used_81 : Int → Int, M_used_81 = upZ us1 (nm y) z → (inR (y + 1) ∧ (∀ x5_83 : Int, x5_83 = (y + 1) → (∃ n_84 : Nat, n_84 < (an - y).toNat ∧ (n_84 = (an - x5_83).toNat ∧ 0 ≤ x5_83 ∧ x5_83 ≤ an ∧ ∀ n, 0 ≤ n → n < w * h → (M_used_81 n = 0 ∨ M_used_81 n = 1) ∧ (M_used_81 n = 1 ↔ (∃ i, 0 ≤ i ∧ i < x5_83 ∧ nm i = n) ∧ st n = 2)))))))) := by
        intro z h1 h2
        refine ⟨by omega, h1, fun us3 e3 => nx (by omega) ⟨_, ?_, rfl, by omega, by omega, fun n n0 n1 => ?_⟩⟩
        · omega
        · rw [e3]
          by_cases e : n = nm y
          · subst e
            rw [upZ_s]
            exact ⟨h1, h2.trans ⟨fun k => ⟨⟨y, d1, by omega, rfl⟩, k⟩, fun k => k.2⟩⟩
          · rw [upZ_n _ _ e]
            obtain ⟨q1, q2⟩ := d3 n n0 n1
            refine ⟨q1, q2.trans ⟨fun ⟨⟨i, i0, i1, i2⟩, k⟩ => ⟨⟨i, i0, by omega, i2⟩, k⟩, fun ⟨⟨i, i0, i1, i2⟩, k⟩ => ⟨⟨i, i0, ?_, i2⟩, k⟩⟩⟩
            by_cases e' : i = y
            · rw [e'] at i2
              exact absurd i2.symm e
            · omega
      refine ⟨by omega, fun v3 e3 r3 => exJi ⟨fun z2 _ => go 0 (Or.inl rfl) ⟨fun q => absurd q (by decide), fun q => ?_⟩, fun z2 _ => go 1 (Or.inr rfl) ⟨fun _ => ?_, fun _ => rfl⟩⟩⟩
      · rw [q] at sx
        have : tr 2 = 1 := by decide
        omega
      · have e1 : tr (st (nm y)) = 1 := by omega
        have := tr_tr (st (nm y))
        rw [e1] at this
        exact this.symm
  unfold P_X11_follows
  refine s_cellAt1 ok (fun hin _ => ?_) (fun hin => ref (fun _ _ _ _ _ _ _ _ _ _ _ _ _ => ⟨rfl, h0⟩) (fun k => absurd k hin) (fun k => absurd k hin))
  have cr := rc_lt hin.1 hin.2.1 hin.2.2.1 hin.2.2.2
  refine s_isUnknownC ⟨by omega, by omega⟩ (fun u hu iu _ => ⟨fun z => ?_, fun z => ref (fun k => absurd hin k) (fun _ _ _ _ _ _ _ _ _ _ _ _ _ _ => ⟨rfl, h0⟩) (fun _ k => by have := iu.2 k; omega)⟩)
  have hu1 := iu.1 (hu.resolve_left z)
  refine s_chooseNumbers D a5 hnm (fun ch hch => s_split ok geo D.2.2.1 D.2.2.2.1 cok hch h0 (fun P lg po rs uk ps cs bs => s_isTooLong (fun hl _ => ⟨fun _ => ?_, fun z => absurd rfl z⟩) (fun hl _ => ⟨fun z => absurd z (by decide), fun _ => ?_⟩)))
  · have ft := (bs.fit ok cok).1 hl
    refine s_isSure D cok hch bs hl cr hu1 hb0 hb1 (fun v N ag tk ms ss pS ta as go gz lk le pk gm gs S nS h01 iv _ => ref (fun k => absurd hin k) (fun _ k => absurd ⟨hu1, ft⟩ k) (fun _ _ _ v2 o1 o2 _ _ _ _ _ _ _ _ _ _ _ _ => ⟨rfl, ?_, bs.1.1.2.1⟩))
    by_cases k : Pos w h sh st (Rn w h sh st mined) (FCh w h sh st an nm) (mines - ci 3) aw (r * w + c) (iB (x3 = 0))
    · have n1 : ¬ v = 1 := fun q => iv.1 q k
      have n2 : ¬ v2 = 1 := fun q => o2.1 q k
      rw [h01.resolve_right n1, o1.resolve_right n2]
    · rw [iv.2 k, o2.2 k]
  · have nf : ¬ Fit w h sh st (FCh w h sh st an nm) := fun k => hl ((bs.fit ok cok).2 k)
    exact ref (fun k => absurd hin k) (fun _ _ _ _ _ _ _ _ _ _ _ _ _ _ => ⟨rfl, bs.1.1.2.1⟩) (fun _ _ k => absurd k nf)
