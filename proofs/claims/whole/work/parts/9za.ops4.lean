/-! ways, share and permille on both sides -/
theorem s_tooLongD {w h sh mines P0 lg0 : Int} {near nearEnd mined number st ci un hi ch0 po0 rs0 uk0 ps0 cs0 : Int → Int} {post : Int → (Int) → (Int) → (Int → Int) → (Int → Int) → (Int → Int) → (Int → Int) → (Int → Int) → (Int → Int) → Prop} (D : DE w h sh near nearEnd mined number st ci un hi mines) (h0 : ps0 0 = 0)
    (hp : ∀ (u P lg : Int) (ch po rs uk ps cs : Int → Int), (u = 0 ∨ u = 1) → (u = 0 ↔ lg ≤ 16) → (∀ c, 0 ≤ c → c < w * h → (ch c = 0 ∨ ch c = 1) ∧ (ch c = 1 ↔ AllCh w h sh st c)) → BS w h sh st number hi un (AllCh w h sh st) P lg po rs uk ps cs → (lg ≤ 16 ↔ Fit w h sh st (AllCh w h sh st)) → ps 0 = 0 → post u P lg ch po rs uk ps cs) : P_X11_isBorderTooLong post (w * h) P0 lg0 number st un hi near nearEnd ch0 po0 rs0 uk0 ps0 cs0 := by
  have ok := D.1
  have cok : ChOk w h sh st (AllCh w h sh st) := AllCh.ok
  unfold P_X11_isBorderTooLong
  refine s_chooseAll D (fun ch hch => s_split ok D.2.1 D.2.2.1 D.2.2.2.1 cok hch h0 (fun P lg po rs uk ps cs b => s_isTooLongC (fun u u01 iu => ?_)))
  intro _
  exact hp u P lg ch po rs uk ps cs u01 iu hch b (b.fit ok cok) (b.facts ok cok).1.2.2.1
theorem s_weighUnk {w h sh mines c P0 lg0 N0 ag0 tk0 xl0 xh0 yl0 yh0 : Int} {near nearEnd mined number st ci un hi ch0 po0 rs0 uk0 ps0 cs0 ms0 ss0 pS0 ta0 as0 go0 gz0 li0 le0 pk0 gm0 gs0 : Int → Int} {qm0 qa0 qc0 qt0 xb0 xs0 yb0 ys0 : Int → Int64} {post : (Int) → (Int) → (Int) → (Int) → (Int) → (Int) → (Int) → (Int) → (Int) → (Int → Int) → (Int → Int) → (Int → Int) → (Int → Int) → (Int → Int) → (Int → Int) → (Int → Int) → (Int → Int) → (Int → Int) → (Int → Int) → (Int → Int) → (Int → Int) → (Int → Int) → (Int → Int) → (Int → Int) → (Int → Int) → (Int → Int) → (Int → Int) → (Int → Int64) → (Int → Int64) → (Int → Int64) → (Int → Int64) → (Int → Int64) → (Int → Int64) → (Int → Int64) → (Int → Int64) → Prop} {px : Int → (Int) → (Int) → (Int) → (Int) → (Int) → (Int) → (Int) → (Int) → (Int) → (Int → Int) → (Int → Int) → (Int → Int) → (Int → Int) → (Int → Int) → (Int → Int) → (Int → Int) → (Int → Int) → (Int → Int) → (Int → Int) → (Int → Int) → (Int → Int) → (Int → Int) → (Int → Int) → (Int → Int) → (Int → Int) → (Int → Int) → (Int → Int) → (Int → Int64) → (Int → Int64) → (Int → Int64) → (Int → Int64) → (Int → Int64) → (Int → Int64) → (Int → Int64) → (Int → Int64) → Prop} (D : DE w h sh near nearEnd mined number st ci un hi mines) (h0 : ps0 0 = 0) (hc : 0 ≤ c ∧ c < w * h)
    (k0 : ∀ (ls : List (List Int)) (P1 lg1 N1 ag1 tk1 xl1 xh1 yl1 yh1 : Int) (ch1 po1 rs1 uk1 ps1 cs1 ms1 ss1 pS1 ta1 as1 go1 gz1 li1 le1 pk1 gm1 gs1 : Int → Int) (qm1 qa1 qc1 qt1 xb1 xs1 yb1 ys1 : Int → Int64), (st c ≤ 1 → Fit w h sh st (AllCh w h sh st) → PLs w h sh st (AllCh w h sh st) ls ∧ SU (NWe w h sh st (Rn w h sh st mined) (AllCh w h sh st) ls (fun _ => 1)) (mines - ci 3) (FrL w h sh st (AllCh w h sh st)).length = 0) → ps1 0 = 0 → px 3 P1 lg1 N1 ag1 tk1 xl1 xh1 yl1 yh1 ch1 po1 rs1 uk1 ps1 cs1 ms1 ss1 pS1 ta1 as1 go1 gz1 li1 le1 pk1 gm1 gs1 qm1 qa1 qc1 qt1 xb1 xs1 yb1 ys1)
    (k1 : ∀ (ls : List (List Int)) (P1 lg1 N1 ag1 tk1 xl1 xh1 yl1 yh1 : Int) (ch1 po1 rs1 uk1 ps1 cs1 ms1 ss1 pS1 ta1 as1 go1 gz1 li1 le1 pk1 gm1 gs1 : Int → Int) (qm1 qa1 qc1 qt1 xb1 xs1 yb1 ys1 : Int → Int64) (M A : Int), st c ≤ 1 → Fit w h sh st (AllCh w h sh st) → PLs w h sh st (AllCh w h sh st) ls → NW6 qm1 M → NW6 qa1 A → WG w h sh st (Rn w h sh st mined) (AllCh w h sh st) ls (mines - ci 3) (FrL w h sh st (AllCh w h sh st)).length c M A → ¬ A = 0 → ps1 0 = 0 → post P1 lg1 N1 ag1 tk1 xl1 xh1 yl1 yh1 ch1 po1 rs1 uk1 ps1 cs1 ms1 ss1 pS1 ta1 as1 go1 gz1 li1 le1 pk1 gm1 gs1 qm1 qa1 qc1 qt1 xb1 xs1 yb1 ys1) :
    P_X11_weighUnknown post px mines (w * h) P0 lg0 N0 ag0 tk0 xl0 xh0 yl0 yh0 number st ci un hi near nearEnd ch0 po0 rs0 uk0 ps0 cs0 ms0 ss0 pS0 ta0 as0 go0 gz0 li0 le0 pk0 gm0 gs0 qm0 qa0 qc0 qt0 xb0 xs0 yb0 ys0 c := by
  have ok := D.1
  have hle := wh_le ok
  have cok : ChOk w h sh st (AllCh w h sh st) := AllCh.ok
  unfold P_X11_weighUnknown
  refine s_isUnknownC (by omega) (fun u u01 iu => ?_)
  intro _
  refine ⟨fun z => k0 [] _ _ _ _ _ _ _ _ _ _ _ _ _ _ _ _ _ _ _ _ _ _ _ _ _ _ _ _ _ _ _ _ _ _ _ (fun k => by have := iu.2 k; rw [z] at this; exact absurd this (by decide)) h0, fun z => ?_⟩
  have hu := iu.1 (u01.resolve_left z)
  clear iu
  refine s_tooLongD D h0 (fun v P lg ch po rs uk ps cs v01 iv hch b fit p0 => ?_)
  intro _
  refine ⟨fun z2 => ?_, fun z2 => k0 [] _ _ _ _ _ _ _ _ _ _ _ _ _ _ _ _ _ _ _ _ _ _ _ _ _ _ _ _ _ _ _ _ _ _ _ (fun _ k => absurd (iv.2 (fit.2 k)) z2) p0⟩
  have hlg := iv.1 z2
  clear iv
  have pl := b.pls ok cok
  refine s_weigh D cok hch b hlg (Or.inr ⟨hc, hu⟩) (fun N2 ag2 tk2 xl2 xh2 yl2 yh2 mset2 sset2 pS2 ta2 as2 go2 gz2 links2 le2 pk2 gm2 gs2 qm2 qa2 qc2 qt2 xb2 xs2 yb2 ys2 M A hM hA wg => ?_)
  refine s_isZero hA (fun y y01 iy => ?_)
  intro _
  refine ⟨fun z3 => k1 (CLs P ps cs) _ _ _ _ _ _ _ _ _ _ _ _ _ _ _ _ _ _ _ _ _ _ _ _ _ _ _ _ _ _ _ _ _ _ _ M A hu (fit.1 hlg) pl hM hA wg (fun r => by have := iy.2 r; rw [z3] at this; exact absurd this (by decide)) p0, fun z3 => k0 (CLs P ps cs) _ _ _ _ _ _ _ _ _ _ _ _ _ _ _ _ _ _ _ _ _ _ _ _ _ _ _ _ _ _ _ _ _ _ _ (fun _ _ => ⟨pl, ?_⟩) p0⟩
  have A0 := iy.1 (y01.resolve_left z3)
  clear iy
  by_cases q : Bd w h sh st (AllCh w h sh st) c
  · rw [← (wg.2.1 q).2]; exact A0
  · obtain ⟨m, em, _, g2⟩ := wg.2.2 (by omega) q
    rw [A0] at g2
    rcases Int.mul_eq_zero.1 g2.symm with r | r
    · exact r
    · omega
theorem s_waysLoop {g : Int → Int64} {v : Int} {post : Int → Prop} (h : NW6 (rw6 g 435) v) (hp : post (v % 1000000007)) : ∃ Inv_16 : Nat → (Int64) → (Int) → Prop, (∃ n_17 : Nat, Inv_16 n_17 (0 : Int64) 5) ∧ ∀ (n_18 : Nat) (x1_21 : Int64) (x3_22 : Int), inR x3_22 → Inv_16 n_18 x1_21 x3_22 → ((x3_22 < 0 → (post (l2I x1_21))) ∧ (¬ x3_22 < 0 → ((0 ≤ (2610 + x3_22) ∧ (2610 + x3_22) < 2700) ∧ (∀ v_25 : Int64, v_25 = g (2610 + x3_22) → (¬ (1000000007 : Int64) = 0 ∧ (∀ x1_27 : Int64, x1_27 = (((x1_21 * (2147483648 : Int64)) + v_25) - ((x1_21 * (2147483648 : Int64)) + v_25) / (1000000007 : Int64) * (1000000007 : Int64)) → (inR (x3_22 + (-1)) ∧ (∀ x3_29 : Int, x3_29 = (x3_22 + (-1)) → (∃ n_30 : Nat, n_30 < n_18 ∧ Inv_16 n_30 x1_27 x3_29))))))))) := by
  refine ⟨fun n r x => n = (x + 1).toNat ∧ -1 ≤ x ∧ x ≤ 5 ∧ r.toInt = VS (rw6 g 435) (x + 1) (5 - x).toNat % 1000000007, ⟨_, rfl, by omega, by omega, rfl⟩, ?_⟩
  rintro n r x rx ⟨rfl, b1, b2, b3⟩
  have m0 := Int.emod_nonneg (VS (rw6 g 435) (x + 1) (5 - x).toNat) (show (1000000007 : Int) ≠ 0 by omega)
  have ml := Int.emod_lt_of_pos (VS (rw6 g 435) (x + 1) (5 - x).toNat) (show (0 : Int) < 1000000007 by omega)
  refine ⟨fun z => ?_, fun z => ⟨by omega, fun a ea => ⟨by decide, fun r2 er2 => ⟨by omega, fun x2 ex2 => ⟨_, ?_, rfl, by omega, by omega, ?_⟩⟩⟩⟩⟩
  · have ex : x = -1 := by omega
    subst ex
    have e : VS (rw6 g 435) (-1 + 1) (5 - -1 : Int).toNat = v := h.2
    rw [e] at b3
    rw [l2I_tI (by omega) (by omega), b3]
    exact hp
  · omega
  · have ea' : a = rw6 g 435 x := ea
    have la := h.limb (i := x) (by omega) (by omega)
    rw [← ea'] at la
    have t1 : (r * (2147483648 : Int64)).toInt = r.toInt * 2147483648 := by
      rw [tI_mul (by rw [show (2147483648 : Int64).toInt = 2147483648 from rfl]; exact ⟨by omega, by omega⟩)]
      rfl
    have t2 : (r * (2147483648 : Int64) + a).toInt = r.toInt * 2147483648 + a.toInt := by rw [tI_add (by rw [t1]; exact ⟨by omega, by omega⟩), t1]
    have m := tI_rem (x := r * (2147483648 : Int64) + a) (y := 1000000007) (by omega) (by decide)
    rw [show (1000000007 : Int64).toInt = 1000000007 from rfl, t2] at m
    rw [er2, m, ex2, show x + -1 + 1 = x by omega, show (5 - (x + -1)).toNat = (5 - x).toNat + 1 by omega, VS.cons, ← ea', b3]
    rw [Int.add_comm a.toInt, Int.add_emod, Int.mul_emod, Int.emod_emod, ← Int.mul_emod, ← Int.add_emod]
theorem WG.ex {w h sh left c M A : Int} {n : Nat} {st R : Int → Int} {Ch : Int → Prop} {ls : List (List Int)} (g : WG w h sh st R Ch ls left n c M A) (hc : ¬ c = -1) : ∃ U, URl w h sh st R Ch ls left n c U := by
  by_cases b : Bd w h sh st Ch c
  · exact ⟨_, fun _ => rfl, fun q => absurd b q⟩
  · obtain ⟨m, em, _, _⟩ := g.2.2 hc b
    exact ⟨_, fun q => absurd q b, fun _ => ⟨m, em, rfl⟩⟩
theorem URl.uniq {w h sh left c U V : Int} {n : Nat} {st R : Int → Int} {Ch : Int → Prop} {ls : List (List Int)} (u : URl w h sh st R Ch ls left n c U) (v : URl w h sh st R Ch ls left n c V) : U = V := by
  by_cases b : Bd w h sh st Ch c
  · rw [u.1 b, v.1 b]
  · obtain ⟨m, em, e1⟩ := u.2 b
    obtain ⟨m', em', e2⟩ := v.2 b
    have : m' = m := by omega
    subst this
    rw [e1, e2]
theorem op_ways {w h sh mines thr q0 NN0 P0 lg0 N0 ag0 tk0 xl0 xh0 yl0 yh0 : Int} {near nearEnd mined number st ci un hi ch0 po0 rs0 uk0 ps0 cs0 ms0 ss0 pS0 ta0 as0 go0 gz0 li0 le0 pk0 gm0 gs0 mnear degree mine M mus mpo mpl msz mwy mwt mmk mrs bt : Int → Int} {qm0 qa0 qc0 qt0 xb0 xs0 yb0 ys0 big : Int → Int64} (D : DE w h sh near nearEnd mined number st ci un hi mines) (E : ME w h sh mnear degree mine M mined number st) (h0 : ps0 0 = 0) (bt_ok : BT bt) :
    P_X11_ways (fun res _ _ _ _ _ _ _ _ _ _ _ _ _ ps' _ _ _ _ _ _ _ _ _ _ _ _ _ _ _ _ _ _ _ _ _ => P_X12_ways (fun b t _ _ _ _ _ _ _ _ _ _ _ => t = 0 ∧ b = res ∧ ps' 0 = 0) thr (w * h) 1 q0 NN0 mnear degree mine M mus mpo mpl msz mwy mwt mmk mrs bt big) (fun _ _ _ _ _ _ _ _ _ _ _ _ _ _ _ _ _ _ _ _ _ _ _ _ _ _ _ _ _ _ _ _ _ _ _ _ => False)
      1 mines (w * h) P0 lg0 N0 ag0 tk0 xl0 xh0 yl0 yh0 number st ci un hi near nearEnd ch0 po0 rs0 uk0 ps0 cs0 ms0 ss0 pS0 ta0 as0 go0 gz0 li0 le0 pk0 gm0 gs0 qm0 qa0 qc0 qt0 xb0 xs0 yb0 ys0 := by
  have ok := D.1
  have cok : ChOk w h sh st (AllCh w h sh st) := AllCh.ok
  have el := left_eq D E
  unfold P_X11_ways
  refine s_needBoard1 ?_
  refine s_tooLongD D h0 (fun u P lg ch po rs uk ps cs u01 iu hch b fit p0 => ?_)
  intro _
  refine ⟨fun z => ?_, fun z => ?_⟩
  · have hlg := iu.1 z
    have pl := b.pls ok cok
    refine s_weigh D cok hch b hlg (Or.inl rfl) (fun N2 ag2 tk2 xl2 xh2 yl2 yh2 mset2 sset2 pS2 ta2 as2 go2 gz2 links2 le2 pk2 gm2 gs2 qm2 qa2 qc2 qt2 xb2 xs2 yb2 ys2 M A hM hA wg => ?_)
    refine s_remainder hA (by omega) (fun r hr => ?_)
    have m0 := Int.emod_nonneg A (show (1000000007 : Int) ≠ 0 by omega)
    have ml := Int.emod_lt_of_pos A (show (0 : Int) < 1000000007 by omega)
    rw [l2I_tI (by omega) (by omega), hr, wg.1 rfl]
    unfold P_X12_ways
    refine ⟨fun _ => ?_, fun k => absurd k (by decide)⟩
    refine s_countAllM (ls := CLs P ps cs) E bt_ok (fun q N us po2 pl2 sz2 wy2 wt2 mk2 rs2 nf => absurd (fit.1 hlg) nf) (fun q N us po2 pl2 sz2 wy2 wt2 mk2 rs2 g1 _ cm tabs => ?_)
    intro _
    refine ⟨fun _ => ?_, fun k => absurd k (by decide)⟩
    obtain ⟨_, h1⟩ := tabs pl
    rw [el] at h1
    exact s_waysLoop (post := fun b => (0 : Int) = 0 ∧ b = _ ∧ ps 0 = 0) h1 ⟨rfl, rfl, p0⟩
  · have nf : ¬ Fit w h sh st (AllCh w h sh st) := fun k => z (iu.2 (fit.2 k))
    unfold P_X12_ways
    refine ⟨fun _ => ?_, fun k => absurd k (by decide)⟩
    refine s_countAllM (ls := []) E bt_ok (fun q N us po2 pl2 sz2 wy2 wt2 mk2 rs2 _ => ?_) (fun q N us po2 pl2 sz2 wy2 wt2 mk2 rs2 g1 f _ _ => absurd f nf)
    intro _
    exact ⟨fun k => absurd rfl k, fun _ => ⟨rfl, rfl, p0⟩⟩
theorem op_permille {w h sh mines thr r c q0 NN0 P0 lg0 N0 ag0 tk0 xl0 xh0 yl0 yh0 : Int} {near nearEnd mined number st ci un hi ch0 po0 rs0 uk0 ps0 cs0 ms0 ss0 pS0 ta0 as0 go0 gz0 li0 le0 pk0 gm0 gs0 mnear degree mine M mus mpo mpl msz mwy mwt mmk mrs bt : Int → Int} {qm0 qa0 qc0 qt0 xb0 xs0 yb0 ys0 qs0 big : Int → Int64} (D : DE w h sh near nearEnd mined number st ci un hi mines) (E : ME w h sh mnear degree mine M mined number st) (h0 : ps0 0 = 0) (bt_ok : BT bt) :
    P_X11_permille (fun res _ _ _ _ _ _ _ _ _ _ _ _ _ ps' _ _ _ _ _ _ _ _ _ _ _ _ _ _ _ _ _ _ _ _ _ _ => P_X12_permille (fun b t _ _ _ _ _ _ _ _ _ _ _ => t = 0 ∧ b = res ∧ ps' 0 = 0) thr w h (w * h) 1 q0 NN0 mnear degree mine M mus mpo mpl msz mwy mwt mmk mrs bt big r c) (fun k _ _ _ _ _ _ _ _ _ _ _ _ _ ps' _ _ _ _ _ _ _ _ _ _ _ _ _ _ _ _ _ _ _ _ _ _ => P_X12_permille (fun _ t _ _ _ _ _ _ _ _ _ _ _ => t = k ∧ ps' 0 = 0) thr w h (w * h) 1 q0 NN0 mnear degree mine M mus mpo mpl msz mwy mwt mmk mrs bt big r c)
      1 mines w h (w * h) P0 lg0 N0 ag0 tk0 xl0 xh0 yl0 yh0 number st ci un hi near nearEnd ch0 po0 rs0 uk0 ps0 cs0 ms0 ss0 pS0 ta0 as0 go0 gz0 li0 le0 pk0 gm0 gs0 qm0 qa0 qc0 qt0 qs0 xb0 xs0 yb0 ys0 r c := by
  have ok := D.1
  have hle := wh_le ok
  have hge := wh_ge ok
  have el := left_eq D E
  have p144 := pw144
  unfold P_X11_permille
  refine s_cellAt1 ok (fun hin => ?_) (fun hin => ?_)
  · have cr := rc_lt hin.1 hin.2.1 hin.2.2.1 hin.2.2.2
    intro _
    refine s_weighUnk D h0 cr (fun ls P1 lg1 N1 ag1 tk1 xl1 xh1 yl1 yh1 ch1 po1 rs1 uk1 ps1 cs1 ms1 ss1 pS1 ta1 as1 go1 gz1 li1 le1 pk1 gm1 gs1 qm1 qa1 qc1 qt1 xb1 xs1 yb1 ys1 nz p0 => ?_) (fun ls P1 lg1 N1 ag1 tk1 xl1 xh1 yl1 yh1 ch1 po1 rs1 uk1 ps1 cs1 ms1 ss1 pS1 ta1 as1 go1 gz1 li1 le1 pk1 gm1 gs1 qm1 qa1 qc1 qt1 xb1 xs1 yb1 ys1 Mv Av hu fit pl hM hA wg A0 p0 => ?_)
    · unfold P_X12_permille
      refine s_hasM1 ok (fun _ => ?_) (fun k => absurd hin k)
      intro _
      refine ⟨fun _ => ?_, fun k => absurd k (by decide)⟩
      rw [Int.mul_comm w r]
      refine ⟨by omega, ?_⟩
      refine s_hasShareM (ls := ls) E bt_ok cr (fun a b => (nz a b).1) (fun q N us po2 pl2 sz2 wy2 wt2 mk2 rs2 g1 _ => ?_) (fun q N us po2 pl2 sz2 wy2 wt2 mk2 rs2 g1 U a b nn _ _ _ => absurd (by rw [el]; exact (nz a b).2) nn)
      intro _
      exact ⟨fun k => absurd rfl k, fun _ => s_failM (fun _ => ⟨rfl, p0⟩)⟩
    · have wh0 : 0 ≤ w * h := by omega
      have len := PLs_len pl wh0
      have hl : ls.flatten.length + (FrL w h sh st (AllCh w h sh st)).length ≤ 144 := by omega
      have Ab := hA.b
      obtain ⟨U, hU⟩ := wg.ex (by omega)
      obtain ⟨k, k1, k2, eM, eA, U0, US, S144⟩ := wg.frac hl (by omega) hU
      generalize eS : SU (NWe w h sh st (Rn w h sh st mined) (AllCh w h sh st) ls (fun _ => 1)) (mines - ci 3) (FrL w h sh st (AllCh w h sh st)).length = S at *
      have S0 : ¬ S = 0 := fun r => A0 (by rw [eA, r, Int.zero_mul])
      have Sp : 0 < S := by omega
      have pp := pw2_pos 144
      have Ab : Av ≤ pw2 144 * 144 := by rw [eA]; exact Int.mul_le_mul S144 k2 (by omega) (by omega)
      have MA : Mv ≤ Av := by rw [eM, eA]; exact Int.mul_le_mul_of_nonneg_right US (by omega)
      have Ap : 0 < Av := by rw [eA]; exact Int.mul_pos Sp (by omega)
      have val : Mv * 1000 / Av = 1000 * U / S := by
        rw [eM, eA, show U * k * 1000 = 1000 * U * k by rw [Int.mul_comm (U * k), Int.mul_assoc]]
        exact Int.mul_ediv_mul_of_pos_left _ _ (by omega)
      refine s_ofThousand hM hA Ap (by omega) (by omega) MA (fun m' t' s' => ?_)
      intro _
      rw [val]
      unfold P_X12_permille
      refine s_hasM1 ok (fun _ => ?_) (fun k => absurd hin k)
      intro _
      refine ⟨fun _ => ?_, fun k => absurd k (by decide)⟩
      rw [Int.mul_comm w r]
      refine ⟨by omega, ?_⟩
      refine s_hasShareM (ls := ls) E bt_ok cr (fun _ _ => pl) (fun q N us po2 pl2 sz2 wy2 wt2 mk2 rs2 g1 nn => absurd ⟨hu, fit, by rw [el, eS]; exact S0⟩ nn) (fun q N us po2 pl2 sz2 wy2 wt2 mk2 rs2 g1 U' _ _ _ hDn hUp hU' => ?_)
      rw [el] at hU' hDn
      rw [eS] at hDn
      have eU : U' = U := hU'.uniq hU
      subst eU
      intro _
      refine ⟨fun _ => ?_, fun k => absurd k (by decide)⟩
      refine s_putM (by omega) (by decide) (fun g2 f2 h2 => ?_)
      have t1000 : (1000 : Int64).toInt = 1000 := rfl
      have z0 : (0 : Int64).toInt = 0 := rfl
      refine s_addM (by omega) (by omega) (by omega) h2 (f2.row (by omega) hUp) (by decide) (by rw [t1000, z0]; omega) (fun g3 f3 h3 => ?_)
      rw [t1000, z0, Int.zero_add] at h3
      refine s_divideBy (by omega) (by omega) (by omega) (by omega) (by omega) h3 (f3.row (by omega) (f2.row (by omega) hDn)) Sp (by omega) (fun g4 f4 h4 _ => ?_)
      intro v ev
      have ev' : v = rw6 g4 437 0 := ev
      have q0' : 0 ≤ 1000 * U' / S := Int.ediv_nonneg (by omega) (by omega)
      have q1' : 1000 * U' / S < 1001 := Int.ediv_lt_of_lt_mul Sp (by omega)
      have e : v.toInt = 1000 * U' / S := by
        rw [ev', VS.limb h4.1 (by omega) (by omega), h4.2]
        show 1000 * U' / S / 1 % 2147483648 = _
        rw [Int.ediv_one, Int.emod_eq_of_lt q0' (by omega)]
      rw [l2I_tI (by omega) (by omega), e]
      exact ⟨rfl, rfl, p0⟩
  · unfold P_X12_permille
    refine s_hasM1 ok (fun k => absurd k hin) (fun _ => ?_)
    intro _
    exact ⟨fun k => absurd rfl k, fun _ => ⟨rfl, h0⟩⟩
