/-! share on both sides -/
theorem op_share {w h sh mines thr r c x3 x4 q0 NN0 P0 lg0 N0 ag0 tk0 xl0 xh0 yl0 yh0 : Int} {near nearEnd mined number st ci un hi ch0 po0 rs0 uk0 ps0 cs0 ms0 ss0 pS0 ta0 as0 go0 gz0 li0 le0 pk0 gm0 gs0 mnear degree mine M mus mpo mpl msz mwy mwt mmk mrs bt : Int → Int} {qm0 qa0 qc0 qt0 xb0 xs0 yb0 ys0 qd0 qs0 big : Int → Int64} (D : DE w h sh near nearEnd mined number st ci un hi mines) (E : ME w h sh mnear degree mine M mined number st) (h0 : ps0 0 = 0) (bt_ok : BT bt) :
    P_X11_share (fun res _ _ _ _ _ _ _ _ _ _ _ _ _ ps' _ _ _ _ _ _ _ _ _ _ _ _ _ _ _ _ _ _ _ _ _ _ _ => P_X12_share (fun b t _ _ _ _ _ _ _ _ _ _ _ => t = 0 ∧ b = res ∧ ps' 0 = 0) thr w h (w * h) 1 q0 NN0 mnear degree mine M mus mpo mpl msz mwy mwt mmk mrs bt big r c x3 x4) (fun k _ _ _ _ _ _ _ _ _ _ _ _ _ ps' _ _ _ _ _ _ _ _ _ _ _ _ _ _ _ _ _ _ _ _ _ _ _ => P_X12_share (fun _ t _ _ _ _ _ _ _ _ _ _ _ => t = k ∧ ps' 0 = 0) thr w h (w * h) 1 q0 NN0 mnear degree mine M mus mpo mpl msz mwy mwt mmk mrs bt big r c x3 x4)
      1 mines w h (w * h) P0 lg0 N0 ag0 tk0 xl0 xh0 yl0 yh0 number st ci un hi near nearEnd ch0 po0 rs0 uk0 ps0 cs0 ms0 ss0 pS0 ta0 as0 go0 gz0 li0 le0 pk0 gm0 gs0 qm0 qa0 qc0 qt0 qd0 qs0 xb0 xs0 yb0 ys0 r c x3 x4 := by
  have ok := D.1
  have hle := wh_le ok
  have hge := wh_ge ok
  have el := left_eq D E
  have p144 := pw144
  unfold P_X11_share
  refine s_cellAt1 ok (fun hin => ?_) (fun hin => ?_)
  rotate_left
  · unfold P_X12_share
    refine s_hasM1 ok (fun k => absurd k hin) (fun _ => ?_)
    intro _
    exact ⟨fun k => absurd rfl k, fun _ => ⟨rfl, h0⟩⟩
  have cr := rc_lt hin.1 hin.2.1 hin.2.2.1 hin.2.2.2
  intro _
  -- the reference, out of bounds
  have out : ¬ ((0 ≤ x3 ∧ x3 ≤ 1) ∧ (0 ≤ x4 ∧ x4 ≤ 7)) → P_X12_share (fun _ t _ _ _ _ _ _ _ _ _ _ _ => t = 2 ∧ ps0 0 = 0) thr w h (w * h) 1 q0 NN0 mnear degree mine M mus mpo mpl msz mwy mwt mmk mrs bt big r c x3 x4 := by
    intro no
    unfold P_X12_share
    refine s_hasM1 ok (fun _ => ?_) (fun k => absurd hin k)
    intro _
    refine ⟨fun _ => ?_, fun k => absurd k (by decide)⟩
    refine s_withinM (fun u u01 iu => ?_)
    intro _
    refine ⟨_, ⟨fun z => ?_, fun z => ?_⟩, fun jj => jj⟩
    · exact s_failM (fun _ => ⟨rfl, h0⟩)
    · refine s_withinM (fun u2 u201 iu2 => ?_)
      intro _
      exact ⟨fun z2 => absurd ⟨iu.1 (u01.resolve_left z), iu2.1 (u201.resolve_left z2)⟩ no, fun _ => s_failM (fun _ => ⟨rfl, h0⟩)⟩
  -- the reference, within the bounds
  have inn : ∀ {post : Int → (Int) → (Int) → (Int) → (Int → Int) → (Int → Int) → (Int → Int) → (Int → Int) → (Int → Int) → (Int → Int) → (Int → Int) → (Int → Int) → (Int → Int64) → Prop} {ls : List (List Int)}, ((0 ≤ x3 ∧ x3 ≤ 1) ∧ (0 ≤ x4 ∧ x4 ≤ 7)) → (st (r * w + c) ≤ 1 → Fit w h sh st (AllCh w h sh st) → PLs w h sh st (AllCh w h sh st) ls) → (¬ (st (r * w + c) ≤ 1 ∧ Fit w h sh st (AllCh w h sh st) ∧ ¬ SU (NWe w h sh st (Rn w h sh st mined) (AllCh w h sh st) ls (fun _ => 1)) (mines - ci 3) (FrL w h sh st (AllCh w h sh st)).length = 0) → ∀ q N us po pl sz wy wt mk rs g, post 0 3 q N us po pl sz wy wt mk rs g) → (st (r * w + c) ≤ 1 → Fit w h sh st (AllCh w h sh st) → ¬ SU (NWe w h sh st (Rn w h sh st mined) (AllCh w h sh st) ls (fun _ => 1)) (mines - ci 3) (FrL w h sh st (AllCh w h sh st)).length = 0 → ∀ U S q N us po pl sz wy wt mk rs g v, S = SU (NWe w h sh st (Rn w h sh st mined) (AllCh w h sh st) ls (fun _ => 1)) (mines - ci 3) (FrL w h sh st (AllCh w h sh st)).length → URl w h sh st (Rn w h sh st mined) (AllCh w h sh st) ls (mines - ci 3) (FrL w h sh st (AllCh w h sh st)).length (r * w + c) U → (5 < x4 → v = 0) → (x4 ≤ 5 → ∃ z : Int → Int64, NW6 z (if x3 = 0 then U / gz U S else S / gz U S) ∧ v = (z x4).toInt) → post v 0 q N us po pl sz wy wt mk rs g) → (∀ U S : Int, S = SU (NWe w h sh st (Rn w h sh st mined) (AllCh w h sh st) ls (fun _ => 1)) (mines - ci 3) (FrL w h sh st (AllCh w h sh st)).length → URl w h sh st (Rn w h sh st mined) (AllCh w h sh st) ls (mines - ci 3) (FrL w h sh st (AllCh w h sh st)).length (r * w + c) U → st (r * w + c) ≤ 1 → Fit w h sh st (AllCh w h sh st) → ¬ S = 0 → U ≤ S ∧ S ≤ pw2 144) → P_X12_share post thr w h (w * h) 1 q0 NN0 mnear degree mine M mus mpo mpl msz mwy mwt mmk mrs bt big r c x3 x4 := by
    intro post ls bnd hpl k0 k1 kb
    unfold P_X12_share
    refine s_hasM1 ok (fun _ => ?_) (fun k => absurd hin k)
    intro _
    refine ⟨fun _ => ?_, fun k => absurd k (by decide)⟩
    refine s_withinM (fun u u01 iu => ?_)
    intro _
    have uz : ¬ u = 0 := fun q => by have := iu.2 bnd.1; rw [q] at this; exact absurd this (by decide)
    refine ⟨False, ⟨fun z => uz z, fun _ => ?_⟩, fun jj => jj.elim⟩
    refine s_withinM (fun u2 u201 iu2 => ?_)
    intro _
    have uz2 : ¬ u2 = 0 := fun q => by have := iu2.2 bnd.2; rw [q] at this; exact absurd this (by decide)
    refine ⟨fun _ => ?_, fun z => uz2 z⟩
    rw [Int.mul_comm w r]
    refine ⟨by omega, ?_⟩
    refine s_hasShareM (ls := ls) E bt_ok cr hpl (fun q N us po2 pl2 sz2 wy2 wt2 mk2 rs2 g1 nn => ?_) (fun q N us po2 pl2 sz2 wy2 wt2 mk2 rs2 g1 U hu fit nz hDn hUp hU => ?_)
    · rw [el] at nn
      intro _
      exact ⟨fun k => absurd rfl k, fun _ => s_failM (fun _ => k0 nn _ _ _ _ _ _ _ _ _ _ _)⟩
    · rw [el] at nz hDn hU
      intro _
      refine ⟨fun _ => ?_, fun k => absurd k (by decide)⟩
      generalize eS : SU (NWe w h sh st (Rn w h sh st mined) (AllCh w h sh st) ls (fun _ => 1)) (mines - ci 3) (FrL w h sh st (AllCh w h sh st)).length = S at *
      have b := kb U S rfl hU hu fit nz
      have Sb := hDn.b
      have pp := pw2_pos 144
      refine s_reduceM hUp hDn (by omega) (by omega) (by omega) (fun g2 h1 h2 => ?_)
      refine ⟨fun v => (5 < x4 → v = 0) ∧ (x4 ≤ 5 → ∃ z : Int → Int64, NW6 z (if x3 = 0 then U / gz U S else S / gz U S) ∧ v = (z x4).toInt), ⟨fun y => ?_, fun y => ⟨fun _ => rfl, fun q => absurd q y⟩⟩, fun v _ hv => k1 hu fit nz U S _ _ _ _ _ _ _ _ _ _ _ v rfl hU hv.1 hv.2⟩
      refine ⟨fun row => (row = 436 ∧ x3 = 0) ∨ (row = 440 ∧ ¬ x3 = 0), ⟨fun q => Or.inr ⟨rfl, q⟩, fun q => Or.inl ⟨rfl, q⟩⟩, fun row _ hrow => ⟨by omega, fun v ev => ⟨fun q => by omega, fun _ => ⟨rw6 g2 row, ?_, ?_⟩⟩⟩⟩
      · rcases hrow with ⟨e, q⟩ | ⟨e, q⟩
        · rw [e, if_pos q]; exact h1
        · rw [e, if_neg q]; exact h2
      · have l : 0 ≤ (rw6 g2 row x4).toInt ∧ (rw6 g2 row x4).toInt < 2147483648 := by
          rcases hrow with ⟨e, q⟩ | ⟨e, q⟩
          · rw [e]; exact h1.limb (by omega) (by omega)
          · rw [e]; exact h2.limb (by omega) (by omega)
        have ev' : v = rw6 g2 row x4 := ev
        rw [ev', l2I_tI l.1 l.2]
  refine ⟨fun z => out (by omega), fun z => ⟨fun z2 => out (by omega), fun z2 => ⟨fun z3 => out (by omega), fun z3 => ⟨fun z4 => ?_, fun z4 => out (by omega)⟩⟩⟩⟩
  have bnd : (0 ≤ x3 ∧ x3 ≤ 1) ∧ (0 ≤ x4 ∧ x4 ≤ 7) := by omega
  refine s_weighUnk D h0 cr (fun ls P1 lg1 N1 ag1 tk1 xl1 xh1 yl1 yh1 ch1 po1 rs1 uk1 ps1 cs1 ms1 ss1 pS1 ta1 as1 go1 gz1 li1 le1 pk1 gm1 gs1 qm1 qa1 qc1 qt1 xb1 xs1 yb1 ys1 nz p0 => ?_) (fun ls P1 lg1 N1 ag1 tk1 xl1 xh1 yl1 yh1 ch1 po1 rs1 uk1 ps1 cs1 ms1 ss1 pS1 ta1 as1 go1 gz1 li1 le1 pk1 gm1 gs1 qm1 qa1 qc1 qt1 xb1 xs1 yb1 ys1 Mv Av hu fit pl hM hA wg A0 p0 => ?_)
  · refine inn (ls := ls) bnd (fun a b => (nz a b).1) (fun _ q N us po2 pl2 sz2 wy2 wt2 mk2 rs2 g1 => ⟨rfl, p0⟩) (fun a b nn => absurd (nz a b).2 nn) (fun U S eS hU a b nn => absurd (by rw [eS]; exact (nz a b).2) nn)
  · have wh0 : 0 ≤ w * h := by omega
    have len := PLs_len pl wh0
    have hl : ls.flatten.length + (FrL w h sh st (AllCh w h sh st)).length ≤ 144 := by omega
    obtain ⟨U, hU⟩ := wg.ex (by omega)
    obtain ⟨k, k1, k2, eM, eA, U0, US, S144⟩ := wg.frac hl (by omega) hU
    have pp := pw2_pos 144
    have kb : ∀ U' S' : Int, S' = SU (NWe w h sh st (Rn w h sh st mined) (AllCh w h sh st) ls (fun _ => 1)) (mines - ci 3) (FrL w h sh st (AllCh w h sh st)).length → URl w h sh st (Rn w h sh st mined) (AllCh w h sh st) ls (mines - ci 3) (FrL w h sh st (AllCh w h sh st)).length (r * w + c) U' → st (r * w + c) ≤ 1 → Fit w h sh st (AllCh w h sh st) → ¬ S' = 0 → U' ≤ S' ∧ S' ≤ pw2 144 := by
      intro U' S' e1 e2 _ _ _
      rw [e2.uniq hU, e1]
      exact ⟨US, S144⟩
    obtain ⟨S, eS⟩ : ∃ S : Int, SU (NWe w h sh st (Rn w h sh st mined) (AllCh w h sh st) ls (fun _ => 1)) (mines - ci 3) (FrL w h sh st (AllCh w h sh st)).length = S := ⟨_, rfl⟩
    rw [eS] at eA US S144
    have S0 : ¬ S = 0 := fun r => A0 (by rw [eA, r, Int.zero_mul])
    have Sp : 0 < S := by omega
    have Ab : Av ≤ pw2 144 * 144 := by rw [eA]; exact Int.mul_le_mul S144 k2 (by omega) (by omega)
    have MA : Mv ≤ Av := by rw [eM, eA]; exact Int.mul_le_mul_of_nonneg_right US (by omega)
    have Ap : 0 < Av := by rw [eA]; exact Int.mul_pos Sp (by omega)
    have fr := gz_frac (k := k) U0 Sp k1
    rw [← eM, ← eA] at fr
    refine ⟨fun y => ?_, fun y => ?_⟩
    · refine s_reduce hM hA Ap (by omega) (fun m' a' t' d' s' hm' ha' => ?_)
      rw [fr.1] at hm'
      rw [fr.2] at ha'
      refine ⟨fun v => ∃ z : Int → Int64, NW6 z (if x3 = 0 then U / gz U S else S / gz U S) ∧ v = z x4, ⟨fun q => ⟨by omega, fun v ev => ⟨a', by rw [if_neg q]; exact ha', ev⟩⟩, fun q => ⟨by omega, fun v ev => ⟨m', by rw [if_pos q]; exact hm', ev⟩⟩⟩, fun v hv => ?_⟩
      obtain ⟨z, hz, ez⟩ := hv
      have lz := hz.limb (i := x4) (by omega) (by omega)
      rw [ez, l2I_tI lz.1 lz.2]
      refine inn (ls := ls) bnd (fun _ _ => pl) (fun nn => absurd ⟨hu, fit, by rw [eS]; exact S0⟩ nn) (fun _ _ _ U' S' q N us po2 pl2 sz2 wy2 wt2 mk2 rs2 g1 v' eS' hU' _ hv' => ?_) kb
      have eU := hU'.uniq hU
      subst eU
      rw [eS] at eS'
      subst eS'
      obtain ⟨z', hz', ev'⟩ := hv' (by omega)
      have same := VS.inj hz.1 hz'.1 (by rw [hz.2, hz'.2]) x4 (by omega) (by omega)
      rw [Int.zero_add] at same
      rw [ev', ← same]
      exact ⟨rfl, rfl, p0⟩
    · refine inn (ls := ls) bnd (fun _ _ => pl) (fun nn => absurd ⟨hu, fit, by rw [eS]; exact S0⟩ nn) (fun _ _ _ U' S' q N us po2 pl2 sz2 wy2 wt2 mk2 rs2 g1 v' _ _ hv' _ => ?_) kb
      rw [hv' (by omega)]
      exact ⟨rfl, rfl, p0⟩
