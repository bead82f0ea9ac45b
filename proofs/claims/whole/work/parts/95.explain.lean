/-! explaining, on both sides -/
theorem Lf.ok {w h sh left all c b : Int} {st mined : Int → Int} {Ch : Int → Prop} (hs : ∀ n, Ch n → AllCh w h sh st n) {k : Nat} : ChOk w h sh st (Lf w h sh st mined left all c b Ch k) := fun n hn => hs n (Lf.sub hn)
/-- one number more tried: what the set is then -/
theorem Lf.step {w h sh left all c b x : Int} {st mined ch : Int → Int} {Ch : Int → Prop} (hx : 0 ≤ x ∧ x < w * h) (hch : ∀ n, 0 ≤ n → n < w * h → (ch n = 0 ∨ ch n = 1) ∧ (ch n = 1 ↔ Lf w h sh st mined left all c b Ch (w * h - 1 - x).toNat n)) {ch' : Int → Int} (h0 : ch x = 0 → ∀ n, ch' n = ch n) (h1 : ¬ ch x = 0 → (∀ n, n ≠ x → ch' n = ch n) ∧ (ch' x = 0 ∨ ch' x = 1) ∧ (ch' x = 1 ↔ Pos w h sh st (Rn w h sh st mined) (fun j => Lf w h sh st mined left all c b Ch (w * h - 1 - x).toNat j ∧ j ≠ x) left all c b)) : ∀ n, 0 ≤ n → n < w * h → (ch' n = 0 ∨ ch' n = 1) ∧ (ch' n = 1 ↔ Lf w h sh st mined left all c b Ch (w * h - 1 - (x - 1)).toNat n) := by
  intro n n0 n1
  have e1 : (w * h - 1 - (x - 1)).toNat = (w * h - 1 - x).toNat + 1 := by omega
  have e2 : w * h - 1 - (((w * h - 1 - x).toNat : Nat) : Int) = x := by omega
  rw [e1]
  show _ ∧ (_ ↔ Lf w h sh st mined left all c b Ch (w * h - 1 - x).toNat n ∧ (n = w * h - 1 - (((w * h - 1 - x).toNat : Nat) : Int) → Pos w h sh st (Rn w h sh st mined) (fun j => Lf w h sh st mined left all c b Ch (w * h - 1 - x).toNat j ∧ j ≠ w * h - 1 - (((w * h - 1 - x).toNat : Nat) : Int)) left all c b))
  rw [e2]
  obtain ⟨o1, o2⟩ := hch n n0 n1
  by_cases k : ch x = 0
  · rw [h0 k n]
    refine ⟨o1, o2.trans ⟨fun y => ⟨y, fun e => ?_⟩, fun y => y.1⟩⟩
    have := o2.2 y
    rw [e] at this
    omega
  · obtain ⟨q1, q2, q3⟩ := h1 k
    by_cases e : n = x
    · subst e
      refine ⟨q2, ?_⟩
      rw [q3]
      refine ⟨fun y => ⟨o2.1 (by omega), fun _ => y⟩, fun y => y.2 rfl⟩
    · rw [q1 n e]
      exact ⟨o1, o2.trans ⟨fun y => ⟨y, fun e' => absurd e' e⟩, fun y => y.1⟩⟩
theorem s_isTooLongC {lg : Int} {post : Int → Prop} (hp : ∀ u : Int, (u = 0 ∨ u = 1) → (u = 0 ↔ lg ≤ 16) → post u) : P_X1_isTooLong post lg := s_isTooLong (fun hl => hp 0 (Or.inl rfl) ⟨fun _ => hl, fun _ => rfl⟩) (fun hl => hp 1 (Or.inr rfl) ⟨fun y => absurd y (by decide), fun y => absurd y hl⟩)
theorem s_explain {w h sh c v b mines P0 lg0 N0 ag0 tk0 wt0 : Int} {near nearEnd mined number st ci un hi ch0 po0 rs0 uk0 ps0 cs0 mset0 sset0 pS0 ta0 as0 go0 gz0 links0 le0 pk0 gm0 gs0 nm0 : Int → Int} {S0 nS0 : Int → Int64} {post : (Int) → (Int) → (Int) → (Int) → (Int) → (Int) → (Int) → (Int → Int) → (Int → Int) → (Int → Int) → (Int → Int) → (Int → Int) → (Int → Int) → (Int → Int) → (Int → Int) → (Int → Int) → (Int → Int) → (Int → Int) → (Int → Int) → (Int → Int) → (Int → Int) → (Int → Int) → (Int → Int) → (Int → Int) → (Int → Int) → (Int → Int64) → (Int → Int64) → (Int → Int) → Prop} (D : DE w h sh near nearEnd mined number st ci un hi mines) (h0 : ps0 0 = 0) (hc : 0 ≤ c ∧ c < w * h) (hu : st c ≤ 1) (hb0 : v = 0 → b = 1) (hb1 : ¬ v = 0 → b = 0)
    (hp : ∀ (P lg N ag tk : Int) (ch po rs uk ps cs mset sset pS ta as go gz links le pk gm gs : Int → Int) (S nS : Int → Int64) (nm : Int → Int), ps 0 = 0 → seg nm 0 (FinL w h sh st mined (mines - ci 3) c b).length = FinL w h sh st mined (mines - ci 3) c b → post P lg N ag tk (iB (W0 w h sh st mined (mines - ci 3) c b)) (FinL w h sh st mined (mines - ci 3) c b).length ch po rs uk ps cs mset sset pS ta as go gz links le pk gm gs S nS nm) :
    P_X0_explain post mines (w * h) P0 lg0 N0 ag0 tk0 c v wt0 0 number st ci un hi near nearEnd ch0 po0 rs0 uk0 ps0 cs0 mset0 sset0 pS0 ta0 as0 go0 gz0 links0 le0 pk0 gm0 gs0 S0 nS0 nm0 := by
  have ok := D.1
  have geo := D.2.1
  have hle := wh_le ok
  have hge := wh_ge ok
  have cok : ChOk w h sh st (AllCh w h sh st) := AllCh.ok
  unfold P_X0_explain
  refine s_chooseAll D (fun ch hch => s_split ok geo D.2.2.1 D.2.2.2.1 cok hch h0 (fun P lg po rs uk ps cs bs => ?_))
  have fit := bs.fit ok cok
  refine s_isTooLongC (fun u _ iu _ => ⟨fun z => (z = 0 ∨ z = 1) ∧ (z = 1 ↔ Fit w h sh st (AllCh w h sh st)), ⟨fun y => ⟨Or.inl rfl, ⟨fun q => absurd q (by decide), fun q => absurd (iu.2 (fit.2 q)) y⟩⟩, fun y => ⟨Or.inr rfl, ⟨fun _ => fit.1 (iu.1 y), fun _ => rfl⟩⟩⟩, fun z rz ⟨z01, zf⟩ => ?_⟩)
  refine ⟨fun _ _ _ _ _ _ _ _ _ _ _ _ _ _ _ _ _ _ _ z2 => (z2 = 0 ∨ z2 = 1) ∧ (z2 = 1 ↔ W0 w h sh st mined (mines - ci 3) c b), ⟨fun _ _ _ _ _ _ _ _ _ _ _ _ _ _ _ _ _ _ _ => ¬ W0 w h sh st mined (mines - ci 3) c b, ⟨fun y k => ?_, fun y => s_isSure D cok hch bs (fit.2 (zf.1 (z01.resolve_left y))) hc hu hb0 hb1 (fun vv N ag tk ms ss pS ta as go gz lk le pk gm gs S nS h01 iv _ => ⟨fun q k => ?_, fun q => ⟨Or.inr rfl, ⟨fun _ => ⟨zf.1 (z01.resolve_left y), ?_⟩, fun _ => rfl⟩⟩⟩)⟩, fun _ _ _ _ _ _ _ _ _ _ _ _ _ _ _ _ _ _ _ k => ⟨Or.inl rfl, ⟨fun q => absurd q (by decide), fun q => absurd q k⟩⟩⟩, ?_⟩
  · have := zf.2 k.1
    rw [y] at this
    exact absurd this (by decide)
  · exact (iv.1 (h01.resolve_left q)) k.2
  · apply Classical.byContradiction
    intro k
    have := iv.2 k
    rw [q] at this
    exact absurd this (by decide)
  rintro N ag tk rs1 uk1 ms ss pS ta as go gz lk le pk gm gs S nS z2 rz2 ⟨o2, w2⟩
  have ez2 : z2 = iB (W0 w h sh st mined (mines - ci 3) c b) := by
    by_cases k : W0 w h sh st mined (mines - ci 3) c b
    · rw [iB_t k]; exact w2.2 k
    · rw [iB_f k]; exact o2.resolve_right (fun y => k (w2.1 y))
  refine ⟨o2, fun ch' => ∀ n, 0 ≤ n → n < w * h → (ch' n = 0 ∨ ch' n = 1) ∧ (ch' n = 1 ↔ Ch0 w h sh st mined (mines - ci 3) c b n), ⟨fun y n n0 n1 => ?_, fun y => ⟨by omega, fun pc epc rpc => ?_⟩⟩, fun ch1 hch1 => ⟨by omega, fun x0 ex0 => ?_⟩⟩
  · have k := w2.1 (o2.resolve_left y)
    obtain ⟨q1, q2⟩ := hch n n0 n1
    exact ⟨q1, q2.trans ⟨fun r => ⟨fun _ => r, fun k2 => absurd k k2⟩, fun r => r.1 k⟩⟩
  · subst epc
    have k : ¬ W0 w h sh st mined (mines - ci 3) c b := fun q => by
      have := w2.2 q
      rw [y] at this
      exact absurd this (by decide)
    refine s_keepPart D hch bs hc hu (fun ch' q n n0 n1 => ?_)
    obtain ⟨q1, q2⟩ := q n n0 n1
    exact ⟨q1, q2.trans ⟨fun r => ⟨fun k2 => absurd k2 k, fun _ => r⟩, fun r => r.2 k⟩⟩
  have p00 : ps 0 = 0 := bs.1.1.2.1
  clear hch bs fit iu
  refine ⟨fun n x P lg N ag tk ch po rs uk ps cs ms ss pS ta as go gz lk le pk gm gs S nS => n = (x + 1).toNat ∧ -1 ≤ x ∧ x < w * h ∧ (z = 0 → x = w * h - 1) ∧ ps 0 = 0 ∧ ∀ n, 0 ≤ n → n < w * h → (ch n = 0 ∨ ch n = 1) ∧ (ch n = 1 ↔ Lf w h sh st mined (mines - ci 3) z2 c b (Ch0 w h sh st mined (mines - ci 3) c b) (w * h - 1 - x).toNat n), ⟨_, rfl, by omega, by omega, fun _ => by omega, p00, ?_⟩, ?_⟩
  · rw [ex0, show (w * h - 1 - (w * h - 1)).toNat = 0 by omega]
    exact hch1
  rintro n x P1 lg1 N1 ag1 tk1 ch2 po1 rs2 uk2 ps1 cs1 ms1 ss1 pS1 ta1 as1 go1 gz1 lk1 le1 pk1 gm1 gs1 S1 nS1 rx ⟨rfl, b1, b2, b3, b4, b5⟩
  have fin : (x < 0 ∨ z = 0) → P_X0_keepChosen (fun (A_numbers_76 : Int) (A_number_77 : Int → Int) => (post P1 lg1 N1 ag1 tk1 z2 A_numbers_76 ch2 po1 rs2 uk2 ps1 cs1 ms1 ss1 pS1 ta1 as1 go1 gz1 lk1 le1 pk1 gm1 gs1 S1 nS1 A_number_77)) (w * h) 0 ch2 nm0 := by
    intro hh
    have hF : ∀ n, 0 ≤ n → n < w * h → (ch2 n = 0 ∨ ch2 n = 1) ∧ (ch2 n = 1 ↔ FinC w h sh st mined (mines - ci 3) c b n) := by
      intro n n0 n1
      obtain ⟨q1, q2⟩ := b5 n n0 n1
      refine ⟨q1, q2.trans ?_⟩
      unfold FinC
      rw [← ez2]
      rcases hh with hh | hh
      · have e : (w * h - 1 - x).toNat = (w * h).toNat := by omega
        rw [e]
        refine ⟨fun y => ⟨fun _ => y, fun _ => Lf.sub y⟩, fun y => ?_⟩
        by_cases k : Fit w h sh st (AllCh w h sh st)
        · exact y.1 k
        · have := b3 (z01.resolve_right (fun q => k (zf.1 q)))
          omega
      · have e : (w * h - 1 - x).toNat = 0 := by have := b3 hh; omega
        rw [e]
        have nf : ¬ Fit w h sh st (AllCh w h sh st) := fun k => by have := zf.2 k; omega
        exact ⟨fun y => ⟨fun k => absurd k nf, fun _ => y⟩, fun y => y.2 nf⟩
    refine s_keepChosen ok hF (fun nm hn => ?_)
    rw [ez2]
    exact hp _ _ _ _ _ _ _ _ _ _ _ _ _ _ _ _ _ _ _ _ _ _ _ _ _ _ b4 hn
  refine ⟨_, ⟨fun y => fin (Or.inl y), fun y => ⟨fun y2 => fin (Or.inr y2), fun y2 => ⟨by omega, fun vx evx hvx => ?_⟩⟩⟩, fun jj => jj⟩
  have ft := zf.1 (z01.resolve_left y2)
  have hx : 0 ≤ x ∧ x < w * h := ⟨by omega, b2⟩
  refine ⟨fun P lg N ag tk ch po rs uk ps cs ms ss pS ta as go gz lk le pk gm gs S nS => ps 0 = 0 ∧ ∀ n, 0 ≤ n → n < w * h → (ch n = 0 ∨ ch n = 1) ∧ (ch n = 1 ↔ Lf w h sh st mined (mines - ci 3) z2 c b (Ch0 w h sh st mined (mines - ci 3) c b) (w * h - 1 - (x - 1)).toNat n), ⟨fun y3 => ⟨b4, Lf.step hx b5 (fun _ _ => rfl) (fun k => absurd (evx ▸ y3) k)⟩, fun y3 => ⟨by omega, fun ch3 e3 => ?_⟩⟩, ?_⟩
  · have hch3 : ∀ n, 0 ≤ n → n < w * h → (ch3 n = 0 ∨ ch3 n = 1) ∧ (ch3 n = 1 ↔ (Lf w h sh st mined (mines - ci 3) z2 c b (Ch0 w h sh st mined (mines - ci 3) c b) (w * h - 1 - x).toNat n ∧ n ≠ x)) := by
      intro n n0 n1
      rw [e3]
      by_cases e : n = x
      · rw [e, upZ_s]
        exact ⟨Or.inl rfl, ⟨fun q => absurd q (by decide), fun q => absurd rfl q.2⟩⟩
      · rw [upZ_n _ _ e]
        obtain ⟨q1, q2⟩ := b5 n n0 n1
        exact ⟨q1, q2.trans ⟨fun r => ⟨r, e⟩, fun r => r.1⟩⟩
    have cok3 : ChOk w h sh st (fun n => Lf w h sh st mined (mines - ci 3) z2 c b (Ch0 w h sh st mined (mines - ci 3) c b) (w * h - 1 - x).toNat n ∧ n ≠ x) := fun n hn => (Lf.sub hn.1).all
    refine s_split ok geo D.2.2.1 D.2.2.2.1 cok3 hch3 b4 (fun P3 lg3 po3 rs3 uk3 ps3 cs3 bs3 => ?_)
    have lg16 := (bs3.fit ok cok3).2 (ft.mono (fun n hn => (Lf.sub hn.1).all))
    refine s_isSure D cok3 hch3 bs3 lg16 hc hu hb0 hb1 (fun vv N3 ag3 tk3 ms3 ss3 pS3 ta3 as3 go3 gz3 lk3 le3 pk3 gm3 gs3 S3 nS3 h01 iv _ => ?_)
    have last : ∀ z3 : Int, (z3 = 0 ∨ z3 = 1) → (z3 = 1 ↔ Pos w h sh st (Rn w h sh st mined) (fun n => Lf w h sh st mined (mines - ci 3) z2 c b (Ch0 w h sh st mined (mines - ci 3) c b) (w * h - 1 - x).toNat n ∧ n ≠ x) (mines - ci 3) z2 c b) → ((0 ≤ x ∧ x < 144) ∧ ((z3 = 0 ∨ z3 = 1) ∧ (∀ B_chosen_150 : Int → Int, B_chosen_150 = upZ ch3 x z3 → (ps3 0 = 0 ∧ ∀ n, 0 ≤ n → n < w * h → (B_chosen_150 n = 0 ∨ B_chosen_150 n = 1) ∧ (B_chosen_150 n = 1 ↔ Lf w h sh st mined (mines - ci 3) z2 c b (Ch0 w h sh st mined (mines - ci 3) c b) (w * h - 1 - (x - 1)).toNat n))))) := by
      intro z3 o3 i3
      refine ⟨by omega, o3, fun ch4 e4 => ⟨bs3.1.1.2.1, Lf.step hx b5 (fun k => absurd (evx.trans k) y3) (fun _ => ⟨fun n hn => ?_, ?_, ?_⟩)⟩⟩
      · rw [e4, upZ_n _ _ hn, e3, upZ_n _ _ hn]
      · rw [e4, upZ_s]; exact o3
      · rw [e4, upZ_s]; exact i3
    refine exJi ⟨fun q _ => last 0 (Or.inl rfl) ⟨fun r => absurd r (by decide), fun r => absurd r (iv.1 (h01.resolve_left q))⟩, fun q _ => last 1 (Or.inr rfl) ⟨fun _ => ?_, fun _ => rfl⟩⟩
    apply Classical.byContradiction
    intro k
    have := iv.2 k
    rw [q] at this
    exact absurd this (by decide)
  · rintro P lg N ag tk ch po rs uk ps cs ms ss pS ta as go gz lk le pk gm gs S nS ⟨q1, q2⟩
    refine ⟨by omega, fun x2 e2 => ⟨_, ?_, rfl, by omega, by omega, fun k => absurd k y2, q1, ?_⟩⟩
    · omega
    · rw [e2, show w * h - 1 - (x + -1) = w * h - 1 - (x - 1) by omega]
      exact q2
