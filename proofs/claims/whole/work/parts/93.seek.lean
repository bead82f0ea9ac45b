/-! which cell a hint tells of -/
def TL (st f : Int → Int) (c : Int) : Prop := f c = 1 ∨ (f c = 2 ∧ ¬ st c = 1)
def Fst (n : Int) (st f : Int → Int) (c : Int) : Prop := (c = -1 ∧ ∀ d, 0 ≤ d → d < n → ¬ TL st f d) ∨ ((0 ≤ c ∧ c < n) ∧ TL st f c ∧ ∀ d, 0 ≤ d → d < c → ¬ TL st f d)
theorem Fst.eq {n c c' : Int} {st f f' : Int → Int} (e : ∀ d, 0 ≤ d → d < n → f d = f' d) (a : Fst n st f c) (b : Fst n st f' c') : c = c' := by
  have t : ∀ d, 0 ≤ d → d < n → (TL st f d ↔ TL st f' d) := fun d d0 d1 => by unfold TL; rw [e d d0 d1]
  rcases a with ⟨a1, a2⟩ | ⟨a1, a2, a3⟩
  · rcases b with ⟨b1, b2⟩ | ⟨b1, b2, b3⟩
    · omega
    · exact absurd ((t c' b1.1 b1.2).2 b2) (a2 c' b1.1 b1.2)
  · rcases b with ⟨b1, b2⟩ | ⟨b1, b2, b3⟩
    · exact absurd ((t c a1.1 a1.2).1 a2) (b2 c a1.1 a1.2)
    · by_cases k : c < c'
      · exact absurd ((t c a1.1 a1.2).1 a2) (b3 c a1.1 k)
      · by_cases k2 : c' < c
        · exact absurd ((t c' b1.1 b1.2).2 b2) (a3 c' b1.1 k2)
        · omega
theorem s_firstToTell {w h sh g left : Int} {mined st f : Int → Int} {post : Int → Prop} (ok : okB w h sh) (hp : ∀ c, Fst (w * h) st f c → post c) : P_X0_firstToTell post (w * h) st f := by
  have hle := wh_le ok
  have hge := wh_ge ok
  unfold P_X0_firstToTell
  refine ⟨fun n x => n = (w * h - x).toNat ∧ 0 ≤ x ∧ x ≤ w * h ∧ ∀ d, 0 ≤ d → d < x → ¬ TL st f d, ⟨_, rfl, by omega, by omega, fun d _ _ => by omega⟩, ?_⟩
  rintro n x rx ⟨rfl, b1, b2, b3⟩
  have nxt : ¬ TL st f x → x < w * h → (inR (x + 1) ∧ (∀ x1_15 : Int, x1_15 = (x + 1) → (∃ n_16 : Nat, n_16 < (w * h - x).toNat ∧ (n_16 = (w * h - x1_15).toNat ∧ 0 ≤ x1_15 ∧ x1_15 ≤ w * h ∧ ∀ d, 0 ≤ d → d < x1_15 → ¬ TL st f d)))) := by
    intro k hx
    refine nx (by omega) ⟨_, ?_, rfl, by omega, by omega, fun d d0 d1 => ?_⟩
    · omega
    · by_cases e : d = x
      · subst e; exact k
      · exact b3 d d0 (by omega)
  refine ⟨fun z => hp (-1) (Or.inl ⟨rfl, fun d d0 d1 => b3 d d0 (by omega)⟩), fun z => ⟨by omega, fun v ev rv => ⟨fun z1 => hp x (Or.inr ⟨⟨b1, by omega⟩, Or.inl (by omega), b3⟩), fun z1 => exJ0 ⟨fun z2 => nxt (fun y => ?_) (by omega), fun z2 => ⟨by omega, fun v2 e2 r2 => ⟨fun z3 => nxt (fun y => ?_) (by omega), fun z3 => hp x (Or.inr ⟨⟨b1, by omega⟩, Or.inr ⟨by omega, by omega⟩, b3⟩)⟩⟩⟩⟩⟩⟩
  · rcases y with y | y <;> omega
  · rcases y with y | y <;> omega
theorem s_firstFound {w h sh : Int} {near degree mine M mined number st sf mf : Int → Int} {post : Int → Prop} (E : ME w h sh near degree mine M mined number st) (h01 : ∀ c, 0 ≤ c → c < w * h → (sf c = 0 ∨ sf c = 1) ∧ (mf c = 0 ∨ mf c = 1)) (hp : ∀ c, Fst (w * h) st (fM st sf mf) c → post c) : P_X12_firstFound post (w * h) M sf mf := by
  have ok := E.1
  have hle := wh_le ok
  have hge := wh_ge ok
  unfold P_X12_firstFound
  refine ⟨by omega, fun x0 e0 => ⟨fun n b x => n = (x + 1).toNat ∧ -1 ≤ x ∧ x < w * h ∧ ((b = -1 ∧ ∀ d, x < d → d < w * h → ¬ TL st (fM st sf mf) d) ∨ ((x < b ∧ b < w * h) ∧ TL st (fM st sf mf) b ∧ ∀ d, x < d → d < b → ¬ TL st (fM st sf mf) d)), ⟨_, rfl, by omega, by omega, Or.inl ⟨rfl, fun d _ _ => by omega⟩⟩, ?_⟩⟩
  rintro n b x rb rx ⟨rfl, b1, b2, b3⟩
  refine ⟨fun z => hp b ?_, fun z => ?_⟩
  · have ex : x = -1 := by omega
    subst ex
    rcases b3 with ⟨c1, c2⟩ | ⟨c1, c2, c3⟩
    · exact Or.inl ⟨c1, fun d d0 d1 => c2 d (by omega) d1⟩
    · exact Or.inr ⟨⟨by omega, c1.2⟩, c2, fun d d0 d1 => c3 d (by omega) d1⟩
  · have hx : 0 ≤ x ∧ x < w * h := ⟨by omega, b2⟩
    have o := h01 x hx.1 hx.2
    have sx := E.2.2.2.2.2.1 x hx.1 hx.2
    have no : ¬ TL st (fM st sf mf) x → (inR (x + -1) ∧ (∀ x2_17 : Int, x2_17 = (x + -1) → (∃ n_18 : Nat, n_18 < (x + 1).toNat ∧ (n_18 = (x2_17 + 1).toNat ∧ -1 ≤ x2_17 ∧ x2_17 < w * h ∧ ((b = -1 ∧ ∀ d, x2_17 < d → d < w * h → ¬ TL st (fM st sf mf) d) ∨ ((x2_17 < b ∧ b < w * h) ∧ TL st (fM st sf mf) b ∧ ∀ d, x2_17 < d → d < b → ¬ TL st (fM st sf mf) d)))))) := by
      intro k
      refine ⟨by omega, fun x2 e2 => ⟨_, ?_, rfl, by omega, by omega, ?_⟩⟩
      · omega
      · rcases b3 with ⟨c1, c2⟩ | ⟨c1, c2, c3⟩
        · refine Or.inl ⟨c1, fun d d0 d1 => ?_⟩
          by_cases e : d = x
          · subst e; exact k
          · exact c2 d (by omega) d1
        · refine Or.inr ⟨⟨by omega, c1.2⟩, c2, fun d d0 d1 => ?_⟩
          by_cases e : d = x
          · subst e; exact k
          · exact c3 d (by omega) d1
    have yes : TL st (fM st sf mf) x → (inR (x + -1) ∧ (∀ x2_17 : Int, x2_17 = (x + -1) → (∃ n_18 : Nat, n_18 < (x + 1).toNat ∧ (n_18 = (x2_17 + 1).toNat ∧ -1 ≤ x2_17 ∧ x2_17 < w * h ∧ ((x = -1 ∧ ∀ d, x2_17 < d → d < w * h → ¬ TL st (fM st sf mf) d) ∨ ((x2_17 < x ∧ x < w * h) ∧ TL st (fM st sf mf) x ∧ ∀ d, x2_17 < d → d < x → ¬ TL st (fM st sf mf) d)))))) := by
      intro k
      refine ⟨by omega, fun x2 e2 => ⟨_, ?_, rfl, by omega, by omega, Or.inr ⟨⟨by omega, hx.2⟩, k, fun d d0 d1 => by omega⟩⟩⟩
      omega
    refine s_unkM E hx (fun u hu iu _ => exJi ⟨fun z1 _ => no (fun y => ?_), fun z1 => ⟨by omega, fun v ev hv => exJ0 ⟨fun z2 _ => yes (Or.inl ?_), fun z2 => ⟨by omega, fun v2 e2 h2 => ⟨fun z3 _ => no (fun y => ?_), fun z3 => ⟨by omega, fun v3 e3 r3 => ⟨fun z4 _ => no (fun y => ?_), fun z4 _ => yes (Or.inr ⟨?_, ?_⟩)⟩⟩⟩⟩⟩⟩⟩)
    · have nu : ¬ st x ≤ 1 := fun k => by have := iu.2 k; omega
      unfold TL at y
      rw [fM_k nu] at y
      omega
    · rw [fM_u (iu.1 (by omega)), if_neg (by omega)]
    · unfold TL at y
      rw [fM_u (iu.1 (by omega)), if_pos (by omega), if_pos (by omega)] at y
      omega
    · unfold TL at y
      rw [fM_u (iu.1 (by omega)), if_pos (by omega), if_neg (by omega)] at y
      have e1 : tr (st x) = 2 := by omega
      have := tr_tr (st x)
      rw [e1] at this
      have e2' : tr 2 = 1 := by decide
      omega
    · rw [fM_u (iu.1 (by omega)), if_pos (by omega), if_neg (by omega)]
    · intro k
      rw [k] at sx
      have e2' : tr 1 = 2 := by decide
      omega
/-- no grade below tells -/
def NT (w h sh left : Int) (mined st : Int → Int) (g : Int) : Prop := ∀ k, 1 ≤ k → k < g → ∀ f, QG w h sh left mined st k f → ∀ d, 0 ≤ d → d < w * h → ¬ TL st f d
def SK (w h sh left : Int) (mined st : Int → Int) (g c : Int) (f : Int → Int) : Prop := (c = -1 ∧ g = 0 ∧ NT w h sh left mined st 4) ∨ ((1 ≤ g ∧ g ≤ 3) ∧ (0 ≤ c ∧ c < w * h) ∧ NT w h sh left mined st g ∧ QG w h sh left mined st g f ∧ Fst (w * h) st f c)
theorem NT.succ {w h sh left g : Int} {mined st f : Int → Int} (hg : 1 ≤ g ∧ g ≤ 3) (n : NT w h sh left mined st g) (q : QG w h sh left mined st g f) (a : Fst (w * h) st f (-1)) : NT w h sh left mined st (g + 1) := by
  intro k k0 k1 f' q' d d0 d1 t
  by_cases e : k = g
  · subst e
    have eq := QG.eq hg q q'
    rcases a with ⟨-, a⟩ | ⟨a, -⟩
    · refine a d d0 d1 ?_
      unfold TL at t ⊢
      rw [eq d d0 d1]
      exact t
    · omega
  · exact n k k0 (by omega) f' q' d d0 d1 t
theorem SK.tl {w h sh left g c : Int} {mined st f : Int → Int} (a : SK w h sh left mined st g c f) (hc : ¬ c = -1) : (1 ≤ g ∧ g ≤ 3) ∧ (0 ≤ c ∧ c < w * h) ∧ QG w h sh left mined st g f ∧ TL st f c := by
  rcases a with a | ⟨a1, a2, a3, a4, a5⟩
  · exact absurd a.1 hc
  · refine ⟨a1, a2, a4, ?_⟩
    rcases a5 with a5 | a5
    · omega
    · exact a5.2.1
theorem SK.eq {w h sh left g c g' c' : Int} {mined st f f' : Int → Int} (a : SK w h sh left mined st g c f) (b : SK w h sh left mined st g' c' f') : g = g' ∧ c = c' ∧ (¬ c = -1 → f c = f' c) := by
  rcases a with ⟨a1, a2, a3⟩ | ⟨a1, a2, a3, a4, a5⟩
  · rcases b with ⟨b1, b2, b3⟩ | ⟨b1, b2, b3, b4, b5⟩
    · exact ⟨by omega, by omega, fun k => absurd a1 k⟩
    · rcases b5 with b5 | b5
      · omega
      · exact absurd b5.2.1 (a3 g' b1.1 (by omega) f' b4 c' b2.1 b2.2)
  · have ta : TL st f c := by
      rcases a5 with a5 | a5
      · omega
      · exact a5.2.1
    rcases b with ⟨b1, b2, b3⟩ | ⟨b1, b2, b3, b4, b5⟩
    · exact absurd ta (b3 g a1.1 (by omega) f a4 c a2.1 a2.2)
    · have tb' : TL st f' c' := by
        rcases b5 with b5 | b5
        · omega
        · exact b5.2.1
      have e : g = g' := by
        by_cases k : g < g'
        · exact absurd ta (b3 g a1.1 k f a4 c a2.1 a2.2)
        · by_cases k2 : g' < g
          · exact absurd tb' (a3 g' b1.1 k2 f' b4 c' b2.1 b2.2)
          · omega
      subst e
      have eq := QG.eq a1 a4 b4
      have ec := a5.eq eq b5
      exact ⟨rfl, ec, fun _ => eq c a2.1 a2.2⟩
theorem s_seek {w h sh mines P0 lg0 N0 ag0 tk0 wc mc a1 a2 a3 a4 a5 : Int} {near nearEnd mined number st ci un hi ch0 po0 rs0 uk0 ps0 cs0 mset0 sset0 pS0 ta0 as0 go0 gz0 links0 le0 pk0 gm0 gs0 f0 oe0 nd0 wt0 ws0 com0 met0 : Int → Int} {S0 nS0 : Int → Int64} {post : (Int) → (Int) → (Int) → (Int) → (Int) → (Int) → (Int) → (Int) → (Int) → (Int) → (Int) → (Int) → (Int → Int) → (Int → Int) → (Int → Int) → (Int → Int) → (Int → Int) → (Int → Int) → (Int → Int) → (Int → Int) → (Int → Int) → (Int → Int) → (Int → Int) → (Int → Int) → (Int → Int) → (Int → Int) → (Int → Int) → (Int → Int) → (Int → Int) → (Int → Int) → (Int → Int64) → (Int → Int64) → (Int → Int) → (Int → Int) → (Int → Int) → (Int → Int) → (Int → Int) → (Int → Int) → (Int → Int) → Prop} (D : DE w h sh near nearEnd mined number st ci un hi mines) (h0 : ps0 0 = 0)
    (hp : ∀ (P lg N ag tk wc' mc' g c v : Int) (ch po rs uk ps cs mset sset pS ta as go gz links le pk gm gs : Int → Int) (S nS : Int → Int64) (f oe nd wt ws com met : Int → Int), ps 0 = 0 → SK w h sh (mines - ci 3) mined st g c f → (v = 0 ∨ v = 1) → (v = 1 ↔ ¬ c = -1 ∧ f c = 2) → post P lg N ag tk wc' mc' g c v 0 0 ch po rs uk ps cs mset sset pS ta as go gz links le pk gm gs S nS f oe nd wt ws com met) :
    P_X0_seek post mines (w * h) P0 lg0 N0 ag0 tk0 wc mc a1 a2 a3 a4 a5 number st ci un hi near nearEnd ch0 po0 rs0 uk0 ps0 cs0 mset0 sset0 pS0 ta0 as0 go0 gz0 links0 le0 pk0 gm0 gs0 S0 nS0 f0 oe0 nd0 wt0 ws0 com0 met0 := by
  have ok := D.1
  have hle := wh_le ok
  unfold P_X0_seek P_X0_forget
  refine ⟨fun n x P lg N ag tk wc' mc' g c ch po rs uk ps cs mset sset pS ta as go gz links le pk gm gs S nS f oe nd wt ws com met => n = (4 - x).toNat ∧ 1 ≤ x ∧ x ≤ 4 ∧ ps 0 = 0 ∧ (c = -1 → g = 0 ∧ NT w h sh (mines - ci 3) mined st x ∧ (x ≤ 3 → RW w h sh (mines - ci 3) mined st x wc' f oe nd wt ws com)) ∧ (¬ c = -1 → SK w h sh (mines - ci 3) mined st g c f), ⟨_, rfl, by omega, by omega, h0, fun _ => ⟨rfl, fun k k0 k1 => by omega, fun _ => ⟨fun y => by omega, fun y => absurd rfl y⟩⟩, fun y => absurd rfl y⟩, ?_⟩
  rintro n x P lg N ag tk wc' mc' g c ch po rs uk ps cs mset sset pS ta as go gz links le pk gm gs S nS f oe nd wt ws com met rx ⟨rfl, b1, b2, b3, b4, b5⟩
  have fin : (3 < x ∨ ¬ c = -1) → ∃ J_51 : (Int) → Prop, (∃ J_55 : Prop, ((c = (-1) → (J_55)) ∧ (¬ c = (-1) → ((0 ≤ c ∧ c < 144) ∧ (∀ v_60 : Int, v_60 = f c → inR v_60 → ((¬ v_60 = 2 → (J_55)) ∧ (v_60 = 2 → (J_51 1))))))) ∧ (J_55 → (J_51 0))) ∧ (∀ (z_53 : Int), inR z_53 → J_51 z_53 → ((z_53 = 0 ∨ z_53 = 1) ∧ (post P lg N ag tk wc' mc' g c z_53 0 0 ch po rs uk ps cs mset sset pS ta as go gz links le pk gm gs S nS f oe nd wt ws com met))) := by
    intro hh
    have sk : SK w h sh (mines - ci 3) mined st g c f := by
      by_cases k : c = -1
      · obtain ⟨q1, q2, -⟩ := b4 k
        have : x = 4 := by omega
        subst this
        exact Or.inl ⟨k, q1, q2⟩
      · exact b5 k
    refine exJi (exJ0 ⟨fun z _ => ⟨Or.inl rfl, hp _ _ _ _ _ _ _ _ _ _ _ _ _ _ _ _ _ _ _ _ _ _ _ _ _ _ _ _ _ _ _ _ _ _ _ _ _ b3 sk (Or.inl rfl) ⟨fun y => by omega, fun y => absurd z y.1⟩⟩, fun z => ⟨?_, fun v ev rv => ⟨fun z1 _ => ⟨Or.inl rfl, hp _ _ _ _ _ _ _ _ _ _ _ _ _ _ _ _ _ _ _ _ _ _ _ _ _ _ _ _ _ _ _ _ _ _ _ _ _ b3 sk (Or.inl rfl) ⟨fun y => by omega, fun y => by omega⟩⟩, fun z1 _ => ⟨Or.inr rfl, hp _ _ _ _ _ _ _ _ _ _ _ _ _ _ _ _ _ _ _ _ _ _ _ _ _ _ _ _ _ _ _ _ _ _ _ _ _ b3 sk (Or.inr rfl) ⟨fun _ => ⟨z, by omega⟩, fun _ => rfl⟩⟩⟩⟩⟩)
    have := (sk.tl z).2.1
    omega
  refine ⟨_, ⟨fun z => fin (Or.inl z), fun z => ⟨fun z1 => fin (Or.inr z1), fun z1 => ?_⟩⟩, fun jj => jj⟩
  obtain ⟨q1, q2, q3⟩ := b4 z1
  refine s_raise D b3 ⟨b1, by omega⟩ (q3 (by omega)) (fun P2 lg2 N2 ag2 tk2 wc2 mc2 ch2 po2 rs2 uk2 ps2 cs2 mset2 sset2 pS2 ta2 as2 go2 gz2 links2 le2 pk2 gm2 gs2 S2 nS2 f2 oe2 nd2 wt2 ws2 com2 met2 p0 qg rw2 => s_firstToTell (w := w) (h := h) (sh := sh) (g := 0) (left := 0) (mined := mined) ok (fun c2 fs _ => ?_))
  refine exJi ⟨fun z2 _ => nx (by omega) ⟨_, ?_, rfl, by omega, by omega, p0, fun y => absurd y z2, fun _ => Or.inr ⟨⟨b1, by omega⟩, ?_, q2, qg, fs⟩⟩, fun z2 _ => nx (by omega) ⟨_, ?_, rfl, by omega, by omega, p0, fun _ => ⟨rfl, q2.succ ⟨b1, by omega⟩ qg (z2 ▸ fs), fun _ => rw2⟩, fun y => absurd z2 y⟩⟩
  · omega
  · rcases fs with fs | fs
    · exact absurd fs.1 z2
    · exact fs.1
  · omega
