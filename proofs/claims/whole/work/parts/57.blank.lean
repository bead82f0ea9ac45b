/-! blank on both sides -/
theorem nx {x : Int} {A : Int → Prop} (h1 : inR (x + 1)) (h2 : A (x + 1)) : inR (x + 1) ∧ ∀ y : Int, y = x + 1 → A y := ⟨h1, fun _ e => by rw [e]; exact h2⟩
theorem op_blank {a1 a2 a3 a4 a5 a6 a7 a8 a9 a10 a11 a12 a13 m1 m2 m3 m4 m5 m6 m7 m8 m9 m10 m11 m12 w h sh : Int} {mined number st ci un hi near nearEnd mnear degree mine M : Int → Int} (rh : inR h)
    {ms cd old : Int → Int} {H : Int → Int64} :
    P_X11_blank (fun hb bb mines moves ch gw gh gs ag ac am aw an mined' number' st' ci' un' hi' near' nearEnd' => P_X12_blank (fun t mw mh mc msh ib isb lives mvs mg mr mt mnear' degree' mine' M' => t = 0 ∧ okB w h sh ∧ hb = 1 ∧ bb = 1 ∧ gw = w ∧ gh = h ∧ gs = w * h ∧ mw = w ∧ mh = h ∧ mc = w * h ∧ msh = sh ∧ ib = 1 ∧ isb = 1 ∧ ag = 0 ∧ aw = 0 ∧ an = 0 ∧ mg = 0 ∧ mr = 0 ∧ mt = 0 ∧ RB w h sh 1 mines moves ch mined' number' st' ci' un' hi' ms cd near' nearEnd' 1 lives mvs mnear' degree' mine' M' H old ∧ moves = 0) m1 m2 m3 m4 m5 m6 m7 m8 m9 m10 m11 m12 mnear degree mine M w h sh)
      (fun k hb bb mines moves ch gw gh gs ag ac am aw an mined' number' st' ci' un' hi' near' nearEnd' => P_X12_blank (fun t mw mh mc msh ib isb lives mvs mg mr mt mnear' degree' mine' M' => (k = 4 ∧ t = 1) ∧ (hb = a1 ∧ bb = a2 ∧ mines = a3 ∧ moves = a4 ∧ ch = a5 ∧ gw = a6 ∧ gh = a7 ∧ gs = a8 ∧ ag = a9 ∧ ac = a10 ∧ am = a11 ∧ aw = a12 ∧ an = a13 ∧ mined' = mined ∧ number' = number ∧ st' = st ∧ ci' = ci ∧ un' = un ∧ hi' = hi ∧ near' = near ∧ nearEnd' = nearEnd) ∧ (mw = m2 ∧ mh = m3 ∧ mc = m4 ∧ msh = m5 ∧ ib = m6 ∧ isb = m7 ∧ lives = m8 ∧ mvs = m9 ∧ mg = m10 ∧ mr = m11 ∧ mt = m12 ∧ mnear' = mnear ∧ degree' = degree ∧ mine' = mine ∧ M' = M)) m1 m2 m3 m4 m5 m6 m7 m8 m9 m10 m11 m12 mnear degree mine M w h sh)
      a1 a2 a3 a4 a5 a6 a7 a8 a9 a10 a11 a12 a13 mined number st ci un hi near nearEnd w h sh := by
  unfold P_X11_blank
  refine s_isPossible rh (fun ok _ => ⟨fun _ => ?_, fun z => absurd z (by omega)⟩) (fun ok _ => ⟨fun z => absurd rfl z, fun _ => ?_⟩)
  · refine s_begin ok (fun mined' number' st' ci' un' hi' near' nearEnd' g1 g2 g3 g4 g5 => ?_)
    unfold P_X0_forget P_X12_blank
    refine s_canBe (fun _ _ => ⟨fun _ => ?_, fun z => absurd z (by omega)⟩) (fun z => absurd ok z)
    refine s_setUp ok (fun mnear' degree' mine' M' k1 k2 k3 => ⟨rfl, ok, rfl, rfl, rfl, rfl, rfl, rfl, rfl, rfl, rfl, rfl, rfl, rfl, rfl, rfl, rfl, rfl, rfl, ?_, rfl⟩)
    exact RB.start ok g1 k1 g2 (fun c h0 h1 => by rw [k2 c h0 h1, g3 c h0 h1]) g4 g5 k3
  · unfold P_X12_blank
    exact s_canBe (fun z => absurd z ok) (fun _ _ => ⟨fun z => absurd rfl z, fun _ => ⟨⟨rfl, rfl⟩, ⟨rfl, rfl, rfl, rfl, rfl, rfl, rfl, rfl, rfl, rfl, rfl, rfl, rfl, rfl, rfl, rfl, rfl, rfl, rfl, rfl, rfl⟩, rfl, rfl, rfl, rfl, rfl, rfl, rfl, rfl, rfl, rfl, rfl, rfl, rfl, rfl, rfl⟩⟩)
/-- solved: all that has no mine is shown -/
noncomputable def iB (p : Prop) : Int := @ite _ p (Classical.propDecidable p) 1 0
theorem iB_t {p : Prop} (h : p) : iB p = 1 := by unfold iB; exact if_pos h
theorem iB_f {p : Prop} (h : ¬ p) : iB p = 0 := by unfold iB; exact if_neg h
theorem iB_b (p : Prop) : 0 ≤ iB p ∧ iB p ≤ 1 := by
  by_cases h : p
  · rw [iB_t h]; omega
  · rw [iB_f h]; omega
theorem iB_iff {p q : Prop} (h : p ↔ q) : iB p = iB q := by
  by_cases a : p
  · rw [iB_t a, iB_t (h.mp a)]
  · rw [iB_f a, iB_f (fun z => a (h.mpr z))]
theorem sumL_zero {l : List Int} {f : Int → Int} (h : ∀ x ∈ l, 0 ≤ f x) (hs : sumL l f = 0) : ∀ x ∈ l, f x = 0 := by
  induction l with
  | nil => intro x hx; cases hx
  | cons a l ih =>
    rw [sumL_cons] at hs
    have b := sumL_pos (l := l) (f := f) (fun x hx => h x (List.mem_cons_of_mem _ hx))
    have a0 := h a List.mem_cons_self
    intro x hx
    rcases List.mem_cons.mp hx with rfl | hx
    · omega
    · exact ih (fun x hx => h x (List.mem_cons_of_mem _ hx)) (by omega) x hx
theorem solved_iff {w h sh mines : Int} {mined number st ci un hi : Int → Int} (ok : okB w h sh) (dm : DMi w h sh mined number mines) (ds : DSt w h sh st ci un hi) (gs : GSt w h sh mined number st) : ci 2 = w * h - mines ↔ ∀ c, 0 ≤ c → c < w * h → mined c = 1 ∨ st c = 2 := by
  have hge := wh_ge ok
  have e2 := ds.2.1 2 (by omega) (by omega)
  have em := dm.2.2
  have hn := cells_len (n := w * h) (by omega)
  have h1 : sumL (cellsL (w * h)) (fun _ => 1) = w * h := by rw [sumL_const (k := 1) (fun _ _ => rfl)]; omega
  have h2 : sumL (cellsL (w * h)) (fun _ => 1) = sumL (cellsL (w * h)) (fun c => iK 2 (st c) + mined c) + sumL (cellsL (w * h)) (fun c => 1 - (iK 2 (st c) + mined c)) := sumL_add (fun x _ => by omega)
  have h3 : sumL (cellsL (w * h)) (fun c => iK 2 (st c) + mined c) = sumL (cellsL (w * h)) (fun c => iK 2 (st c)) + sumL (cellsL (w * h)) mined := sumL_add (fun x _ => rfl)
  have pos : ∀ x ∈ cellsL (w * h), 0 ≤ 1 - (iK 2 (st x) + mined x) := by
    intro x hx
    have xc := mem_cells.mp hx
    have m := dm.1 x xc.1 xc.2
    by_cases e : st x = 2
    · rw [show iK 2 (st x) = 1 from if_pos e, gs.2.1 x xc.1 xc.2 e]; omega
    · rw [show iK 2 (st x) = 0 from if_neg e]; omega
  constructor
  · intro q c h0 hc
    have z := sumL_zero pos (by omega) c (mem_cells.mpr ⟨h0, hc⟩)
    have m := dm.1 c h0 hc
    by_cases e : st c = 2
    · exact Or.inr e
    · rw [show iK 2 (st c) = 0 from if_neg e] at z; exact Or.inl (by omega)
  · intro q
    have z : sumL (cellsL (w * h)) (fun c => 1 - (iK 2 (st c) + mined c)) = 0 := by
      rw [sumL_const (k := 0)]
      · omega
      · intro x hx
        have xc := mem_cells.mp hx
        by_cases e : st x = 2
        · rw [show iK 2 (st x) = 1 from if_pos e, gs.2.1 x xc.1 xc.2 e]; omega
        · rw [show iK 2 (st x) = 0 from if_neg e]
          rcases q x xc.1 xc.2 with q | q
          · omega
          · exact absurd q e
    omega
theorem s_isSolved {post : Int → Prop} {w h sh mines : Int} {mined number st ci un hi : Int → Int} (ok : okB w h sh) (dm : DMi w h sh mined number mines) (ds : DSt w h sh st ci un hi) (gs : GSt w h sh mined number st) (h1 : (∀ c, 0 ≤ c → c < w * h → mined c = 1 ∨ st c = 2) → post 1) (h0 : ¬ (∀ c, 0 ≤ c → c < w * h → mined c = 1 ∨ st c = 2) → post 0) : P_X2_isSolved post mines (w * h) ci := by
  have hle := wh_le ok
  have mb := dm.mines_b ok
  have si := solved_iff ok dm ds gs
  unfold P_X2_isSolved
  intro v ev rv
  refine ⟨by omega, exJi ⟨fun z => fun _ => ⟨by omega, h0 (fun y => z (by have := si.mpr y; omega))⟩, fun z => fun _ => ⟨by omega, h1 (si.mp (by omega))⟩⟩⟩
