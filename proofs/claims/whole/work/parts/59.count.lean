/-! clicks in the reference, and count on both sides -/
theorem exJ2j {α : Type} {p : α → Int → Prop} {A : (α → Int → Prop) → Prop} (h : A (fun x y => inR y → p x y)) : ∃ J : α → Int → Prop, A J ∧ ∀ (x : α) (y : Int), inR y → J x y → p x y := ⟨_, h, fun _ _ r k => k r⟩
theorem s_isQuietM {w h sh c : Int} {near degree mine M : Int → Int} {post : Int → Prop} (ok : okB w h sh) (g : GeoM w h sh near degree) (hc : 0 ≤ c ∧ c < w * h) (hm : ∀ c, 0 ≤ c → c < w * h → mine c = 0 ∨ mine c = 1) (hs : ∀ c, 0 ≤ c → c < w * h → 0 ≤ M c ∧ M c ≤ 3)
    (h1 : Qt w h mine (Num w h sh mine) (fun c => tr (M c)) c → post 1) (h0 : ¬ Qt w h mine (Num w h sh mine) (fun c => tr (M c)) c → post 0) : P_X12_isQuiet post near degree mine M c := by
  have hle := wh_le ok
  unfold P_X12_isQuiet
  refine s_isUnknownM (by omega) (hs c hc.1 hc.2) (fun hu _ => exJi (exJ0 ⟨fun z => absurd z (by omega), fun _ => ⟨by omega, fun v ev rv => ⟨fun z _ => ⟨by omega, h0 (fun y => z (by rw [ev]; exact y.2.1.2))⟩, fun z => ?_⟩⟩⟩)) (fun hu _ => exJi (exJ0 ⟨fun _ _ => ⟨by omega, h0 (fun y => hu y.2.1.1)⟩, fun z => absurd rfl z⟩))
  exact s_numberOf ok g hc hm (fun _ => ⟨fun z2 _ => ⟨by omega, h0 (fun y => z2 y.2.2)⟩, fun z2 _ => ⟨by omega, h1 ⟨hc, ⟨hu, by omega⟩, z2⟩⟩⟩)
theorem sumL_up {n c v : Int} {f : Int → Int} (hc : 0 ≤ c ∧ c < n) : sumL (cellsL n) (upZ f c v) = sumL (cellsL n) f + (v - f c) := by
  have := sumL_change (f := f) (g := upZ f c v) (x := c) (pw_nodup (cells_pw (n := n))) (fun y _ e => upZ_n _ _ e)
  rw [this, if_pos (mem_cells.mpr hc), upZ_s]
/-- the labels of the reference -/
def RG (w h sh : Int) (Q : Int → Prop) (rg : Int → Int) : Prop := ∀ c, 0 ≤ c → c < w * h → (¬ Q c → rg c = -1) ∧ (Q c → 0 ≤ rg c ∧ rg c ≤ c ∧ Q (rg c) ∧ Con w h sh Q (rg c) c)
theorem RG.up {w h sh c d : Int} {Q : Int → Prop} {rg : Int → Int} (r : RG w h sh Q rg) (hQc : ∀ c, Q c → 0 ≤ c ∧ c < w * h) (hc : Q c) (hd : d ∈ NB w h sh c) (hg : rg c < rg d) : RG w h sh Q (upZ rg d (rg c)) := by
  have dc := nb_cell hd
  have cc := hQc c hc
  have rc := (r c cc.1 cc.2).2 hc
  have qd : Q d := Classical.byContradiction (fun z => by have := (r d dc.1 dc.2).1 z; omega)
  have rd := (r d dc.1 dc.2).2 qd
  intro x x0 x1
  by_cases e : x = d
  · subst e
    rw [upZ_s]
    exact ⟨fun z => absurd qd z, fun _ => ⟨rc.1, by omega, rc.2.2.1, rc.2.2.2.step hc qd hd⟩⟩
  · rw [upZ_n _ _ e]; exact r x x0 x1
theorem RG.root {w h sh c : Int} {Q : Int → Prop} {rg : Int → Int} (ok : okB w h sh) (r : RG w h sh Q rg) (hQc : ∀ c, Q c → 0 ≤ c ∧ c < w * h) (cl : ∀ c, Q c → ∀ d ∈ NB w h sh c, rg d ≤ rg c) (hc : 0 ≤ c ∧ c < w * h) : rg c = c ↔ Rt w h sh Q c := by
  constructor
  · intro e
    have qc : Q c := Classical.byContradiction (fun z => by have := (r c hc.1 hc.2).1 z; omega)
    refine ⟨qc, fun d hd hcon => ?_⟩
    have : rg c = rg d := hcon (fun x => rg x = rg d) rfl (fun a b ha qa qb hab => by
      have h1 := cl a qa b hab
      have h2 := cl b qb a ((NB_sym ok (hQc a qa) (hQc b qb)).mp hab)
      omega)
    have dc := hQc d hd
    have := ((r d dc.1 dc.2).2 hd).2.1
    omega
  · rintro ⟨qc, hr⟩
    have p := (r c hc.1 hc.2).2 qc
    have := hr (rg c) p.2.2.1 p.2.2.2
    omega
theorem s_clicksM {w h sh : Int} {near degree mine M rg : Int → Int} {post : Int → (Int → Int) → Prop} (ok : okB w h sh) (g : GeoM w h sh near degree) (hm : ∀ c, 0 ≤ c → c < w * h → mine c = 0 ∨ mine c = 1) (hs : ∀ c, 0 ≤ c → c < w * h → 0 ≤ M c ∧ M c ≤ 3)
    (hp : ∀ rg' : Int → Int, post (LO w h sh mine (Num w h sh mine) (fun c => tr (M c))) rg') : P_X12_clicks post (w * h) near degree mine M rg := by
  have hle := wh_le ok
  have hge := wh_ge ok
  have hn := cells_len (n := w * h) (by omega)
  generalize eQ : Qt w h mine (Num w h sh mine) (fun c => tr (M c)) = Q
  have hQ : ∀ c, Q c ↔ (0 ≤ c ∧ c < w * h) ∧ Bs mine (fun c => tr (M c)) c ∧ Num w h sh mine c = 0 := fun c => by rw [← eQ]; exact Iff.rfl
  have hQc : ∀ c, Q c → 0 ≤ c ∧ c < w * h := fun c q => ((hQ c).mp q).1
  unfold P_X12_clicks
  refine ⟨fun n x r => n = (w * h - x).toNat ∧ 0 ≤ x ∧ x ≤ w * h ∧ (∀ c, 0 ≤ c → c < x → (¬ Q c → r c = -1) ∧ (Q c → r c = c)), ⟨_, rfl, by omega, by omega, fun c _ _ => by omega⟩, ?_⟩
  rintro n x r rx ⟨rfl, b1, b2, b3⟩
  refine ⟨fun q => ?_, fun q => ?_⟩
  · have r0 : RG w h sh Q r := fun c h0 h1 => ⟨(b3 c h0 (by omega)).1, fun hq => by
      rw [(b3 c h0 (by omega)).2 hq]
      exact ⟨h0, by omega, hq, Con.refl⟩⟩
    -- how much is still to fall
    have sb : ∀ r : Int → Int, RG w h sh Q r → 0 ≤ sumL (cellsL (w * h)) (fun c => r c + 1) := fun r hr => sumL_pos (fun x hx => by
      have xc := mem_cells.mp hx
      by_cases z : Q x
      · have := (hr x xc.1 xc.2).2 z; omega
      · have := (hr x xc.1 xc.2).1 z; omega)
    have su : ∀ (r : Int → Int) (d v : Int), 0 ≤ d → d < w * h → v < r d → sumL (cellsL (w * h)) (fun c => upZ r d v c + 1) < sumL (cellsL (w * h)) (fun c => r c + 1) := by
      intro r d v h0 h1 hv
      have := sumL_change (f := fun c => r c + 1) (g := fun c => upZ r d v c + 1) (x := d) (pw_nodup (cells_pw (n := w * h))) (fun y _ e => by simp only [upZ_n _ _ e])
      rw [this, if_pos (mem_cells.mpr ⟨h0, h1⟩)]
      simp only [upZ_s]
      omega
    refine ⟨fun n x2 r => (x2 = 0 ∨ x2 = 1) ∧ RG w h sh Q r ∧ (x2 = 0 → ∀ c, Q c → ∀ d ∈ NB w h sh c, r d ≤ r c) ∧ n = (if x2 = 0 then 0 else (sumL (cellsL (w * h)) (fun c => r c + 1)).toNat + 1), ⟨_, Or.inr rfl, r0, fun z => absurd z (by omega), rfl⟩, ?_⟩
    rintro n x2 r1 rx2 ⟨c1, c2, c3, c4⟩
    refine ⟨fun z => ?_, fun z => ?_⟩
    · have root := fun c hc => RG.root (c := c) ok c2 hQc (c3 z) hc
      have neg : ∀ c, 0 ≤ c → c < w * h → (r1 c < 0 ↔ ¬ Q c) := fun c h0 h1 => ⟨fun y hq => by have := ((c2 c h0 h1).2 hq).1; omega, fun hq => by have := (c2 c h0 h1).1 hq; omega⟩
      refine ⟨fun n k x => n = (w * h - x).toNat ∧ 0 ≤ x ∧ x ≤ w * h ∧ k = sumL (cellsL x) (fun c => iB (Rt w h sh Q c)) + sumL (cellsL x) (fun c => iB (Ln w h sh mine (fun c => tr (M c)) Q c)), ⟨_, rfl, by omega, by omega, rfl⟩, ?_⟩
      rintro n k x rk rx ⟨rfl, d1, d2, d3⟩
      have kb := cellsB (f := fun c => iB (Rt w h sh Q c)) ⟨d1, d2⟩ hle (fun c _ _ => iB_b _)
      have kb2 := cellsB (f := fun c => iB (Ln w h sh mine (fun c => tr (M c)) Q c)) ⟨d1, d2⟩ hle (fun c _ _ => iB_b _)
      refine ⟨fun q2 => ?_, fun q2 => ?_⟩
      · have ex : x = w * h := by omega
        subst ex
        have : k = LO w h sh mine (Num w h sh mine) (fun c => tr (M c)) := by unfold LO; rw [eQ]; exact d3
        rw [this]; exact hp _
      · have hx : 0 ≤ x ∧ x < w * h := ⟨d1, by omega⟩
        have hl := NB_len ok hx
        have ge := (g x hx.1 hx.2).1
        refine ⟨fun n b k => n = (degree x - k).toNat ∧ 0 ≤ k ∧ k ≤ degree x ∧ (b = 0 ∨ b = 1) ∧ (b = 1 ↔ ∃ d ∈ (NB w h sh x).take k.toNat, Q d), ⟨_, rfl, by omega, by omega, Or.inl rfl, ⟨fun y => absurd y (by omega), fun ⟨d, hd, _⟩ => by simp at hd⟩⟩, ?_⟩
        rintro n b k2 rb rk2 ⟨rfl, e1, e2, e3, e4⟩
        refine ⟨by omega, fun v ev rv => ⟨fun q3 => ⟨by omega, fun v2 ev2 rv2 => ?_⟩, fun q3 => ?_⟩⟩
        · rw [rowM_end g hx (by omega)] at e4
          have fin : ∀ z : Int, z = iB (Rt w h sh Q x) + iB (Ln w h sh mine (fun c => tr (M c)) Q x) → (inR (k + z) ∧ ∀ k' : Int, k' = k + z → (inR (x + 1) ∧ ∀ x' : Int, x' = x + 1 → ∃ m : Nat, m < (w * h - x).toNat ∧ (m = (w * h - x').toNat ∧ 0 ≤ x' ∧ x' ≤ w * h ∧ k' = sumL (cellsL x') (fun c => iB (Rt w h sh Q c)) + sumL (cellsL x') (fun c => iB (Ln w h sh mine (fun c => tr (M c)) Q c))))) := by
            intro z ez
            have i1 := iB_b (Rt w h sh Q x)
            have i2 := iB_b (Ln w h sh mine (fun c => tr (M c)) Q x)
            refine ⟨by omega, fun k' ek' => nx (by omega) ⟨_, ?_, rfl, by omega, by omega, ?_⟩⟩
            · omega
            · rw [cells_succ d1, sumL_snoc, sumL_snoc]; omega
          have ln0 : ¬ Ln w h sh mine (fun c => tr (M c)) Q x → ¬ Rt w h sh Q x → ∀ z : Int, z = 0 → z = iB (Rt w h sh Q x) + iB (Ln w h sh mine (fun c => tr (M c)) Q x) := by
            intro y1 y2 z ez
            rw [iB_f y1, iB_f y2]; omega
          refine exJi (exJ0 ⟨fun q4 _ => fin 1 ?_, fun q4 => ?_⟩)
          · have rt := (root x hx).mp (by omega)
            rw [iB_t rt, iB_f (fun y => y.2.1 rt.1)]
            omega
          · have nrt : ¬ Rt w h sh Q x := fun y => q4 (by rw [ev2]; exact (root x hx).mpr y)
            refine s_isUnknownM (by omega) (hs x hx.1 hx.2) (fun hu _ => exJ0 ⟨fun z => absurd z (by omega), fun _ => ⟨by omega, fun v3 ev3 rv3 => ⟨fun z2 _ => fin 0 (ln0 (fun y => z2 (by rw [ev3]; exact y.1.2)) nrt 0 rfl), fun z2 => ⟨by omega, fun v4 ev4 rv4 => ⟨fun z3 _ => fin 0 (ln0 (fun y => by have := (neg x hx.1 hx.2).mpr y.2.1; omega) nrt 0 rfl), fun z3 => ⟨fun z4 _ => fin 0 (ln0 (fun y => ?_) nrt 0 rfl), fun z4 _ => fin 1 ?_⟩⟩⟩⟩⟩⟩) (fun hu _ => exJ0 ⟨fun _ _ => fin 0 (ln0 (fun y => hu y.1.1) nrt 0 rfl), fun z => absurd rfl z⟩)
            · obtain ⟨d, hd, hqd⟩ := e4.mp (by omega)
              exact y.2.2 d hd hqd
            · have ln : Ln w h sh mine (fun c => tr (M c)) Q x := ⟨⟨hu, by omega⟩, (neg x hx.1 hx.2).mp (by omega), fun d hd hqd => by have := e4.mpr ⟨d, hd, hqd⟩; omega⟩
              rw [iB_f nrt, iB_t ln]; omega
        · obtain ⟨m, t⟩ := rowM_at g hx e1 (by omega)
          have mc := nb_cell m
          have next : ∀ b2 : Int, (b2 = 0 ∨ b2 = 1) → (b2 = 1 ↔ (b = 1 ∨ Q (near (8 * x + k2)))) → ∃ n : Nat, n < (degree x - k2).toNat ∧ (n = (degree x - (k2 + 1)).toNat ∧ 0 ≤ k2 + 1 ∧ k2 + 1 ≤ degree x ∧ (b2 = 0 ∨ b2 = 1) ∧ (b2 = 1 ↔ ∃ d ∈ (NB w h sh x).take (k2 + 1).toNat, Q d)) := by
            intro b2 y1 y2
            refine ⟨_, ?_, rfl, by omega, by omega, y1, ?_⟩
            · omega
            · rw [y2, e4, show (k2 + 1).toNat = k2.toNat + 1 by omega, t]
              constructor
              · rintro (⟨d, hd, hq⟩ | hq)
                · exact ⟨d, List.mem_append_left _ hd, hq⟩
                · exact ⟨_, List.mem_append_right _ (List.mem_singleton.mpr rfl), hq⟩
              · rintro ⟨d, hd, hq⟩
                rcases List.mem_append.mp hd with hd | hd
                · exact Or.inl ⟨d, hd, hq⟩
                · rw [List.mem_singleton.mp hd] at hq; exact Or.inr hq
          refine exJi (exJ0 ⟨fun z4 _ => nx (by omega) (next 1 (Or.inr rfl) ⟨fun _ => Or.inl (by omega), fun _ => rfl⟩), fun z4 => ⟨by omega, fun v3 ev3 rv3 => ?_⟩⟩)
          subst ev3
          refine ⟨by omega, fun v4 ev4 rv4 => ⟨fun z5 _ => nx (by omega) (next 0 (Or.inl rfl) ⟨fun y => absurd y (by omega), fun y => ?_⟩), fun z5 _ => nx (by omega) (next 1 (Or.inr rfl) ⟨fun _ => Or.inr ?_, fun _ => rfl⟩)⟩⟩
          · rcases y with y | y
            · omega
            · exact absurd y ((neg _ mc.1 mc.2).mp (by omega))
          · exact Classical.byContradiction (fun y => by have := (neg _ mc.1 mc.2).mpr y; omega)
    · rw [if_neg z] at c4
      refine ⟨fun m b x r2 => m = (w * h - x).toNat ∧ 0 ≤ x ∧ x ≤ w * h ∧ (b = 0 ∨ b = 1) ∧ RG w h sh Q r2 ∧ (b = 0 → r2 = r1 ∧ ∀ c, Q c → c < x → ∀ d ∈ NB w h sh c, r2 d ≤ r2 c) ∧ (b = 1 → sumL (cellsL (w * h)) (fun c => r2 c + 1) < sumL (cellsL (w * h)) (fun c => r1 c + 1)), ⟨_, rfl, by omega, by omega, Or.inl rfl, c2, fun _ => ⟨rfl, fun c hc hx => by have := hQc c hc; omega⟩, fun y => absurd y (by omega)⟩, ?_⟩
      rintro m b x r2 rb rx ⟨rfl, d1, d2, d3, d4, d5, d6⟩
      refine ⟨fun z3 => ?_, fun z3 => ?_⟩
      · refine ⟨if b = 0 then 0 else (sumL (cellsL (w * h)) (fun c => r2 c + 1)).toNat + 1, ?_, d3, d4, fun z4 c hc d hd => (d5 z4).2 c hc (by have := hQc c hc; omega) d hd, rfl⟩
        have s1 := sb r2 d4
        have s2 := sb r1 c2
        rcases d3 with e | e
        · rw [if_pos e]; omega
        · rw [if_neg (by omega)]
          have := d6 e
          omega
      · have hx : 0 ≤ x ∧ x < w * h := ⟨d1, by omega⟩
        have hl := NB_len ok hx
        have ge := (g x hx.1 hx.2).1
        refine ⟨fun m b2 k r3 => m = (degree x - k).toNat ∧ 0 ≤ k ∧ k ≤ degree x ∧ (b2 = 0 ∨ b2 = 1) ∧ RG w h sh Q r3 ∧ (b2 = 0 → r3 = r1 ∧ (∀ c, Q c → c < x → ∀ d ∈ NB w h sh c, r3 d ≤ r3 c) ∧ (Q x → ∀ d ∈ (NB w h sh x).take k.toNat, r3 d ≤ r3 x)) ∧ (b2 = 1 → sumL (cellsL (w * h)) (fun c => r3 c + 1) < sumL (cellsL (w * h)) (fun c => r1 c + 1)), ⟨_, rfl, by omega, by omega, d3, d4, fun y => ⟨(d5 y).1, (d5 y).2, fun _ d hd => by simp at hd⟩, d6⟩, ?_⟩
        rintro m b2 k r3 rb2 rk ⟨rfl, e1, e2, e3, e4, e5, e6⟩
        refine ⟨by omega, fun v ev rv => ⟨(b2 = 0 → Q x → ∀ d ∈ NB w h sh x, r3 d ≤ r3 x), ⟨fun y1 y2 y3 => ?_, fun y1 => ⟨by omega, fun v2 ev2 rv2 => ⟨fun y2 y3 y4 => ?_, fun y2 => ?_⟩⟩⟩, fun hJ => nx (by omega) ⟨_, ?_, rfl, by omega, by omega, e3, e4, fun y => ⟨(e5 y).1, fun c hc hcx => ?_⟩, e6⟩⟩⟩
        · have := (e5 y2).2.2 y3
          rw [rowM_end g hx (by omega)] at this
          exact this
        · exfalso
          have := ((e4 x hx.1 hx.2).2 y4).1
          omega
        · have qx : Q x := Classical.byContradiction (fun y => by have := (e4 x hx.1 hx.2).1 y; omega)
          obtain ⟨mm, t⟩ := rowM_at g hx e1 (by omega)
          have mc := nb_cell mm
          refine ⟨by omega, fun v3 ev3 rv3 => ?_⟩
          subst ev3
          refine ⟨by omega, fun v4 ev4 rv4 => ⟨by omega, fun v5 ev5 rv5 => exJ2i ⟨fun y3 _ => nx (by omega) ⟨_, ?_, rfl, by omega, by omega, e3, e4, fun y => ⟨(e5 y).1, (e5 y).2.1, fun hq d hd => ?_⟩, e6⟩, fun y3 => ⟨by omega, fun v6 ev6 rv6 => ⟨by omega, fun r4 er4 _ => nx (by omega) ⟨_, ?_, rfl, by omega, by omega, Or.inr rfl, ?_, fun y => absurd y (by omega), fun _ => ?_⟩⟩⟩⟩⟩⟩
          · omega
          · rw [show (k + 1).toNat = k.toNat + 1 by omega, t] at hd
            rcases List.mem_append.mp hd with hd | hd
            · exact (e5 y).2.2 hq d hd
            · rw [List.mem_singleton.mp hd]; omega
          · omega
          · rw [er4, ev6]; exact e4.up hQc qx mm (by omega)
          · have s1 := su r3 _ v6 mc.1 mc.2 (by omega)
            rw [← er4] at s1
            rcases e3 with e | e
            · rw [(e5 e).1] at s1; exact s1
            · have := e6 e; omega
        · omega
        · by_cases ec : c = x
          · rw [ec]; exact hJ y (by rw [← ec]; exact hc)
          · exact (e5 y).2.1 c hc (by omega)
  · have next : ∀ v : Int, ((¬ Q x → v = -1) ∧ (Q x → v = x)) → ((0 ≤ x ∧ x < 144) ∧ ∀ r' : Int → Int, r' = upZ r x v → (inR (x + 1) ∧ ∀ x' : Int, x' = x + 1 → ∃ m : Nat, m < (w * h - x).toNat ∧ (m = (w * h - x').toNat ∧ 0 ≤ x' ∧ x' ≤ w * h ∧ (∀ c, 0 ≤ c → c < x' → (¬ Q c → r' c = -1) ∧ (Q c → r' c = c))))) := by
      intro v hv
      refine ⟨by omega, fun r' er => nx (by omega) ⟨_, ?_, rfl, by omega, by omega, fun c h0 h1 => ?_⟩⟩
      · omega
      · rw [er]
        by_cases e : c = x
        · rw [e, upZ_s]; exact hv
        · rw [upZ_n _ _ e]; exact b3 c h0 (by omega)
    refine s_isQuietM ok g ⟨b1, by omega⟩ hm hs (fun hq _ => ⟨fun z => z = x, ⟨fun z => absurd z (by omega), fun _ => rfl⟩, fun z _ ez => next z ?_⟩) (fun hq _ => ⟨fun z => z = -1, ⟨fun _ => rfl, fun z => absurd rfl z⟩, fun z _ ez => next z ?_⟩)
    · rw [eQ] at hq; exact ⟨fun y => absurd hq y, fun _ => ez⟩
    · rw [eQ] at hq; exact ⟨fun _ => ez, fun y => absurd y hq⟩
theorem LO_congr {w h sh : Int} {mine mined num number s st : Int → Int} (e1 : Eqc (w * h) mine mined) (e2 : Eqc (w * h) num number) (e3 : Eqc (w * h) s st) : LO w h sh mine num s = LO w h sh mined number st := by
  have eb : ∀ c, 0 ≤ c → c < w * h → (Bs mine s c ↔ Bs mined st c) := fun c h0 h1 => by unfold Bs; rw [e1 c h0 h1, e3 c h0 h1]
  have eq : Qt w h mine num s = Qt w h mined number st := by
    funext c
    apply propext
    unfold Qt
    constructor
    · rintro ⟨a, b, d⟩; exact ⟨a, (eb c a.1 a.2).mp b, by rw [← e2 c a.1 a.2]; exact d⟩
    · rintro ⟨a, b, d⟩; exact ⟨a, (eb c a.1 a.2).mpr b, by rw [e2 c a.1 a.2]; exact d⟩
  unfold LO
  rw [eq]
  congr 1
  refine sumL_congr (fun x hx => iB_iff ?_)
  have xc := mem_cells.mp hx
  unfold Ln
  rw [eb x xc.1 xc.2]
theorem s_failM {post : Int → Int → Prop} {t k : Int} (hp : post 0 k) : P_X12_fail post t k := hp
theorem op_count {w h sh bb mines moves ch ib lives mvs thr what : Int} {mined number st ci un hi ms cd wt seen near nearEnd mnear degree mine M old rg : Int → Int} {H : Int → Int64} (R : RB w h sh bb mines moves ch mined number st ci un hi ms cd near nearEnd ib lives mvs mnear degree mine M H old) (hmv : moves ≤ 512) :
    P_X11_count (fun res wt' seen' => P_X12_count (fun b t rg' => t = 0 ∧ b = res) thr w h (w * h) 1 lives mvs mnear degree mine M rg what)
      (fun k wt' seen' => P_X12_count (fun _ t rg' => t = k) thr w h (w * h) 1 lives mvs mnear degree mine M rg what)
      1 mines moves w h (w * h) mined number st ci wt seen near nearEnd what := by
  obtain ⟨ok, gD, gM, dm, em, ds, eM, gs, el, emv, L, eb⟩ := id R
  have hle := wh_le ok
  have hge := wh_ge ok
  have l1 := L.1
  have hb := hits_b (n := w * h) (st := st) (by omega)
  have mb := dm.mines_b ok
  obtain ⟨w0, w1, hh0, hh3, -⟩ := id ok
  have hM : ∀ y, 0 ≤ y → y < w * h → 0 ≤ M y ∧ M y ≤ 3 := fun y y0 y1 => by rw [eM y y0 y1]; exact tr_b (ds.1 y y0 y1)
  have hmine : ∀ y, 0 ≤ y → y < w * h → mine y = 0 ∨ mine y = 1 := fun y y0 y1 => by rw [em y y0 y1]; exact dm.1 y y0 y1
  have emines : sumL (cellsL (w * h)) mine = mines := by rw [dm.2.2]; exact sumL_congr (fun x hx => by have := mem_cells.mp hx; exact em x this.1 this.2)
  have ek : ∀ k, 0 ≤ k → k ≤ 3 → sumL (cellsL (w * h)) (fun c => iK k (M c)) = ci (tr k) := fun k k0 k1 => by
    have kb := tr_b (s := k) ⟨k0, k1⟩
    rw [ds.2.1 (tr k) kb.1 kb.2]
    exact sumL_congr (fun x hx => by have := mem_cells.mp hx; rw [eM x this.1 this.2]; exact iK_tr (ds.1 x this.1 this.2))
  have e1 : sumL (cellsL (w * h)) (fun c => iK 1 (M c)) = ci 2 := ek 1 (by omega) (by omega)
  have e2 : sumL (cellsL (w * h)) (fun c => iK 2 (M c)) = ci 1 := ek 2 (by omega) (by omega)
  have solv : (∀ c, 0 ≤ c → c < w * h → mine c = 1 ∨ M c = 1) ↔ (∀ c, 0 ≤ c → c < w * h → mined c = 1 ∨ st c = 2) := by
    have m1 : ∀ c, 0 ≤ c → c < w * h → (M c = 1 ↔ st c = 2) := fun c h0 h1 => by
      rw [eM c h0 h1]
      have := ds.1 c h0 h1
      rcases (show st c = 0 ∨ st c = 1 ∨ st c = 2 ∨ st c = 3 by omega) with e | e | e | e <;> rw [e] <;> decide
    constructor
    · intro y c h0 h1; rw [← em c h0 h1, ← m1 c h0 h1]; exact y c h0 h1
    · intro y c h0 h1; rw [em c h0 h1, m1 c h0 h1]; exact y c h0 h1
  unfold P_X11_count
  refine s_needBoard1 ⟨fun q => ?_, fun q => ?_, fun q => ?_, fun q v ev rv => ?_, fun q v ev rv => ?_, fun q => s_lives ok ds (fun _ => ?_), fun q => ?_, fun q => ?_, fun q => ?_, fun q => ?_⟩
  · unfold P_X12_count
    refine ⟨fun _ => s_within (fun _ _ => ⟨fun _ => ⟨fun z => absurd z (by omega), fun _ => exJi ⟨fun z => absurd q z, fun _ _ => ⟨rfl, rfl⟩⟩⟩, fun z => absurd z (by omega)⟩) (fun z => absurd ⟨by omega, by omega⟩ z), fun z => absurd z (by omega)⟩
  · unfold P_X12_count
    refine ⟨fun _ => s_within (fun _ _ => ⟨fun _ => ⟨fun z => absurd z (by omega), fun _ => exJi ⟨fun z => ⟨fun z => absurd q z, fun _ _ => ⟨rfl, rfl⟩⟩, fun z => absurd z (by omega)⟩⟩, fun z => absurd z (by omega)⟩) (fun z => absurd ⟨by omega, by omega⟩ z), fun z => absurd z (by omega)⟩
  · unfold P_X12_count
    refine ⟨fun _ => s_within (fun _ _ => ⟨fun _ => ⟨fun z => absurd z (by omega), fun _ => exJi ⟨fun z => ⟨fun _ => s_minesM (by omega) hmine (fun _ _ => ⟨rfl, emines⟩), fun z => absurd z (by omega)⟩, fun z => absurd z (by omega)⟩⟩, fun z => absurd z (by omega)⟩) (fun z => absurd ⟨by omega, by omega⟩ z), fun z => absurd z (by omega)⟩
  · unfold P_X12_count
    refine ⟨fun _ => s_within (fun _ _ => ⟨fun _ => ⟨fun _ => ⟨fun z => absurd z (by omega), fun _ => exJi ⟨fun z => absurd q z, fun _ => s_manyM (by omega) (fun _ _ => ⟨rfl, by rw [e1, ev]⟩)⟩⟩, fun z => absurd z (by omega)⟩, fun z => absurd z (by omega)⟩) (fun z => absurd ⟨by omega, by omega⟩ z), fun z => absurd z (by omega)⟩
  · unfold P_X12_count
    refine ⟨fun _ => s_within (fun _ _ => ⟨fun _ => ⟨fun _ => ⟨fun z => absurd z (by omega), fun _ => exJi ⟨fun z => ⟨fun z => absurd q z, fun _ => s_manyM (by omega) (fun _ _ => ⟨rfl, by rw [e2, ev]⟩)⟩, fun z => absurd z (by omega)⟩⟩, fun z => absurd z (by omega)⟩, fun z => absurd z (by omega)⟩) (fun z => absurd ⟨by omega, by omega⟩ z), fun z => absurd z (by omega)⟩
  · unfold P_X12_count
    refine ⟨fun _ => s_within (fun _ _ => ⟨fun _ => ⟨fun _ => ⟨fun z => absurd z (by omega), fun _ => exJi ⟨fun z => ⟨fun z2 _ => ⟨rfl, el⟩, fun z2 => absurd z2 (by omega)⟩, fun z => absurd z (by omega)⟩⟩, fun z => absurd z (by omega)⟩, fun z => absurd z (by omega)⟩) (fun z => absurd ⟨by omega, by omega⟩ z), fun z => absurd z (by omega)⟩
  · unfold P_X12_count
    refine ⟨fun _ => s_within (fun _ _ => ⟨fun _ => ⟨fun _ => ⟨fun _ => exJ2j ⟨fun z => absurd q z, fun _ _ => ⟨rfl, emv⟩⟩, fun z => absurd z (by omega)⟩, fun z => absurd z (by omega)⟩, fun z => absurd z (by omega)⟩) (fun z => absurd ⟨by omega, by omega⟩ z), fun z => absurd z (by omega)⟩
  · refine s_isSolved ok dm ds gs (fun y _ => exJi ⟨fun z => absurd z (by omega), fun _ _ => ?_⟩) (fun y _ => exJi ⟨fun _ _ => ?_, fun z => absurd rfl z⟩)
    · unfold P_X12_count
      refine ⟨fun _ => s_within (fun _ _ => ⟨fun _ => ⟨fun _ => ⟨fun _ => exJ2j ⟨fun z => ⟨fun z => absurd q z, fun _ => s_isSolvedM (by omega) hmine (fun _ _ => ⟨fun z => absurd z (by omega), fun _ _ => ⟨rfl, rfl⟩⟩) (fun z => absurd (solv.mpr y) z)⟩, fun z => absurd z (by omega)⟩, fun z => absurd z (by omega)⟩, fun z => absurd z (by omega)⟩, fun z => absurd z (by omega)⟩) (fun z => absurd ⟨by omega, by omega⟩ z), fun z => absurd z (by omega)⟩
    · unfold P_X12_count
      refine ⟨fun _ => s_within (fun _ _ => ⟨fun _ => ⟨fun _ => ⟨fun _ => exJ2j ⟨fun z => ⟨fun z => absurd q z, fun _ => s_isSolvedM (by omega) hmine (fun z => absurd (solv.mp z) y) (fun _ _ => ⟨fun _ _ => ⟨rfl, rfl⟩, fun z => absurd rfl z⟩)⟩, fun z => absurd z (by omega)⟩, fun z => absurd z (by omega)⟩, fun z => absurd z (by omega)⟩, fun z => absurd z (by omega)⟩) (fun z => absurd ⟨by omega, by omega⟩ z), fun z => absurd z (by omega)⟩
  · refine s_leastOpenings ok gD dm (fun wt' seen' _ => ?_)
    unfold P_X12_count
    refine ⟨fun _ => s_within (fun _ _ => ⟨fun _ => ⟨fun _ => ⟨fun _ => exJ2j ⟨fun z => ⟨fun _ => s_clicksM ok gM hmine hM (fun rg' _ _ => ⟨rfl, ?_⟩), fun z => absurd z (by omega)⟩, fun z => absurd z (by omega)⟩, fun z => absurd z (by omega)⟩, fun z => absurd z (by omega)⟩, fun z => absurd z (by omega)⟩) (fun z => absurd ⟨by omega, by omega⟩ z), fun z => absurd z (by omega)⟩
    exact LO_congr em (fun y y0 y1 => by rw [num_congr em, ← dm.2.1 y y0 y1]) (trEq eM)
  · unfold P_X12_count
    refine ⟨fun _ => s_within (fun z => absurd z (by omega)) (fun _ _ => ⟨fun z => absurd rfl z, fun _ => s_failM (fun _ => rfl)⟩), fun z => absurd z (by omega)⟩
