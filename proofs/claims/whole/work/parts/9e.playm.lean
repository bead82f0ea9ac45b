/-! the reference plays the same -/
theorem GSt.cong {w h sh : Int} {mined number st st' : Int → Int} (e : Eqc (w * h) st st') (g : GSt w h sh mined number st) : GSt w h sh mined number st' := by
  obtain ⟨g1, g2, g3, g4⟩ := g
  refine ⟨fun c c0 c1 => by rw [← e c c0 c1]; exact g1 c c0 c1, fun c c0 c1 => by rw [← e c c0 c1]; exact g2 c c0 c1, fun c c0 c1 => by rw [← e c c0 c1]; exact g3 c c0 c1, fun c c0 c1 k n d md => ?_⟩
  rw [← e d (nb_cell md).1 (nb_cell md).2]
  rw [← e c c0 c1] at k
  exact g4 c c0 c1 k n d md
theorem MLf_lfS {w h sh : Int} {near degree mine M mined number st : Int → Int} (E : ME w h sh near degree mine M mined number st) : MLf (w * h) mine M = lfS (w * h) mined st := by
  unfold MLf lfS
  rw [sumL_congr (g := mined) (fun c mc => E.2.2.1 c (mem_cells.1 mc).1 (mem_cells.1 mc).2)]
  congr 1
  refine sumL_congr (fun c mc => ?_)
  have hc := mem_cells.1 mc
  have e := E.2.2.2.2.2.1 c hc.1 hc.2
  have b := E.2.2.2.2.1.1 c hc.1 hc.2
  rw [e]
  show (if tr (st c) = 3 then (1 : Int) else 0) = if st c = 3 then 1 else 0
  have : tr (st c) = 3 ↔ st c = 3 := by
    unfold tr
    split
    · omega
    · split <;> omega
  by_cases k : st c = 3
  · rw [if_pos k, if_pos (this.2 k)]
  · rw [if_neg k, if_neg (fun y => k (this.1 y))]
/-- an opening in the reference, along one that is known -/
theorem s_uncM {w h sh x lives : Int} {near degree mine M mined number st st1 : Int → Int} {post : Int → (Int → Int) → Prop} (E : ME w h sh near degree mine M mined number st) (hx : 0 ≤ x ∧ x < w * h) (hu : st x ≤ 1) (mx : mined x = 0) (ur : UncR w h sh mined number st x st1) (hlv : -1000 ≤ lives ∧ lives ≤ 1000)
    (hp : ∀ M' : Int → Int, ME w h sh near degree mine M' mined number st1 → post lives M') : P_X12_uncover post (w * h) lives near degree mine M x := by
  obtain ⟨ok, g, em, m01, gs, eM, en⟩ := id E
  have hm : ∀ c, 0 ≤ c → c < w * h → mine c = 0 ∨ mine c = 1 := fun c c0 c1 => by rw [em c c0 c1]; exact m01 c c0 c1
  have etr : ∀ c, 0 ≤ c → c < w * h → tr (M c) = st c := fun c c0 c1 => by rw [eM c c0 c1, tr_tr]
  have enum : ∀ c, 0 ≤ c → c < w * h → number c = Num w h sh mine c := fun c c0 c1 => by
    rw [en c c0 c1]
    exact sumL_congr (fun d md => (em d (nb_cell md).1 (nb_cell md).2).symm)
  refine s_uncoverM ok g hx hm (fun c c0 c1 => by rw [eM c c0 c1]; exact tr_b (gs.1 c c0 c1)) (by rw [etr x hx.1 hx.2]; exact hu) hlv (fun c c0 c1 k n d md => ?_) (fun lives' M' hs' uu => ?_)
  · rw [etr d (nb_cell md).1 (nb_cell md).2]
    rw [etr c c0 c1] at k
    exact gs.2.2.2 c c0 c1 k (by rw [enum c c0 c1]; exact n) d md
  · have mx' : mine x = 0 := by rw [em x hx.1 hx.2]; exact mx
    rcases uu with ⟨q, _⟩ | ⟨_, el, fl⟩
    · omega
    · have e1 : Eqc (w * h) st1 (fun c => tr (M' c)) := UncR.uniq hx (fun c c0 c1 => (em c c0 c1).symm) enum (fun c c0 c1 => (etr c c0 c1).symm) (fun c c0 c1 n => num_zero hm n) ur (Or.inr ⟨mx', fl⟩)
      rw [el]
      refine hp M' ⟨ok, g, em, m01, (gs.unc hx hu ur).1, fun c c0 c1 => ?_, en⟩
      rw [e1 c c0 c1, tr_tr]
theorem US_none {w h sh : Int} {mined number f st : Int → Int} (hn : ∀ c, 0 ≤ c → c < w * h → ¬ (f c = 1 ∧ st c ≤ 1)) : ∀ {k : Nat} {a : Int}, (k : Int) ≤ w * h → US w h sh mined number f k st a st a := by
  intro k
  induction k with
  | zero => intro a _; exact ⟨fun _ _ _ => rfl, rfl⟩
  | succ k ih => intro a hk; exact ⟨fun q => absurd q (hn _ (by omega) (by omega)), fun _ => ih (by omega)⟩
theorem ME.cong {w h sh : Int} {near degree mine M mined number st st' : Int → Int} (e : Eqc (w * h) st st') (E : ME w h sh near degree mine M mined number st) : ME w h sh near degree mine M mined number st' := ⟨E.1, E.2.1, E.2.2.1, E.2.2.2.1, E.2.2.2.2.1.cong e, fun c c0 c1 => by rw [← e c c0 c1]; exact E.2.2.2.2.2.1 c c0 c1, E.2.2.2.2.2.2⟩
theorem s_isPlayedM {w h sh most lives q0 N0 : Int} {near degree mine M0 mined number z st1 ste sf0 mf0 us0 po0 pl0 sz0 ways0 wth0 ms0 rs0 bt rc0 mo0 : Int → Int} {n0 : Nat} {post : Int → (Int) → (Int) → (Int) → (Int → Int) → (Int → Int) → (Int → Int) → (Int → Int) → (Int → Int) → (Int → Int) → (Int → Int) → (Int → Int) → (Int → Int) → (Int → Int) → (Int → Int) → (Int → Int) → (Int → Int) → Prop} (ok : okB w h sh) (g : GeoM w h sh near degree) (em : Eqc (w * h) mine mined) (m01 : ∀ c, 0 ≤ c → c < w * h → mined c = 0 ∨ mined c = 1) (en : ∀ c, 0 ≤ c → c < w * h → number c = Num w h sh mined c) (bt_ok : BT bt) (hmost : 1 ≤ most ∧ most ≤ 3) (hlv : -1000 ≤ lives ∧ lives ≤ 1000) (hf : mined (fc w h) = 0) (hz : ∀ c, 0 ≤ c → c < w * h → z c = 0) (ur : UncR w h sh mined number z (fc w h) st1) (pe : PE w h sh mined number most n0 st1 1 ste)
    (hp : ∀ (v q N : Int) (M sf mf us po pl sz ways wth ms rs rc mo : Int → Int), (v = 0 ∨ v = 1) → (v = 1 ↔ Slv (w * h) mined ste) → ME w h sh near degree mine M mined number ste → post v lives q N M sf mf us po pl sz ways wth ms rs rc mo) :
    P_X12_isPlayed post w h (w * h) sh lives q0 N0 near degree mine M0 sf0 mf0 us0 po0 pl0 sz0 ways0 wth0 ms0 rs0 bt rc0 mo0 (fc w h) most := by
  have hle := wh_le ok
  have hge := wh_ge ok
  have fb := fc_in ok
  unfold P_X12_isPlayed
  refine s_closeAllM ⟨by omega, hle⟩ (fun M1 hM1 _ => ?_)
  have E0 : ME w h sh near degree mine M1 mined number z := ⟨ok, g, em, m01, GSt.zero hz, fun c c0 c1 => by rw [hM1 c c0 c1, hz c c0 c1]; rfl, en⟩
  refine s_uncM E0 fb (by rw [hz _ fb.1 fb.2]; decide) hf ur hlv (fun M2 E2 => ?_)
  refine ⟨fun n g lv q N M sf mf us po pl sz ways wth ms rs rc mo => ∃ (k : Nat) (st : Int → Int), n = 5 * k + (4 - g).toNat ∧ 1 ≤ g ∧ g ≤ most + 1 ∧ lv = lives ∧ ME w h sh near degree mine M mined number st ∧ PE w h sh mined number most k st g ste, ⟨_, n0, st1, rfl, by omega, by omega, rfl, E2, pe⟩, ?_⟩
  rintro n g lives2 q N M sf mf us po pl sz ways wth ms rs rc mo rg ⟨k, st, rfl, b1, b2, rfl, b3, b4⟩
  have gs := b3.2.2.2.2.1
  refine ⟨fun y => ?_, fun y => ?_⟩
  · cases k with
    | succ k => have := b4.1; omega
    | zero =>
      obtain ⟨-, e⟩ := b4
      have E3 := b3.cong e
      have hm : ∀ c, 0 ≤ c → c < w * h → mine c = 0 ∨ mine c = 1 := fun c c0 c1 => by rw [em c c0 c1]; exact m01 c c0 c1
      have key : (∀ c, 0 ≤ c → c < w * h → mine c = 1 ∨ M c = 1) ↔ Slv (w * h) mined ste := by
        have t : ∀ c, 0 ≤ c → c < w * h → (M c = 1 ↔ ste c = 2) := fun c c0 c1 => by
          have e1 := E3.2.2.2.2.2.1 c c0 c1
          constructor
          · intro k
            rw [k] at e1
            have := tr_tr (ste c)
            rw [← e1] at this
            exact this.symm
          · intro k
            rw [e1, k]
            decide
        refine ⟨fun hh c c0 c1 => ?_, fun hh c c0 c1 => ?_⟩
        · rcases hh c c0 c1 with k | k
          · exact Or.inl (by rw [← em c c0 c1]; exact k)
          · exact Or.inr ((t c c0 c1).1 k)
        · rcases hh c c0 c1 with k | k
          · exact Or.inl (by rw [em c c0 c1]; exact k)
          · exact Or.inr ((t c c0 c1).2 k)
      exact s_isSolvedM ⟨by omega, hle⟩ hm (fun s _ => hp 1 _ _ _ _ _ _ _ _ _ _ _ _ _ _ _ (Or.inr rfl) ⟨fun _ => key.1 s, fun _ => rfl⟩ E3) (fun s _ => hp 0 _ _ _ _ _ _ _ _ _ _ _ _ _ _ _ (Or.inl rfl) ⟨fun r => absurd r (by decide), fun r => absurd (key.2 r) s⟩ E3)
  · have hg : 1 ≤ g ∧ g ≤ 3 := ⟨b1, by omega⟩
    refine s_findUpToM b3 bt_ok hg (fun q2 N2 sf2 mf2 us2 po2 pl2 sz2 ways2 wth2 ms2 rs2 rc2 mo2 qg h01 => ?_)
    rw [MLf_lfS b3] at qg
    have snd := QG.sound hg m01 gs qg
    -- what comes next, by the trace, or because all is solved
    have nxt : ∃ (F s2 : Int → Int) (a2 : Int) (k' : Nat), (∀ d, 0 ≤ d → d < w * h → F d = fM st sf2 mf2 d) ∧ US w h sh mined number F (w * h).toNat st 0 s2 a2 ∧ PE w h sh mined number most k' s2 (if a2 = 0 then g + 1 else 1) ste ∧ (if a2 = 0 then k' ≤ k else k' + 1 ≤ k) := by
      cases k with
      | succ k =>
        obtain ⟨-, F, s2, a2, qF, us, pe'⟩ := b4
        exact ⟨F, s2, a2, k, QG.eq hg qF qg, us, pe', by split <;> omega⟩
      | zero =>
        obtain ⟨o, e⟩ := b4
        have sv := o.resolve_left y
        refine ⟨fM st sf2 mf2, st, 0, 0, fun _ _ _ => rfl, US_none (fun c c0 c1 kk => ?_) (by omega), ?_, by rw [if_pos rfl]; omega⟩
        · have m0 := snd c c0 c1 kk.1
          rcases sv c c0 c1 with r | r <;> omega
        · rw [if_pos rfl]
          exact ⟨Or.inr sv, e⟩
    obtain ⟨F, s2, a2, k', eF, us, pe', hk'⟩ := nxt
    refine ⟨fun n a x lv M => n = (w * h - x).toNat ∧ 0 ≤ x ∧ x ≤ w * h ∧ lv = lives2 ∧ (a = 0 ∨ a = 1) ∧ ∃ cur : Int → Int, ME w h sh near degree mine M mined number cur ∧ US w h sh mined number F (w * h - x).toNat cur a s2 a2 ∧ ∀ c, 0 ≤ c → c < w * h → cur c ≤ 1 → st c ≤ 1, ⟨_, rfl, by omega, by omega, rfl, Or.inl rfl, st, b3, by rw [Int.sub_zero]; exact us, fun _ _ _ k => k⟩, ?_⟩
    rintro n a x lv M3 ra rx ⟨rfl, c1, c2, rfl, c3, cur, c4, c5, c6⟩
    refine ⟨fun y2 => ?_, fun y2 => ⟨by omega, fun v ev hv => ?_⟩⟩
    · rw [show (w * h - x).toNat = 0 by omega] at c5
      obtain ⟨e1, e2⟩ := c5
      subst e2
      have E4 := c4.cong e1
      refine exJi ⟨fun r => ⟨by omega, fun _ => ⟨_, ?_, k', s2, rfl, by omega, by omega, rfl, E4, ?_⟩⟩, fun r _ => ⟨_, ?_, k', s2, rfl, by omega, by omega, rfl, E4, ?_⟩⟩
      · rw [if_pos r] at hk'; omega
      · rw [if_pos r] at pe'; exact pe'
      · rw [if_neg r] at hk'; omega
      · rw [if_neg r] at pe'; exact pe'
    · have hx : 0 ≤ x ∧ x < w * h := ⟨c1, by omega⟩
      have ek : (w * h - x).toNat = (w * h - (x + 1)).toNat + 1 := by omega
      have ek2 : w * h - 1 - (((w * h - (x + 1)).toNat : Nat) : Int) = x := by omega
      rw [ek] at c5
      have c5' : (F x = 1 ∧ cur x ≤ 1 → ∃ st1, UncR w h sh mined number cur x st1 ∧ US w h sh mined number F (w * h - (x + 1)).toNat st1 1 s2 a2) ∧ (¬ (F x = 1 ∧ cur x ≤ 1) → US w h sh mined number F (w * h - (x + 1)).toNat cur a s2 a2) := by
        have h5 : (F (w * h - 1 - (((w * h - (x + 1)).toNat : Nat) : Int)) = 1 ∧ cur (w * h - 1 - (((w * h - (x + 1)).toNat : Nat) : Int)) ≤ 1 → ∃ st1, UncR w h sh mined number cur (w * h - 1 - (((w * h - (x + 1)).toNat : Nat) : Int)) st1 ∧ US w h sh mined number F (w * h - (x + 1)).toNat st1 1 s2 a2) ∧ (¬ (F (w * h - 1 - (((w * h - (x + 1)).toNat : Nat) : Int)) = 1 ∧ cur (w * h - 1 - (((w * h - (x + 1)).toNat : Nat) : Int)) ≤ 1) → US w h sh mined number F (w * h - (x + 1)).toNat cur a s2 a2) := c5
        rw [ek2] at h5
        exact h5
      have skip : ¬ (F x = 1 ∧ cur x ≤ 1) → (inR (x + 1) ∧ (∀ x5_67 : Int, x5_67 = (x + 1) → (∃ n_68 : Nat, n_68 < (w * h - x).toNat ∧ (n_68 = (w * h - x5_67).toNat ∧ 0 ≤ x5_67 ∧ x5_67 ≤ w * h ∧ lv = lv ∧ (a = 0 ∨ a = 1) ∧ ∃ cur : Int → Int, ME w h sh near degree mine M3 mined number cur ∧ US w h sh mined number F (w * h - x5_67).toNat cur a s2 a2 ∧ ∀ c, 0 ≤ c → c < w * h → cur c ≤ 1 → st c ≤ 1)))) := by
        intro nk
        refine nx (by omega) ⟨_, ?_, rfl, by omega, by omega, rfl, c3, cur, c4, c5'.2 nk, c6⟩
        omega
      refine ⟨_, ⟨fun y3 => skip (fun kk => ?_), fun y3 => s_unkM c4 hx (fun u hu iu _ => ⟨fun y4 => skip (fun kk => by have := iu.2 kk.2; omega), fun y4 => ?_⟩)⟩, fun _ _ _ _ jj => jj⟩
      · have u0 := c6 x hx.1 hx.2 kk.2
        have := eF x hx.1 hx.2
        rw [fM_u u0, if_pos (by omega)] at this
        split at this <;> omega
      · have ux := iu.1 (hu.resolve_left y4)
        have u0 := c6 x hx.1 hx.2 ux
        have f1 : F x = 1 := by rw [eF x hx.1 hx.2, fM_u u0, if_neg (by omega)]
        obtain ⟨st1', ur', us'⟩ := c5'.1 ⟨f1, ux⟩
        have mx : mined x = 0 := snd x hx.1 hx.2 (by rw [← eF x hx.1 hx.2]; exact f1)
        refine s_uncM c4 hx ux mx ur' hlv (fun M4 E5 => nx (by omega) ⟨_, ?_, rfl, by omega, by omega, rfl, Or.inr rfl, st1', E5, us', fun c d0 d1 k => c6 c d0 d1 ?_⟩)
        · omega
        · rcases ur' with ⟨q, _⟩ | ⟨_, fl⟩
          · omega
          · rcases fl.1 c d0 d1 with e | ⟨e, _⟩
            · rw [← e]; exact k
            · exact e
