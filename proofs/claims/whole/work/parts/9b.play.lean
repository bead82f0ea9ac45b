/-! one play, as it goes on both sides -/
def Slv (n : Int) (mined st : Int → Int) : Prop := ∀ c, 0 ≤ c → c < n → mined c = 1 ∨ st c = 2
def lfS (n : Int) (mined st : Int → Int) : Int := sumL (cellsL n) mined - sumL (cellsL n) (fun c => iK 3 (st c))
/-- opening what is found safe, k cells left to look at -/
def US (w h sh : Int) (mined number f : Int → Int) : Nat → (Int → Int) → Int → (Int → Int) → Int → Prop
  | 0, st, a, st', a' => Eqc (w * h) st st' ∧ a = a'
  | k + 1, st, a, st', a' => (f (w * h - 1 - k) = 1 ∧ st (w * h - 1 - k) ≤ 1 → ∃ st1, UncR w h sh mined number st (w * h - 1 - k) st1 ∧ US w h sh mined number f k st1 1 st' a') ∧ (¬ (f (w * h - 1 - k) = 1 ∧ st (w * h - 1 - k) ≤ 1) → US w h sh mined number f k st a st' a')
/-- a play from a grade on -/
def PE (w h sh : Int) (mined number : Int → Int) (most : Int) : Nat → (Int → Int) → Int → (Int → Int) → Prop
  | 0, st, g, st' => (most < g ∨ Slv (w * h) mined st) ∧ Eqc (w * h) st st'
  | n + 1, st, g, st' => g ≤ most ∧ ∃ (f st1 : Int → Int) (a : Int), QG w h sh (lfS (w * h) mined st) mined st g f ∧ US w h sh mined number f (w * h).toNat st 0 st1 a ∧ PE w h sh mined number most n st1 (if a = 0 then g + 1 else 1) st'
theorem lfS_eq {w h sh mines : Int} {near nearEnd mined number st ci un hi : Int → Int} (D : DE w h sh near nearEnd mined number st ci un hi mines) : lfS (w * h) mined st = mines - ci 3 := by
  unfold lfS
  rw [D.2.2.1.2.2, D.2.2.2.1.2.1 3 (by omega) (by omega)]
/-- the mines that are there are a way -/
theorem Pos_true {w h sh all c : Int} {mined number st : Int → Int} {Ch : Int → Prop} (hm : ∀ c, 0 ≤ c → c < w * h → mined c = 0 ∨ mined c = 1) (gs : GSt w h sh mined number st) (hc : 0 ≤ c ∧ c < w * h) : Pos w h sh st (Rn w h sh st mined) Ch (lfS (w * h) mined st) all c (mined c) := by
  refine ⟨fun d => if 0 ≤ d ∧ d < w * h then mined d else 0, fun d => ?_, fun n _ => ?_, fun _ => ?_, if_pos hc⟩
  · by_cases k : 0 ≤ d ∧ d < w * h
    · simp only [if_pos k]; exact hm d k.1 k.2
    · exact Or.inl (if_neg k)
  · unfold Sat1
    refine sumL_congr (fun d md => ?_)
    simp only [if_pos (nb_cell md)]
  · unfold lfS
    have e : sumL (cellsL (w * h)) mined = sumL (cellsL (w * h)) (fun d => iU (st d) * (if 0 ≤ d ∧ d < w * h then mined d else 0)) + sumL (cellsL (w * h)) (fun d => iK 3 (st d)) := by
      refine sumL_add (fun d md => ?_)
      have hd := mem_cells.1 md
      rw [if_pos hd]
      have b := gs.1 d hd.1 hd.2
      have m2 := gs.2.1 d hd.1 hd.2
      have m3 := gs.2.2.1 d hd.1 hd.2
      show mined d = (if st d ≤ 1 then 1 else 0) * mined d + (if st d = 3 then 1 else 0)
      by_cases k : st d ≤ 1
      · rw [if_pos k, if_neg (by omega)]; omega
      · rw [if_neg k]
        by_cases k3 : st d = 3
        · rw [if_pos k3, m3 k3]; omega
        · rw [if_neg k3, m2 (by omega)]; omega
    show sumL (cellsL (w * h)) (fun d => iU (st d) * (if 0 ≤ d ∧ d < w * h then mined d else 0)) = _
    omega
theorem QG.sound {w h sh g : Int} {mined number st f : Int → Int} (hg : 1 ≤ g ∧ g ≤ 3) (hm : ∀ c, 0 ≤ c → c < w * h → mined c = 0 ∨ mined c = 1) (gs : GSt w h sh mined number st) (q : QG w h sh (lfS (w * h) mined st) mined st g f) : ∀ c, 0 ≤ c → c < w * h → f c = 1 → mined c = 0 := by
  intro c c0 c1 e
  have hmc := hm c c0 c1
  have fv : FVl (w * h) mined st f → mined c = 0 := by
    intro v
    obtain ⟨v1, v2⟩ := v c c0 c1
    by_cases u : st c ≤ 1
    · have := v1 u; omega
    · have := v2 u; omega
  by_cases e1 : g = 1
  · exact fv (q.1 e1).1
  · by_cases e2 : g = 2
    · exact fv (q.2.1 e2).1
    · have b := q.2.2 (by omega)
      by_cases k : Fit w h sh st (AllCh w h sh st)
      · obtain ⟨v1, v2⟩ := b.2 k c c0 c1
        by_cases u : st c ≤ 1
        · rcases v1 u with ⟨_, np⟩ | ⟨e', _⟩ | ⟨e', _⟩
          · apply Classical.byContradiction
            intro ne
            have : mined c = 1 := hmc.resolve_left ne
            have p := Pos_true (all := 1) (Ch := AllCh w h sh st) hm gs ⟨c0, c1⟩
            rw [this] at p
            exact np p
          · omega
          · omega
        · have := v2 u; omega
      · exact fv (b.1 k).1
theorem kn_unk {w h sh : Int} {st ci un hi : Int → Int} (hn : 0 ≤ w * h) (ds : DSt w h sh st ci un hi) : kn (w * h) st = w * h - (ci 0 + ci 1) := by
  have e := UL_len ds
  have e2 : ((UL w h st).length : Int) = sumL (cellsL (w * h)) (fun c => iU (st c)) := by
    have e : ((UL w h st).length : Int) = sumL (UL w h st) (fun _ => 1) := by rw [sumL_const (k := 1) (fun _ _ => rfl)]; omega
    rw [e, ← UL_sum]
    exact sumL_congr (fun c _ => by omega)
  unfold kn
  have e3 : sumL (cellsL (w * h)) (fun _ => 1) = sumL (cellsL (w * h)) (fun c => 1 - iU (st c)) + sumL (cellsL (w * h)) (fun c => iU (st c)) := sumL_add (fun c _ => by omega)
  rw [sumL_const (k := 1) (fun _ _ => rfl)] at e3
  have := cells_len hn
  omega
theorem kn_bd {n : Int} {st : Int → Int} (hn : 0 ≤ n ∧ n ≤ 144) : 0 ≤ kn n st ∧ kn n st ≤ n := by
  have b : ∀ c, 0 ≤ 1 - iU (st c) ∧ 1 - iU (st c) ≤ 1 := fun c => by have := iU_b (st c); omega
  have := sumL_bound (f := fun c => 1 - iU (st c)) (l := cellsL n) (fun c _ => b c)
  have := cells_len hn.1
  unfold kn
  omega
theorem num_zeroD {w h sh mines : Int} {mined number : Int → Int} (dm : DMi w h sh mined number mines) : ∀ c, 0 ≤ c → c < w * h → number c = 0 → ∀ d ∈ NB w h sh c, mined d = 0 := by
  intro c c0 c1 e d md
  have en := dm.2.1 c c0 c1
  rw [e] at en
  exact sumL_zero (l := NB w h sh c) (f := mined) (fun x mx => by have := dm.1 x (nb_cell mx).1 (nb_cell mx).2; omega) en.symm d md
theorem s_uncoverSafe {w h sh mines : Int} {near nearEnd mined number st0 ci0 un0 hi0 cd0 wt0 f : Int → Int} {post : Int → (Int) → (Int → Int) → (Int → Int) → (Int → Int) → (Int → Int) → (Int → Int) → (Int → Int) → Prop} (ok : okB w h sh) (geo : GeoD w h sh near nearEnd) (dm : DMi w h sh mined number mines) (ds : DSt w h sh st0 ci0 un0 hi0) (gs : GSt w h sh mined number st0) (hf : ∀ c, 0 ≤ c → c < w * h → f c = 1 → mined c = 0)
    (hp : ∀ (a : Int) (st ci un hi cd wt : Int → Int), (a = 0 ∨ a = 1) → US w h sh mined number f (w * h).toNat st0 0 st a → DSt w h sh st ci un hi → GSt w h sh mined number st → (a = 0 → kn (w * h) st = kn (w * h) st0) → (a = 1 → kn (w * h) st0 < kn (w * h) st) → (∀ c, 0 ≤ c → c < w * h → st0 c = 2 → st c = 2) → (∀ c, 0 ≤ c → c < w * h → st0 c ≠ 3 → st c ≠ 3) → (a = 0 → st = st0 ∧ ci = ci0 ∧ un = un0 ∧ hi = hi0) → post a (kn (w * h) st) st ci un hi cd wt) :
    P_X4_uncoverSafe post (kn (w * h) st0) (w * h) mined number st0 ci0 un0 hi0 cd0 wt0 near nearEnd f := by
  have hle := wh_le ok
  have hge := wh_ge ok
  unfold P_X4_uncoverSafe
  refine ⟨fun n a x ch st ci un hi cd wt => n = (w * h - x).toNat ∧ 0 ≤ x ∧ x ≤ w * h ∧ (a = 0 ∨ a = 1) ∧ ch = kn (w * h) st ∧ DSt w h sh st ci un hi ∧ GSt w h sh mined number st ∧ (a = 0 → kn (w * h) st = kn (w * h) st0) ∧ (a = 1 → kn (w * h) st0 < kn (w * h) st) ∧ (∀ c, 0 ≤ c → c < w * h → st0 c = 2 → st c = 2) ∧ (∀ c, 0 ≤ c → c < w * h → st0 c ≠ 3 → st c ≠ 3) ∧ (a = 0 → st = st0 ∧ ci = ci0 ∧ un = un0 ∧ hi = hi0) ∧ ∀ st' a', US w h sh mined number f (w * h - x).toNat st a st' a' → US w h sh mined number f (w * h).toNat st0 0 st' a', ⟨_, rfl, by omega, by omega, Or.inl rfl, rfl, ds, gs, fun _ => rfl, fun y => absurd y (by decide), fun _ _ _ y => y, fun _ _ _ y => y, fun _ => ⟨rfl, rfl, rfl, rfl⟩, fun st' a' q => by rw [Int.sub_zero] at q; exact q⟩, ?_⟩
  rintro n a x ch st ci un hi cd wt ra rx ⟨rfl, b1, b2, b3, b4, b5, b6, b7, b8, b9, b9', b9s, b10⟩
  subst b4
  refine ⟨fun z => ⟨b3, hp a st ci un hi cd wt b3 (b10 st a ?_) b5 b6 b7 b8 b9 b9' b9s⟩, fun z => ⟨by omega, fun v ev rv => ?_⟩⟩
  · rw [show (w * h - x).toNat = 0 by omega]
    exact ⟨fun _ _ _ => rfl, rfl⟩
  have hx : 0 ≤ x ∧ x < w * h := ⟨b1, by omega⟩
  have ek : (w * h - x).toNat = (w * h - (x + 1)).toNat + 1 := by omega
  have ek2 : w * h - 1 - (((w * h - (x + 1)).toNat : Nat) : Int) = x := by omega
  have skip : ¬ (f x = 1 ∧ st x ≤ 1) → (inR (x + 1) ∧ (∀ x2_31 : Int, x2_31 = (x + 1) → (∃ n_32 : Nat, n_32 < (w * h - x).toNat ∧ (n_32 = (w * h - x2_31).toNat ∧ 0 ≤ x2_31 ∧ x2_31 ≤ w * h ∧ (a = 0 ∨ a = 1) ∧ kn (w * h) st = kn (w * h) st ∧ DSt w h sh st ci un hi ∧ GSt w h sh mined number st ∧ (a = 0 → kn (w * h) st = kn (w * h) st0) ∧ (a = 1 → kn (w * h) st0 < kn (w * h) st) ∧ (∀ c, 0 ≤ c → c < w * h → st0 c = 2 → st c = 2) ∧ (∀ c, 0 ≤ c → c < w * h → st0 c ≠ 3 → st c ≠ 3) ∧ (a = 0 → st = st0 ∧ ci = ci0 ∧ un = un0 ∧ hi = hi0) ∧ ∀ st' a', US w h sh mined number f (w * h - x2_31).toNat st a st' a' → US w h sh mined number f (w * h).toNat st0 0 st' a')))) := by
    intro nk
    refine nx (by omega) ⟨_, ?_, rfl, by omega, by omega, b3, rfl, b5, b6, b7, b8, b9, b9', b9s, fun st' a' q => b10 st' a' ?_⟩
    · omega
    · rw [ek]
      show (f (w * h - 1 - (((w * h - (x + 1)).toNat : Nat) : Int)) = 1 ∧ st (w * h - 1 - (((w * h - (x + 1)).toNat : Nat) : Int)) ≤ 1 → _) ∧ (¬ (f (w * h - 1 - (((w * h - (x + 1)).toNat : Nat) : Int)) = 1 ∧ st (w * h - 1 - (((w * h - (x + 1)).toNat : Nat) : Int)) ≤ 1) → _)
      rw [ek2]
      exact ⟨fun k => absurd k nk, fun _ => q⟩
  have kb := kn_bd (n := w * h) (st := st) ⟨by omega, hle⟩
  refine ⟨fun a2 ch2 st2 ci2 un2 hi2 cd2 wt2 => (inR (x + 1) ∧ (∀ x2_31 : Int, x2_31 = (x + 1) → (∃ n_32 : Nat, n_32 < (w * h - x).toNat ∧ (n_32 = (w * h - x2_31).toNat ∧ 0 ≤ x2_31 ∧ x2_31 ≤ w * h ∧ (a2 = 0 ∨ a2 = 1) ∧ ch2 = kn (w * h) st2 ∧ DSt w h sh st2 ci2 un2 hi2 ∧ GSt w h sh mined number st2 ∧ (a2 = 0 → kn (w * h) st2 = kn (w * h) st0) ∧ (a2 = 1 → kn (w * h) st0 < kn (w * h) st2) ∧ (∀ c, 0 ≤ c → c < w * h → st0 c = 2 → st2 c = 2) ∧ (∀ c, 0 ≤ c → c < w * h → st0 c ≠ 3 → st2 c ≠ 3) ∧ (a2 = 0 → st2 = st0 ∧ ci2 = ci0 ∧ un2 = un0 ∧ hi2 = hi0) ∧ ∀ st' a', US w h sh mined number f (w * h - x2_31).toNat st2 a2 st' a' → US w h sh mined number f (w * h).toNat st0 0 st' a')))), ⟨fun z1 => skip (fun k => by omega), fun z1 => s_isUnknownC ⟨by omega, by omega⟩ (fun u hu iu _ => ⟨fun z2 => skip (fun k => by have := iu.2 k.2; omega), fun z2 => ?_⟩)⟩, fun _ _ _ _ _ _ _ _ _ jj => jj⟩
  have ux := iu.1 (hu.resolve_left z2)
  have mx : mined x = 0 := hf x hx.1 hx.2 (by omega)
  refine s_uncover ok geo b5 hx ux ⟨by omega, by omega⟩ (Or.inl mx) (num_zeroD dm) (fun k st2 ci2 un2 hi2 cd2 wt2 d2 k1 k2 _ _ _ uu => ?_)
  have fl : FloodR w h sh mined number st x st2 := by
    rcases uu with ⟨q, _⟩ | ⟨_, q⟩
    · omega
    · exact q
  have ur : UncR w h sh mined number st x st2 := Or.inr ⟨mx, fl⟩
  have g2 := (b6.unc hx ux ur).1
  refine nx (by omega) ⟨_, ?_, rfl, by omega, by omega, Or.inr rfl, by omega, d2, g2, fun y => absurd y (by decide), fun _ => ?_, fun c c0 c1 y => ?_, fun c c0 c1 y => ?_, fun y => absurd y (by decide), fun st' a' q => b10 st' a' ?_⟩
  · omega
  · rcases b3 with e | e
    · have := b7 e; omega
    · have := b8 e; omega
  · have := b9 c c0 c1 y
    rcases fl.1 c c0 c1 with e | ⟨e, _⟩
    · rw [e]; exact this
    · omega
  · have := b9' c c0 c1 y
    rcases fl.1 c c0 c1 with e | ⟨_, e, _⟩
    · rw [e]; exact this
    · omega
  · rw [ek]
    show (f (w * h - 1 - (((w * h - (x + 1)).toNat : Nat) : Int)) = 1 ∧ st (w * h - 1 - (((w * h - (x + 1)).toNat : Nat) : Int)) ≤ 1 → _) ∧ (¬ (f (w * h - 1 - (((w * h - (x + 1)).toNat : Nat) : Int)) = 1 ∧ st (w * h - 1 - (((w * h - (x + 1)).toNat : Nat) : Int)) ≤ 1) → _)
    rw [ek2]
    exact ⟨fun _ => ⟨st2, ur, q⟩, fun k => absurd ⟨by omega, ux⟩ k⟩
