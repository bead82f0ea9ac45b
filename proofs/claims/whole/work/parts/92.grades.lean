/-! what the grades find, on both sides -/
theorem zero_terms {l : List Int} {f : Int → Int} (hs : sumL l f = 0) (h : (∀ x ∈ l, 0 ≤ f x) ∨ (∀ x ∈ l, f x ≤ 0)) : ∀ x ∈ l, f x = 0 := by
  rcases h with h | h
  · exact sumL_zero h hs
  · intro x mx
    have e : sumL l (fun x => -1 * f x) = 0 := by rw [sumL_mul, hs]; rfl
    have := sumL_zero (f := fun x => -1 * f x) (fun y my => by have := h y my; omega) e x mx
    omega
def Frc (w h sh : Int) (mined st : Int → Int) (d : Int) : Prop := ∀ t : Int → Int, (∀ c, t c = 0 ∨ t c = 1) → (∀ n, AllCh w h sh st n → Sat1 w h sh st (Rn w h sh st mined) n t) → t d = mined d
theorem Frc.sum {w h sh c : Int} {mined st t : Int → Int} (hc : 0 ≤ c ∧ c < w * h) (h2 : st c = 2) (ht : ∀ n, AllCh w h sh st n → Sat1 w h sh st (Rn w h sh st mined) n t) : sumL (NB w h sh c) (fun d => iU (st d) * (mined d - t d)) = 0 := by
  by_cases k : ∃ d ∈ NB w h sh c, st d ≤ 1
  · have e : sumL (NB w h sh c) (fun d => iU (st d) * t d) = sumL (NB w h sh c) (fun d => iU (st d) * mined d) := ht c ⟨hc, h2, k⟩
    have : sumL (NB w h sh c) (fun d => iU (st d) * mined d) = sumL (NB w h sh c) (fun d => iU (st d) * (mined d - t d)) + sumL (NB w h sh c) (fun d => iU (st d) * t d) := sumL_add (fun d _ => by rw [← Int.mul_add]; congr 1; omega)
    omega
  · rw [sumL_congr (g := fun _ => 0) (fun d md => by rw [show iU (st d) = 0 from if_neg (fun y => k ⟨d, md, y⟩)]; omega), sumL_const (k := 0) (fun _ _ => rfl)]
    omega
theorem Frc.c1 {w h sh : Int} {mined st : Int → Int} (hm : ∀ c, 0 ≤ c → c < w * h → mined c = 0 ∨ mined c = 1) : C1 w h sh mined st (Frc w h sh mined st) := by
  rintro c c0 c1 h2 ⟨v, hv⟩ d md ud t t01 ht
  apply Classical.byContradiction
  intro ne
  have s0 := Frc.sum ⟨c0, c1⟩ h2 ht
  have nf : ∀ e ∈ NB w h sh c, st e ≤ 1 → mined e - t e ≠ 0 → mined e = v := fun e me ue k => hv e me ue (fun y => k (by rw [y t t01 ht]; omega))
  have dv := nf d md ud (by omega)
  have dm := hm d (nb_cell md).1 (nb_cell md).2
  have key : (∀ x ∈ NB w h sh c, 0 ≤ iU (st x) * (mined x - t x)) ∨ (∀ x ∈ NB w h sh c, iU (st x) * (mined x - t x) ≤ 0) := by
    rcases dm with e | e
    · refine Or.inr (fun x mx => ?_)
      by_cases u : st x ≤ 1
      · rw [show iU (st x) = 1 from if_pos u]
        by_cases z : mined x - t x = 0
        · omega
        · have := nf x mx u z
          have := t01 x
          omega
      · rw [show iU (st x) = 0 from if_neg u]; omega
    · refine Or.inl (fun x mx => ?_)
      by_cases u : st x ≤ 1
      · rw [show iU (st x) = 1 from if_pos u]
        by_cases z : mined x - t x = 0
        · omega
        · have := nf x mx u z
          have := t01 x
          omega
      · rw [show iU (st x) = 0 from if_neg u]; omega
  have := zero_terms s0 key d md
  rw [show iU (st d) = 1 from if_pos ud] at this
  omega
theorem Frc.c2 {w h sh : Int} {mined st : Int → Int} (hm : ∀ c, 0 ≤ c → c < w * h → mined c = 0 ∨ mined c = 1) : C2 w h sh mined st (Frc w h sh mined st) := by
  rintro a b ha hb - sa sb hsub ⟨v, hv⟩ d md ud nda t t01 ht
  apply Classical.byContradiction
  intro ne
  have s1 := Frc.sum ha sa ht
  have s2 := Frc.sum hb sb ht
  have two := sumL_two (l := NB w h sh a) (m := NB w h sh b) (f := fun d => iU (st d) * (mined d - t d)) (pw_nodup NB_pw) (pw_nodup NB_pw) (fun x mx nx => by
    by_cases u : st x ≤ 1
    · by_cases f : Frc w h sh mined st x
      · rw [f t t01 ht]
        rw [show mined x - mined x = 0 by omega, Int.mul_zero]
      · exact absurd (hsub x mx u f) nx
    · rw [show iU (st x) = 0 from if_neg u, Int.zero_mul])
  have s3 : sumL (NB w h sh b) (fun x => iB (¬ x ∈ NB w h sh a) * (iU (st x) * (mined x - t x))) = 0 := by omega
  have nf : ∀ e ∈ NB w h sh b, st e ≤ 1 → ¬ e ∈ NB w h sh a → mined e - t e ≠ 0 → mined e = v := fun e me ue na k => hv e me ue (fun y => k (by rw [y t t01 ht]; omega)) na
  have dv := nf d md ud nda (by omega)
  have dm := hm d (nb_cell md).1 (nb_cell md).2
  have key : (∀ x ∈ NB w h sh b, 0 ≤ iB (¬ x ∈ NB w h sh a) * (iU (st x) * (mined x - t x))) ∨ (∀ x ∈ NB w h sh b, iB (¬ x ∈ NB w h sh a) * (iU (st x) * (mined x - t x)) ≤ 0) := by
    rcases dm with e | e
    · refine Or.inr (fun x mx => ?_)
      by_cases na : x ∈ NB w h sh a
      · rw [iB_f (fun y => y na)]; omega
      · rw [iB_t na]
        by_cases u : st x ≤ 1
        · rw [show iU (st x) = 1 from if_pos u]
          by_cases z : mined x - t x = 0
          · omega
          · have := nf x mx u na z
            have := t01 x
            omega
        · rw [show iU (st x) = 0 from if_neg u]; omega
    · refine Or.inl (fun x mx => ?_)
      by_cases na : x ∈ NB w h sh a
      · rw [iB_f (fun y => y na)]; omega
      · rw [iB_t na]
        by_cases u : st x ≤ 1
        · rw [show iU (st x) = 1 from if_pos u]
          by_cases z : mined x - t x = 0
          · omega
          · have := nf x mx u na z
            have := t01 x
            omega
        · rw [show iU (st x) = 0 from if_neg u]; omega
  have := zero_terms s3 key d md
  rw [iB_t nda, show iU (st d) = 1 from if_pos ud] at this
  omega
theorem Frc.pos {w h sh left all d b : Int} {mined st : Int → Int} (f : Frc w h sh mined st d) (hb : b ≠ mined d) : ¬ Pos w h sh st (Rn w h sh st mined) (AllCh w h sh st) left all d b := by
  rintro ⟨t, t01, ht, -, e⟩
  have := f t t01 ht
  omega
/-- what is found, as it must be at each grade -/
def FVl (n : Int) (mined st f : Int → Int) : Prop := ∀ d, 0 ≤ d → d < n → (st d ≤ 1 → f d = 0 ∨ f d = 1 + mined d) ∧ (¬ st d ≤ 1 → f d = 3)
def Q1 (w h sh : Int) (mined st f : Int → Int) : Prop := FVl (w * h) mined st f ∧ C1 w h sh mined st (Kf (w * h) st f) ∧ ∀ S, C1 w h sh mined st S → ∀ d, Kf (w * h) st f d → S d
def Q2 (w h sh : Int) (mined st f : Int → Int) : Prop := FVl (w * h) mined st f ∧ C1 w h sh mined st (Kf (w * h) st f) ∧ C2 w h sh mined st (Kf (w * h) st f) ∧ ∀ S, C1 w h sh mined st S → C2 w h sh mined st S → ∀ d, Kf (w * h) st f d → S d
def Q3 (w h sh left : Int) (mined st f : Int → Int) : Prop := (¬ Fit w h sh st (AllCh w h sh st) → Q2 w h sh mined st f) ∧ (Fit w h sh st (AllCh w h sh st) → ∀ d, 0 ≤ d → d < w * h → (st d ≤ 1 → VV (PosA w h sh st mined (AllCh w h sh st) left d 1) (PosA w h sh st mined (AllCh w h sh st) left d 0) (f d)) ∧ (¬ st d ≤ 1 → f d = 3))
def QG (w h sh left : Int) (mined st : Int → Int) (g : Int) (f : Int → Int) : Prop := (g = 1 → Q1 w h sh mined st f) ∧ (g = 2 → Q2 w h sh mined st f) ∧ (g = 3 → Q3 w h sh left mined st f)
theorem FVl.eq {n : Int} {mined st f f' : Int → Int} (a : FVl n mined st f) (a' : FVl n mined st f') (k1 : ∀ d, Kf n st f d → Kf n st f' d) (k2 : ∀ d, Kf n st f' d → Kf n st f d) : ∀ d, 0 ≤ d → d < n → f d = f' d := by
  intro d d0 d1
  by_cases u : st d ≤ 1
  · have h1 := (a d d0 d1).1 u
    have h2 := (a' d d0 d1).1 u
    by_cases e : f d = 0
    · by_cases e' : f' d = 0
      · omega
      · exact absurd e (k2 d ⟨⟨d0, d1⟩, u, e'⟩).2.2
    · have e' := (k1 d ⟨⟨d0, d1⟩, u, e⟩).2.2
      omega
  · rw [(a d d0 d1).2 u, (a' d d0 d1).2 u]
theorem Q2.eq {w h sh : Int} {mined st f f' : Int → Int} (a : Q2 w h sh mined st f) (a' : Q2 w h sh mined st f') : ∀ d, 0 ≤ d → d < w * h → f d = f' d := FVl.eq a.1 a'.1 (a.2.2.2 _ a'.2.1 a'.2.2.1) (a'.2.2.2 _ a.2.1 a.2.2.1)
theorem VV.eq {p1 p0 : Prop} {x y : Int} (a : VV p1 p0 x) (b : VV p1 p0 y) : x = y := by
  rcases a with ⟨e, h⟩ | ⟨e, h, h'⟩ | ⟨e, h, h'⟩
  · rcases b with ⟨e2, k⟩ | ⟨e2, k, k'⟩ | ⟨e2, k, k'⟩
    · omega
    · exact absurd k h
    · exact absurd k h
  · rcases b with ⟨e2, k⟩ | ⟨e2, k, k'⟩ | ⟨e2, k, k'⟩
    · exact absurd h k
    · omega
    · exact absurd k' h'
  · rcases b with ⟨e2, k⟩ | ⟨e2, k, k'⟩ | ⟨e2, k, k'⟩
    · exact absurd h k
    · exact absurd h' k'
    · omega
theorem QG.eq {w h sh left g : Int} {mined st f f' : Int → Int} (hg : 1 ≤ g ∧ g ≤ 3) (a : QG w h sh left mined st g f) (a' : QG w h sh left mined st g f') : ∀ d, 0 ≤ d → d < w * h → f d = f' d := by
  by_cases e1 : g = 1
  · have b := a.1 e1
    have b' := a'.1 e1
    exact FVl.eq b.1 b'.1 (b.2.2 _ b'.2.1) (b'.2.2 _ b.2.1)
  · by_cases e2 : g = 2
    · exact (a.2.1 e2).eq (a'.2.1 e2)
    · have b := a.2.2 (by omega)
      have b' := a'.2.2 (by omega)
      by_cases k : Fit w h sh st (AllCh w h sh st)
      · intro d d0 d1
        have c := b.2 k d d0 d1
        have c' := b'.2 k d d0 d1
        by_cases u : st d ≤ 1
        · exact (c.1 u).eq (c'.1 u)
        · rw [c.2 u, c'.2 u]
      · exact (b.1 k).eq (b'.1 k)
/-- the values are of three kinds, whatever the grade -/
theorem QG.val {w h sh left g : Int} {mined st f : Int → Int} (hg : 1 ≤ g ∧ g ≤ 3) (hm : ∀ c, 0 ≤ c → c < w * h → mined c = 0 ∨ mined c = 1) (a : QG w h sh left mined st g f) : ∀ d, 0 ≤ d → d < w * h → (st d ≤ 1 → 0 ≤ f d ∧ f d ≤ 2) ∧ (¬ st d ≤ 1 → f d = 3) := by
  have fv : FVl (w * h) mined st f → ∀ d, 0 ≤ d → d < w * h → (st d ≤ 1 → 0 ≤ f d ∧ f d ≤ 2) ∧ (¬ st d ≤ 1 → f d = 3) := by
    intro v d d0 d1
    have := hm d d0 d1
    exact ⟨fun u => by have := (v d d0 d1).1 u; omega, (v d d0 d1).2⟩
  by_cases e1 : g = 1
  · exact fv (a.1 e1).1
  · by_cases e2 : g = 2
    · exact fv (a.2.1 e2).1
    · have b := a.2.2 (by omega)
      by_cases k : Fit w h sh st (AllCh w h sh st)
      · intro d d0 d1
        refine ⟨fun u => ?_, (b.2 k d d0 d1).2⟩
        rcases (b.2 k d d0 d1).1 u with ⟨e, _⟩ | ⟨e, _⟩ | ⟨e, _⟩ <;> omega
      · exact fv (b.1 k).1
theorem FO.fv {w h sh : Int} {mined st f oe nd : Int → Int} (o : FO w h sh mined st f oe nd) : FVl (w * h) mined st f := o.1
theorem MI.fv {n : Int} {mined st sf mf : Int → Int} (mi : MI n mined st sf mf) : FVl n mined st (fM st sf mf) := by
  intro d d0 d1
  obtain ⟨m1, m2⟩ := mi d d0 d1
  refine ⟨fun u => ?_, fun u => fM_k u⟩
  rw [fM_u u]
  by_cases a : sf d = 0
  · rw [if_pos a]
    by_cases b : mf d = 0
    · rw [if_pos b]; exact Or.inl rfl
    · rw [if_neg b]
      have := m2.resolve_left b
      exact Or.inr (by omega)
  · rw [if_neg a]
    have := m1.resolve_left a
    exact Or.inr (by omega)
theorem s_findUpToM {w h sh g q0 N0 : Int} {near degree mine M mined number st sf0 mf0 us0 po0 pl0 sz0 ways0 wth0 ms0 rs0 bt rc0 mo0 : Int → Int} {post : (Int) → (Int) → (Int → Int) → (Int → Int) → (Int → Int) → (Int → Int) → (Int → Int) → (Int → Int) → (Int → Int) → (Int → Int) → (Int → Int) → (Int → Int) → (Int → Int) → (Int → Int) → Prop} (E : ME w h sh near degree mine M mined number st) (bt_ok : BT bt) (hg : 1 ≤ g ∧ g ≤ 3)
    (hp : ∀ (q N : Int) (sf mf us po pl sz ways wth ms rs rc mo : Int → Int), QG w h sh (MLf (w * h) mine M) mined st g (fM st sf mf) → (∀ c, 0 ≤ c → c < w * h → (sf c = 0 ∨ sf c = 1) ∧ (mf c = 0 ∨ mf c = 1)) → post q N sf mf us po pl sz ways wth ms rs rc mo) :
    P_X12_findUpTo post w h (w * h) sh q0 N0 near degree mine M sf0 mf0 us0 po0 pl0 sz0 ways0 wth0 ms0 rs0 bt rc0 mo0 g := by
  have hm := E.2.2.2.1
  unfold P_X12_findUpTo
  have mi01 : ∀ {sf mf : Int → Int}, MI (w * h) mined st sf mf → ∀ c, 0 ≤ c → c < w * h → (sf c = 0 ∨ sf c = 1) ∧ (mf c = 0 ∨ mf c = 1) := fun mi c c0 c1 => ⟨(mi c c0 c1).1.imp id (fun y => y.1), (mi c c0 c1).2.imp id (fun y => y.1)⟩
  refine exJi ⟨fun z _ => ⟨Or.inl rfl, s_findByRulesM E (fun sf mf mi c1 _ mn => ⟨fun z1 => hp _ _ _ _ _ _ _ _ _ _ _ _ _ _ ⟨fun _ => ⟨mi.fv, c1, fun S s1 d k => mn S s1 (fun y => absurd rfl y) d k⟩, fun y => by omega, fun y => by omega⟩ (mi01 mi), fun z1 => by omega⟩)⟩, fun z _ => ⟨Or.inr rfl, s_findByRulesM E (fun sf mf mi c1 c2 mn => ?_)⟩⟩
  have q2 : Q2 w h sh mined st (fM st sf mf) := ⟨mi.fv, c1, c2 (by decide), fun S s1 s2 d k => mn S s1 (fun _ => s2) d k⟩
  refine ⟨fun z1 => hp _ _ _ _ _ _ _ _ _ _ _ _ _ _ ⟨fun y => by omega, fun _ => q2, fun y => absurd y z1⟩ (mi01 mi), fun z1 => s_findByAllM E bt_ok (mi01 mi) (fun q N sf' mf' us po pl sz ways wth ms rs rc mo nf yf => ?_)⟩
  refine hp _ _ _ _ _ _ _ _ _ _ _ _ _ _ ⟨fun y => by omega, fun y => by omega, fun _ => ⟨fun k => ?_, fun k d d0 d1 => ⟨fun u => ?_, fun u => fM_k u⟩⟩⟩ (fun c c0 c1' => ?_)
  · obtain ⟨e1, e2⟩ := nf k
    rw [e1, e2]
    exact q2
  · obtain ⟨⟨o1, o2⟩, y2, -⟩ := yf k d d0 d1
    obtain ⟨i1, i2⟩ := y2 u
    obtain ⟨m1, m2⟩ := mi d d0 d1
    have frc : Kf (w * h) st (fM st sf mf) d → Frc w h sh mined st d := q2.2.2.2 _ (Frc.c1 hm) (Frc.c2 hm) d
    have ns : sf' d = 1 ↔ ¬ PosA w h sh st mined (AllCh w h sh st) (MLf (w * h) mine M) d 1 := by
      rw [i1]
      refine ⟨fun y => y.elim (fun y => ?_) id, Or.inr⟩
      have := m1.resolve_left (by omega)
      refine (frc ⟨⟨d0, d1⟩, u, ?_⟩).pos (by omega)
      rw [fM_u u, if_neg (by omega)]
      decide
    have nm : mf' d = 1 ↔ ¬ PosA w h sh st mined (AllCh w h sh st) (MLf (w * h) mine M) d 0 := by
      rw [i2]
      refine ⟨fun y => y.elim (fun y => ?_) id, Or.inr⟩
      have := m2.resolve_left (by omega)
      refine (frc ⟨⟨d0, d1⟩, u, ?_⟩).pos (by omega)
      rw [fM_u u, if_neg (show ¬ mf d = 0 by omega)]
      split <;> decide
    clear i1 i2
    have ys : ¬ sf' d = 1 → PosA w h sh st mined (AllCh w h sh st) (MLf (w * h) mine M) d 1 := fun y => Classical.byContradiction (fun k => y (ns.2 k))
    have ym : ¬ mf' d = 1 → PosA w h sh st mined (AllCh w h sh st) (MLf (w * h) mine M) d 0 := fun y => Classical.byContradiction (fun k => y (nm.2 k))
    rw [fM_u u]
    by_cases a : sf' d = 0
    · rw [if_pos a]
      by_cases b : mf' d = 0
      · rw [if_pos b]
        exact Or.inr (Or.inr ⟨rfl, ys (by omega), ym (by omega)⟩)
      · rw [if_neg b]
        exact Or.inr (Or.inl ⟨rfl, ys (by omega), nm.1 (o2.resolve_left b)⟩)
    · rw [if_neg a]
      exact Or.inl ⟨rfl, ns.1 (o1.resolve_left a)⟩
  · by_cases k : Fit w h sh st (AllCh w h sh st)
    · exact (yf k c c0 c1').1
    · obtain ⟨e1, e2⟩ := nf k
      rw [e1, e2]
      exact mi01 mi c c0 c1'
/-- the reasoner's rows fit for the next grade -/
def RW (w h sh left : Int) (mined st : Int → Int) (g wc : Int) (f oe nd wt ws com : Int → Int) : Prop := (g = 2 → RS1 w h sh mined st wc f oe nd wt ws com) ∧ (¬ g = 1 → QG w h sh left mined st (g - 1) f)
theorem s_raise {w h sh g mines P0 lg0 N0 ag0 tk0 wc mc : Int} {near nearEnd mined number st ci un hi ch0 po0 rs0 uk0 ps0 cs0 mset0 sset0 pS0 ta0 as0 go0 gz0 links0 le0 pk0 gm0 gs0 f oe nd wt ws com met : Int → Int} {S0 nS0 : Int → Int64} {post : (Int) → (Int) → (Int) → (Int) → (Int) → (Int) → (Int) → (Int → Int) → (Int → Int) → (Int → Int) → (Int → Int) → (Int → Int) → (Int → Int) → (Int → Int) → (Int → Int) → (Int → Int) → (Int → Int) → (Int → Int) → (Int → Int) → (Int → Int) → (Int → Int) → (Int → Int) → (Int → Int) → (Int → Int) → (Int → Int) → (Int → Int64) → (Int → Int64) → (Int → Int) → (Int → Int) → (Int → Int) → (Int → Int) → (Int → Int) → (Int → Int) → (Int → Int) → Prop} (D : DE w h sh near nearEnd mined number st ci un hi mines) (h0 : ps0 0 = 0) (hg : 1 ≤ g ∧ g ≤ 3) (rw_ : RW w h sh (mines - ci 3) mined st g wc f oe nd wt ws com)
    (hp : ∀ (P lg N ag tk wc' mc' : Int) (ch po rs uk ps cs mset sset pS ta as go gz links le pk gm gs : Int → Int) (S nS : Int → Int64) (f' oe' nd' wt' ws' com' met' : Int → Int), ps 0 = 0 → QG w h sh (mines - ci 3) mined st g f' → RW w h sh (mines - ci 3) mined st (g + 1) wc' f' oe' nd' wt' ws' com' → post P lg N ag tk wc' mc' ch po rs uk ps cs mset sset pS ta as go gz links le pk gm gs S nS f' oe' nd' wt' ws' com' met') :
    P_X7_raise post mines (w * h) P0 lg0 N0 ag0 tk0 wc mc number st ci un hi near nearEnd ch0 po0 rs0 uk0 ps0 cs0 mset0 sset0 pS0 ta0 as0 go0 gz0 links0 le0 pk0 gm0 gs0 S0 nS0 f oe nd wt ws com met g := by
  have ok := D.1
  have geo := D.2.1
  have hm := D.2.2.1.1
  unfold P_X7_raise
  refine ⟨fun z => ⟨fun z1 => ?_, fun z1 => ?_⟩, fun z => ?_⟩
  · have q2 := (rw_.2 z).2.1 (by omega)
    refine s_judge D h0 (fun P lg N ag tk ch po rs uk ps cs mset sset pS ta as go gz links le pk gm gs S nS f' p0 nf yf => ?_)
    have qg : QG w h sh (mines - ci 3) mined st g f' := ⟨fun y => by omega, fun y => by omega, fun _ => ⟨fun k => by rw [nf k]; exact q2, fun k d d0 d1 => ⟨(yf k d d0 d1).1, fun u => by rw [(yf k d d0 d1).2 u]; exact (q2.1 d d0 d1).2 u⟩⟩⟩
    exact hp _ _ _ _ _ _ _ _ _ _ _ _ _ _ _ _ _ _ _ _ _ _ _ _ _ _ _ _ _ _ _ _ _ _ p0 qg ⟨fun y => by omega, fun _ => by rw [show g + 1 - 1 = g by omega]; exact qg⟩
  · have q1 := (rw_.2 z).1 (by omega)
    have r1 := rw_.1 z1
    refine s_findByPairs ok geo hm r1 (fun wc' mc' f' oe' nd' wt' ws' com' met' r' c2 mn => ?_)
    have qg : QG w h sh (mines - ci 3) mined st g f' := ⟨fun y => by omega, fun _ => ⟨r'.1.fv, r'.C1, c2, fun S s1 s2 d k => mn S s1 s2 (fun e ke => q1.2.2 S s1 e ke) d k⟩, fun y => by omega⟩
    exact hp _ _ _ _ _ _ _ _ _ _ _ _ _ _ _ _ _ _ _ _ _ _ _ _ _ _ _ _ _ _ _ _ _ _ h0 qg ⟨fun y => by omega, fun _ => by rw [show g + 1 - 1 = g by omega]; exact qg⟩
  · refine s_beginR ok D.2.2.1 D.2.2.2.1 D.2.2.2.2 (fun wc1 f1 oe1 nd1 wt1 ws1 com1 o1 t1 s1 cm1 nk1 => s_findBySingles ok geo hm o1 t1 s1 (fun f' oe' nd' wt' ws' o t s _ mn => ?_))
    have r' : RS1 w h sh mined st 0 f' oe' nd' wt' ws' com1 := ⟨o, rfl, t, s, cm1⟩
    have qg : QG w h sh (mines - ci 3) mined st g f' := ⟨fun _ => ⟨o.fv, r'.C1, fun S s1 d k => mn S s1 (fun e ke => absurd ke (nk1 e)) d k⟩, fun y => by omega, fun y => by omega⟩
    exact hp _ _ _ _ _ _ _ _ _ _ _ _ _ _ _ _ _ _ _ _ _ _ _ _ _ _ _ _ _ _ _ _ _ _ h0 qg ⟨fun _ => r', fun _ => by rw [show g + 1 - 1 = g by omega]; exact qg⟩
