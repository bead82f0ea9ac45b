/-! the reason of a hint: which numbers it rests on -/
theorem Cn.mono {w h sh a b : Int} {st : Int → Int} {Ch Ch' : Int → Prop} (hs : ∀ n, Ch' n → Ch n) (q : Cn w h sh st Ch' a b) : Cn w h sh st Ch a b := fun S c sa => q S (fun n hn => c n (hs n hn)) sa
theorem Bd.mono {w h sh c : Int} {st : Int → Int} {Ch Ch' : Int → Prop} (hs : ∀ n, Ch' n → Ch n) (q : Bd w h sh st Ch' c) : Bd w h sh st Ch c := ⟨q.1, q.2.1, by obtain ⟨n, hn, m⟩ := q.2.2; exact ⟨n, hs n hn, m⟩⟩
theorem Fit.mono {w h sh : Int} {st : Int → Int} {Ch Ch' : Int → Prop} (hs : ∀ n, Ch' n → Ch n) (f : Fit w h sh st Ch) : Fit w h sh st Ch' := by
  intro c hc
  have := f c (hc.mono hs)
  have le : 0 ≤ sumL (cellsL (w * h)) (fun e => iB (Bd w h sh st Ch e ∧ Cn w h sh st Ch c e) - iB (Bd w h sh st Ch' e ∧ Cn w h sh st Ch' c e)) := sumL_pos (fun e _ => by
    by_cases k : Bd w h sh st Ch' e ∧ Cn w h sh st Ch' c e
    · rw [iB_t k, iB_t ⟨k.1.mono hs, k.2.mono hs⟩]; omega
    · rw [iB_f k]; have := iB_b (Bd w h sh st Ch e ∧ Cn w h sh st Ch c e); omega)
  have : sumL (cellsL (w * h)) (fun e => iB (Bd w h sh st Ch e ∧ Cn w h sh st Ch c e)) = sumL (cellsL (w * h)) (fun e => iB (Bd w h sh st Ch e ∧ Cn w h sh st Ch c e) - iB (Bd w h sh st Ch' e ∧ Cn w h sh st Ch' c e)) + sumL (cellsL (w * h)) (fun e => iB (Bd w h sh st Ch' e ∧ Cn w h sh st Ch' c e)) := sumL_add (fun e _ => by omega)
  omega
def PCh (w h sh : Int) (st : Int → Int) (Ch : Int → Prop) (c n : Int) : Prop := Ch n ∧ ∃ d ∈ NB w h sh n, st d ≤ 1 ∧ Cn w h sh st Ch c d
theorem Pos_part {w h sh left c b : Int} {st mined : Int → Int} {Ch : Int → Prop} (hm : ∀ c, 0 ≤ c → c < w * h → mined c = 0 ∨ mined c = 1) : Pos w h sh st (Rn w h sh st mined) Ch left 0 c b ↔ Pos w h sh st (Rn w h sh st mined) (PCh w h sh st Ch c) left 0 c b := by
  constructor
  · rintro ⟨t, t01, ht, -, e⟩
    exact ⟨t, t01, fun n hn => ht n hn.1, fun k => absurd rfl k, e⟩
  · rintro ⟨t, t01, ht, -, e⟩
    have dec : ∀ d, Cn w h sh st Ch c d ∨ ¬ Cn w h sh st Ch c d := fun d => Classical.em _
    refine ⟨fun d => iB (Cn w h sh st Ch c d) * t d + iB (¬ Cn w h sh st Ch c d ∧ 0 ≤ d ∧ d < w * h) * mined d, fun d => ?_, fun n hn => ?_, fun k => absurd rfl k, ?_⟩
    · show iB (Cn w h sh st Ch c d) * t d + iB (¬ Cn w h sh st Ch c d ∧ 0 ≤ d ∧ d < w * h) * mined d = 0 ∨ iB (Cn w h sh st Ch c d) * t d + iB (¬ Cn w h sh st Ch c d ∧ 0 ≤ d ∧ d < w * h) * mined d = 1
      rcases dec d with k | k
      · rw [iB_t k, iB_f (fun y => y.1 k)]
        have := t01 d
        omega
      · rw [iB_f k]
        by_cases r : 0 ≤ d ∧ d < w * h
        · rw [iB_t ⟨k, r⟩]
          have := hm d r.1 r.2
          omega
        · rw [iB_f (fun y => r y.2)]
          omega
    · by_cases p : PCh w h sh st Ch c n
      · refine (ht n p).cong (fun d md ud => ?_)
        obtain ⟨-, e', me, ue, ke⟩ := p
        have k : Cn w h sh st Ch c d := ke.trans (Cn.one hn me ue md ud)
        rw [iB_t k, iB_f (fun y => y.1 k)]
        omega
      · unfold Sat1
        refine sumL_congr (fun d md => ?_)
        by_cases ud : st d ≤ 1
        · have k : ¬ Cn w h sh st Ch c d := fun y => p ⟨hn, d, md, ud, y⟩
          show iU (st d) * (iB (Cn w h sh st Ch c d) * t d + iB (¬ Cn w h sh st Ch c d ∧ 0 ≤ d ∧ d < w * h) * mined d) = iU (st d) * mined d
          rw [iB_f k, iB_t ⟨k, nb_cell md⟩]
          congr 1
          omega
        · rw [show iU (st d) = 0 from if_neg ud, Int.zero_mul, Int.zero_mul]
    · show iB (Cn w h sh st Ch c c) * t c + iB (¬ Cn w h sh st Ch c c ∧ 0 ≤ c ∧ c < w * h) * mined c = b
      rw [iB_t Cn.refl, iB_f (fun y => y.1 Cn.refl)]
      omega
/-- leaving out, from the last number on -/
def Lf (w h sh : Int) (st mined : Int → Int) (left all c b : Int) (Ch : Int → Prop) : Nat → Int → Prop
  | 0 => Ch
  | k + 1 => fun m => Lf w h sh st mined left all c b Ch k m ∧ (m = w * h - 1 - k → Pos w h sh st (Rn w h sh st mined) (fun j => Lf w h sh st mined left all c b Ch k j ∧ j ≠ w * h - 1 - k) left all c b)
theorem Lf.sub {w h sh left all c b : Int} {st mined : Int → Int} {Ch : Int → Prop} : ∀ {k : Nat} {m : Int}, Lf w h sh st mined left all c b Ch k m → Ch m := by
  intro k
  induction k with
  | zero => intro m q; exact q
  | succ k ih => intro m q; exact ih q.1
def W0 (w h sh : Int) (st mined : Int → Int) (left c b : Int) : Prop := Fit w h sh st (AllCh w h sh st) ∧ Pos w h sh st (Rn w h sh st mined) (AllCh w h sh st) left 0 c b
def Ch0 (w h sh : Int) (st mined : Int → Int) (left c b n : Int) : Prop := (W0 w h sh st mined left c b → AllCh w h sh st n) ∧ (¬ W0 w h sh st mined left c b → Bd w h sh st (AllCh w h sh st) c ∧ PCh w h sh st (AllCh w h sh st) c n)
theorem Ch0.all {w h sh left c b n : Int} {st mined : Int → Int} (q : Ch0 w h sh st mined left c b n) : AllCh w h sh st n := by
  by_cases k : W0 w h sh st mined left c b
  · exact q.1 k
  · exact (q.2 k).2.1
def FinC (w h sh : Int) (st mined : Int → Int) (left c b m : Int) : Prop := (Fit w h sh st (AllCh w h sh st) → Lf w h sh st mined left (iB (W0 w h sh st mined left c b)) c b (Ch0 w h sh st mined left c b) (w * h).toNat m) ∧ (¬ Fit w h sh st (AllCh w h sh st) → Ch0 w h sh st mined left c b m)
noncomputable def FinL (w h sh : Int) (st mined : Int → Int) (left c b : Int) : List Int := (cellsL (w * h)).filter (fun m => dB (FinC w h sh st mined left c b m))
/-! the class -/
theorem s_keepPart {w h sh P lg c mines : Int} {near nearEnd mined number st ci un hi ch po rs uk ps cs : Int → Int} {post : (Int → Int) → Prop} (D : DE w h sh near nearEnd mined number st ci un hi mines) (hch : ∀ c, 0 ≤ c → c < w * h → (ch c = 0 ∨ ch c = 1) ∧ (ch c = 1 ↔ AllCh w h sh st c)) (b : BS w h sh st number hi un (AllCh w h sh st) P lg po rs uk ps cs) (hc : 0 ≤ c ∧ c < w * h) (hu : st c ≤ 1)
    (hp : ∀ ch' : Int → Int, (∀ n, 0 ≤ n → n < w * h → (ch' n = 0 ∨ ch' n = 1) ∧ (ch' n = 1 ↔ Bd w h sh st (AllCh w h sh st) c ∧ PCh w h sh st (AllCh w h sh st) c n)) → post ch') : P_X1_keepPart post (w * h) ch po (po c) := by
  have ok := D.1
  have hle := wh_le ok
  have hge := wh_ge ok
  have cok : ChOk w h sh st (AllCh w h sh st) := AllCh.ok
  have f := b.facts ok cok
  have key : ∀ n, AllCh w h sh st n → (po n = po c ↔ Bd w h sh st (AllCh w h sh st) c ∧ PCh w h sh st (AllCh w h sh st) c n) := by
    intro n hn
    obtain ⟨hr, h2, d, md, ud⟩ := id hn
    have nf := (b.2.1 n hn (by have := hn.1; omega) (b.2.2.1 n hn)).1
    have bd : Bd w h sh st (AllCh w h sh st) d := ⟨nb_cell md, ud, n, hn, md⟩
    have pd := (f.2.2.1 d bd).1
    have ed := nf d md ud
    constructor
    · intro e
      have bc : Bd w h sh st (AllCh w h sh st) c := Classical.byContradiction (fun k => by have := f.2.2.2.2 c hc.1 hc.2 hu k; omega)
      exact ⟨bc, hn, d, md, ud, (b.cn ok cok bc bd).1 (by omega)⟩
    · rintro ⟨bc, -, e, me, ue, ke⟩
      have be : Bd w h sh st (AllCh w h sh st) e := ⟨nb_cell me, ue, n, hn, me⟩
      have := (b.cn ok cok bc be).2 ke
      have := nf e me ue
      omega
  unfold P_X1_keepPart
  refine ⟨fun n x c' => n = (w * h - x).toNat ∧ 0 ≤ x ∧ x ≤ w * h ∧ (∀ n, 0 ≤ n → n < x → (c' n = 0 ∨ c' n = 1) ∧ (c' n = 1 ↔ Bd w h sh st (AllCh w h sh st) c ∧ PCh w h sh st (AllCh w h sh st) c n)) ∧ (∀ n, x ≤ n → n < w * h → c' n = ch n), ⟨_, rfl, by omega, by omega, fun c _ _ => by omega, fun _ _ _ => rfl⟩, ?_⟩
  rintro n x c' rx ⟨rfl, b1, b2, b3, b4⟩
  refine ⟨fun z => hp c' (fun n n0 n1 => b3 n n0 (by omega)), fun z => ?_⟩
  have ox := hch x b1 (by omega)
  have ex := b4 x (Int.le_refl _) (by omega)
  have fin : ∀ v : Int, (v = 0 ∨ v = 1) → (v = 1 ↔ Bd w h sh st (AllCh w h sh st) c ∧ PCh w h sh st (AllCh w h sh st) c x) → ((0 ≤ x ∧ x < 144) ∧ ((v = 0 ∨ v = 1) ∧ (∀ B_chosen_17 : Int → Int, B_chosen_17 = upZ c' x v → (inR (x + 1) ∧ (∀ x2_19 : Int, x2_19 = (x + 1) → (∃ n_20 : Nat, n_20 < (w * h - x).toNat ∧ (n_20 = (w * h - x2_19).toNat ∧ 0 ≤ x2_19 ∧ x2_19 ≤ w * h ∧ (∀ n, 0 ≤ n → n < x2_19 → (B_chosen_17 n = 0 ∨ B_chosen_17 n = 1) ∧ (B_chosen_17 n = 1 ↔ Bd w h sh st (AllCh w h sh st) c ∧ PCh w h sh st (AllCh w h sh st) c n)) ∧ (∀ n, x2_19 ≤ n → n < w * h → B_chosen_17 n = ch n)))))))) := by
    intro v h1 h2
    refine ⟨by omega, h1, fun c2 e2 => nx (by omega) ⟨_, ?_, rfl, by omega, by omega, fun n n0 n1 => ?_, fun n n0 n1 => ?_⟩⟩
    · omega
    · rw [e2]
      by_cases e : n = x
      · rw [e, upZ_s]; exact ⟨h1, h2⟩
      · rw [upZ_n _ _ e]; exact b3 n n0 (by omega)
    · rw [e2, upZ_n _ _ (by omega)]
      exact b4 n (by omega) n1
  refine ⟨by omega, fun v ev hv => exJi (exJ0 ⟨fun z1 _ => fin 0 (Or.inl rfl) ⟨fun y => by omega, fun y => ?_⟩, fun z1 => ⟨by omega, fun v2 e2 r2 => ⟨fun z2 _ => fin 0 (Or.inl rfl) ⟨fun y => by omega, fun y => ?_⟩, fun z2 _ => fin 1 (Or.inr rfl) ⟨fun _ => ?_, fun _ => rfl⟩⟩⟩⟩)⟩
  · have := ox.2.2 y.2.1
    omega
  · have := (key x y.2.1).2 y
    omega
  · exact (key x (ox.2.1 (by omega))).1 (by omega)
theorem filt_take {n x : Int} {p : Int → Bool} (h0 : 0 ≤ x) : (cellsL (x + 1)).filter p = (cellsL x).filter p ++ (if p x = true then [x] else []) := by
  rw [cells_succ h0, List.filter_append, List.filter_cons]
  by_cases k : p x = true
  · rw [if_pos k, if_pos k]; rfl
  · rw [if_neg k, if_neg k]; rfl
theorem filt_len {x : Int} {p : Int → Bool} (h0 : 0 ≤ x) : (((cellsL x).filter p).length : Int) ≤ x := by
  have := cells_len h0
  have : ((cellsL x).filter p).length ≤ (cellsL x).length := List.filter_sublist.length_le
  omega
theorem s_keepChosen {w h sh : Int} {ch nm : Int → Int} {F : Int → Prop} {post : Int → (Int → Int) → Prop} (ok : okB w h sh) (hch : ∀ n, 0 ≤ n → n < w * h → (ch n = 0 ∨ ch n = 1) ∧ (ch n = 1 ↔ F n))
    (hp : ∀ nm' : Int → Int, seg nm' 0 ((cellsL (w * h)).filter (fun m => dB (F m))).length = (cellsL (w * h)).filter (fun m => dB (F m)) → post ((cellsL (w * h)).filter (fun m => dB (F m))).length nm') : P_X0_keepChosen post (w * h) 0 ch nm := by
  have hle := wh_le ok
  have hge := wh_ge ok
  unfold P_X0_keepChosen
  refine ⟨fun n x N nm' => n = (w * h - x).toNat ∧ 0 ≤ x ∧ x ≤ w * h ∧ N = ((cellsL x).filter (fun m => dB (F m))).length ∧ seg nm' 0 ((cellsL x).filter (fun m => dB (F m))).length = (cellsL x).filter (fun m => dB (F m)), ⟨_, rfl, by omega, by omega, rfl, rfl⟩, ?_⟩
  rintro n x N nm' rx ⟨rfl, b1, b2, b3, b4⟩
  refine ⟨fun z => ?_, fun z => ⟨by omega, fun v ev hv => ?_⟩⟩
  · have e : x = w * h := by omega
    subst e
    rw [b3]
    exact hp nm' b4
  have o := hch x b1 (by omega)
  have fl := filt_len (x := x) (p := fun m => dB (F m)) b1
  have ft := filt_take (n := 0) (x := x) (p := fun m => dB (F m)) b1
  refine ⟨fun N' nm2 => N' = ((cellsL (x + 1)).filter (fun m => dB (F m))).length ∧ seg nm2 0 ((cellsL (x + 1)).filter (fun m => dB (F m))).length = (cellsL (x + 1)).filter (fun m => dB (F m)), ⟨fun z1 => ?_, fun z1 => ⟨by omega, fun nm2 e2 => ⟨by omega, fun N2 eN => ?_⟩⟩⟩, fun N' nm2 ⟨q1, q2⟩ => nx (by omega) ⟨_, ?_, rfl, by omega, by omega, q1, q2⟩⟩
  · have k : ¬ dB (F x) = true := fun y => by have := o.2.2 (dB_iff.1 y); omega
    rw [ft, if_neg k, List.append_nil]
    exact ⟨b3, b4⟩
  · have k : dB (F x) = true := dB_iff.2 (o.2.1 (by omega))
    rw [ft, if_pos k, List.length_append]
    refine ⟨by rw [eN, b3]; simp, ?_⟩
    show seg nm2 0 (((cellsL x).filter (fun m => dB (F m))).length + 1) = _
    rw [seg_succ, e2, seg_up (by omega), b4, b3, Int.zero_add, upZ_s]
  · omega
