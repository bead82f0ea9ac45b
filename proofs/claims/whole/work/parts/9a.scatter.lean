/-! laying mines by the same numbers, on both sides -/
def FrC (w h sh : Int) (m : Int → Int) (c : Int) : Prop := m c = 0 ∧ ¬ c = fc w h ∧ ¬ c ∈ NB w h sh (fc w h)
noncomputable def CF (w h sh : Int) (m : Int → Int) : Int := sumL (cellsL (w * h)) (fun c => iB (FrC w h sh m c))
def NthF (w h sh : Int) (m : Int → Int) (k c : Int) : Prop := (0 ≤ c ∧ c < w * h) ∧ FrC w h sh m c ∧ sumL (cellsL c) (fun d => iB (FrC w h sh m d)) = k
theorem and31_nn {a : Int} : 0 ≤ andI a 2147483647 := by
  show 0 ≤ (iI a &&& iI 2147483647).toBitVec.toInt
  rw [Int32.toBitVec_and]
  have m : ((iI a).toBitVec &&& (iI 2147483647).toBitVec).msb = false := by
    rw [BitVec.msb_and]
    have : (iI 2147483647).toBitVec.msb = false := by decide
    rw [this, Bool.and_false]
  rw [BitVec.toInt_eq_toNat_of_msb m]
  omega
theorem CF.b {w h sh : Int} {m : Int → Int} (ok : okB w h sh) : 0 ≤ CF w h sh m ∧ CF w h sh m ≤ 144 := by
  have hle := wh_le ok
  have hge := wh_ge ok
  exact cellsB (n := w * h) (x := w * h) ⟨by omega, by omega⟩ hle (fun c _ _ => iB_b _)
theorem FrC.cong {w h sh c : Int} {m m' : Int → Int} (e : m c = m' c) : FrC w h sh m c ↔ FrC w h sh m' c := by
  unfold FrC
  rw [e]
theorem CF.cong {w h sh : Int} {m m' : Int → Int} (e : Eqc (w * h) m m') : CF w h sh m = CF w h sh m' := sumL_congr (fun c mc => iB_iff (FrC.cong (e c (mem_cells.1 mc).1 (mem_cells.1 mc).2)))
theorem CF.up {w h sh c : Int} {m : Int → Int} (hc : 0 ≤ c ∧ c < w * h) (f : FrC w h sh m c) : CF w h sh (upZ m c 1) = CF w h sh m - 1 := by
  unfold CF
  have := sumL_change (f := fun d => iB (FrC w h sh m d)) (g := fun d => iB (FrC w h sh (upZ m c 1) d)) (x := c) (l := cellsL (w * h)) cells_nd (fun y _ hy => iB_iff (FrC.cong (upZ_n m 1 hy)))
  rw [this, if_pos (mem_cells.2 hc), iB_t f, iB_f (fun q => by have := q.1; rw [upZ_s] at this; exact absurd this (by decide))]
  omega
theorem NthF.uniq {w h sh k c c' : Int} {m m' : Int → Int} (e : Eqc (w * h) m m') (a : NthF w h sh m k c) (b : NthF w h sh m' k c') : c = c' := by
  obtain ⟨a1, a2, a3⟩ := a
  obtain ⟨b1, b2, b3⟩ := b
  have fm : ∀ {x : Int}, 0 ≤ x → x ≤ w * h → sumL (cellsL x) (fun d => iB (FrC w h sh m d)) = sumL (cellsL x) (fun d => iB (FrC w h sh m' d)) := fun x0 x1 => sumL_congr (fun d md => iB_iff (FrC.cong (e d (mem_cells.1 md).1 (by have := (mem_cells.1 md).2; omega))))
  have lt : ∀ {x y : Int} {q : Int → Int}, 0 ≤ x → x < y → FrC w h sh q x → sumL (cellsL x) (fun d => iB (FrC w h sh q d)) < sumL (cellsL y) (fun d => iB (FrC w h sh q d)) := by
    intro x y q x0 xy fx
    obtain ⟨r, er⟩ := cells_split (m := x + 1) (n := y) (by omega) (by omega)
    rw [er, sumL_append, cells_succ x0, sumL_snoc, iB_t fx]
    have : 0 ≤ sumL r (fun d => iB (FrC w h sh q d)) := sumL_pos (fun d _ => (iB_b _).1)
    omega
  rw [fm a1.1 (by omega)] at a3
  have a2' := (FrC.cong (e c a1.1 a1.2)).1 a2
  by_cases k1 : c < c'
  · have := lt a1.1 k1 a2'
    omega
  · by_cases k2 : c' < c
    · have := lt b1.1 k2 b2
      omega
    · omega
theorem NthF.ex {w h sh k : Int} {m : Int → Int} (h0 : 0 ≤ k) (h1 : k < CF w h sh m) (hn : 0 ≤ w * h) : ∃ c, NthF w h sh m k c := by
  apply Classical.byContradiction
  intro ne
  have key : ∀ x : Nat, (x : Int) ≤ w * h → sumL (cellsL x) (fun d => iB (FrC w h sh m d)) ≤ k := by
    intro x
    induction x with
    | zero => intro _; exact h0
    | succ x ih =>
      intro hx
      have i := ih (by omega)
      rw [show ((x + 1 : Nat) : Int) = (x : Int) + 1 by omega, cells_succ (by omega), sumL_snoc]
      by_cases f : FrC w h sh m x
      · rw [iB_t f]
        by_cases e : sumL (cellsL (x : Int)) (fun d => iB (FrC w h sh m d)) = k
        · exact absurd ⟨(x : Int), ⟨by omega, by omega⟩, f, e⟩ ne
        · omega
      · rw [iB_f f]; omega
  have := key (w * h).toNat (by omega)
  rw [show (((w * h).toNat : Nat) : Int) = w * h by omega] at this
  unfold CF at h1
  omega
def LCG (x : Int) : Int := andI (1103515245 * x + 12345) 2147483647
/-- k mines more, from this number on -/
def ScR (w h sh : Int) : Nat → Int → (Int → Int) → (Int → Int) → Prop
  | 0, _, m, m' => Eqc (w * h) m m'
  | k + 1, x, m, m' => ∃ c, NthF w h sh m ((LCG x).tdiv 65536 |>.tmod (CF w h sh m)) c ∧ ScR w h sh k (LCG x) (upZ m c 1) m'
theorem ScR.uniq {w h sh : Int} : ∀ {k : Nat} {x : Int} {m m' a b : Int → Int}, Eqc (w * h) m m' → ScR w h sh k x m a → ScR w h sh k x m' b → Eqc (w * h) a b := by
  intro k
  induction k with
  | zero =>
    intro x m m' a b e p q c c0 c1
    rw [← p c c0 c1, ← q c c0 c1]
    exact e c c0 c1
  | succ k ih =>
    rintro x m m' a b e ⟨c, n1, p⟩ ⟨c', n2, q⟩
    rw [← CF.cong e] at n2
    have ec := n1.uniq e n2
    subst ec
    refine ih (fun d d0 d1 => ?_) p q
    by_cases k : d = c
    · rw [k, upZ_s, upZ_s]
    · rw [upZ_n _ _ k, upZ_n _ _ k]; exact e d d0 d1
theorem s_isFree {w h sh c : Int} {mined near nearEnd : Int → Int} {post : Int → Prop} (ok : okB w h sh) (g : GeoD w h sh near nearEnd) (hm : mined c = 0 ∨ mined c = 1) (hc : 0 ≤ c ∧ c < w * h) (hp : ∀ u : Int, (u = 0 ∨ u = 1) → (u = 1 ↔ FrC w h sh mined c) → post u) : P_X4_isFree post w h mined near nearEnd c := by
  have hle := wh_le ok
  unfold P_X4_isFree
  have no : ¬ FrC w h sh mined c → inR 0 → ((0 : Int) = 0 ∨ (0 : Int) = 1) ∧ post 0 := fun k _ => ⟨Or.inl rfl, hp 0 (Or.inl rfl) ⟨fun y => absurd y (by decide), fun y => absurd y k⟩⟩
  refine ⟨by omega, fun v ev hv => exJi (exJ0 ⟨fun z => no (fun k => by have := k.1; omega), fun z => s_firstCell ok (fun _ => ⟨fun z1 => no (fun k => k.2.1 z1), fun z1 => s_firstCell ok (fun _ => s_areNear ok g (fc_in ok) (fun m _ => ⟨fun _ => no (fun k => k.2.2 m), fun y => absurd y (by decide)⟩) (fun m _ => ⟨fun y => absurd rfl y, fun _ _ => ⟨Or.inr rfl, hp 1 (Or.inr rfl) ⟨fun _ => ⟨by omega, z1, m⟩, fun _ => rfl⟩⟩⟩))⟩)⟩)⟩
theorem s_putOnFree {w h sh k mines : Int} {mined number near nearEnd : Int → Int} {post : Int → (Int → Int) → (Int → Int) → Prop} (ok : okB w h sh) (g : GeoD w h sh near nearEnd) (dm : DMi w h sh mined number mines) (h0 : 0 ≤ k) (h1 : k < CF w h sh mined)
    (hp : ∀ (c mines' : Int) (number' : Int → Int), NthF w h sh mined k c → DMi w h sh (upZ mined c 1) number' mines' → post mines' (upZ mined c 1) number') : P_X4_putOnFree post mines w h (w * h) mined number near nearEnd k := by
  have hle := wh_le ok
  have hge := wh_ge ok
  obtain ⟨c0, nc⟩ := NthF.ex h0 h1 (by omega)
  unfold P_X4_putOnFree
  refine ⟨fun n p x => n = (w * h - x).toNat ∧ 0 ≤ x ∧ x ≤ c0 ∧ p = sumL (cellsL x) (fun d => iB (FrC w h sh mined d)), ⟨_, rfl, by omega, by have := nc.1; omega, rfl⟩, ?_⟩
  rintro n p x rp rx ⟨rfl, b1, b2, b3⟩
  have hc0 := nc.1
  refine ⟨fun z => by omega, fun z => s_isFree ok g (dm.1 x b1 (by omega)) ⟨b1, by omega⟩ (fun u hu iu _ => ?_)⟩
  have sb := cellsB (n := w * h) (x := x) (f := fun d => iB (FrC w h sh mined d)) ⟨b1, by omega⟩ hle (fun c _ _ => iB_b _)
  have lt : x < c0 → FrC w h sh mined x → p < k := by
    intro xy fx
    obtain ⟨r, er⟩ := cells_split (m := x + 1) (n := c0) (by omega) (by omega)
    have e := nc.2.2
    rw [er, sumL_append, cells_succ b1, sumL_snoc, iB_t fx] at e
    have : 0 ≤ sumL r (fun d => iB (FrC w h sh mined d)) := sumL_pos (fun d _ => (iB_b _).1)
    omega
  refine exJi ⟨fun z1 => ⟨fun z2 => ⟨by omega, fun p2 ep2 _ => nx (by omega) ⟨_, ?_, rfl, by omega, ?_, ?_⟩⟩, fun z2 => ?_⟩, fun z1 _ => nx (by omega) ⟨_, ?_, rfl, by omega, ?_, ?_⟩⟩
  · omega
  · have fx := iu.1 (hu.resolve_left z1)
    by_cases e : x = c0
    · have := nc.2.2
      rw [← e] at this
      omega
    · omega
  · have fx := iu.1 (hu.resolve_left z1)
    rw [cells_succ b1, sumL_snoc, iB_t fx, ep2, b3]
  · have fx := iu.1 (hu.resolve_left z1)
    have e : x = c0 := by
      by_cases e : x = c0
      · exact e
      · have := lt (by omega) fx
        omega
    subst e
    exact s_setMine ok g dm nc.1 (Or.inr rfl) (fun number' mines' d' => hp _ _ _ nc d')
  · omega
  · by_cases e : x = c0
    · have := iu.2 (e ▸ nc.2.1)
      omega
    · omega
  · have nf : ¬ FrC w h sh mined x := fun k => by have := iu.2 k; omega
    rw [cells_succ b1, sumL_snoc, iB_f nf, b3]
    omega
theorem CF.start {w h sh : Int} {m : Int → Int} (ok : okB w h sh) (hz : ∀ c, 0 ≤ c → c < w * h → m c = 0) : CF w h sh m = w * h - 1 - (NB w h sh (fc w h)).length := by
  have hge := wh_ge ok
  have fb := fc_in ok
  have e1 : CF w h sh m = sumL (cellsL (w * h)) (fun c => 1 - iB (c ∈ fc w h :: NB w h sh (fc w h))) := sumL_congr (fun c mc => by
    have hc := mem_cells.1 mc
    by_cases k : c ∈ fc w h :: NB w h sh (fc w h)
    · rw [iB_t k, iB_f (fun f => by rcases List.mem_cons.1 k with q | q; exact f.2.1 q; exact f.2.2 q)]; rfl
    · rw [iB_f k, iB_t ⟨hz c hc.1 hc.2, fun q => k (List.mem_cons.2 (Or.inl q)), fun q => k (List.mem_cons.2 (Or.inr q))⟩]; rfl)
  have pm : ((cellsL (w * h)).filter (fun c => dB (c ∈ fc w h :: NB w h sh (fc w h)))).Perm (fc w h :: NB w h sh (fc w h)) := by
    refine perm_mem (cells_nd.sublist List.filter_sublist) (List.nodup_cons.2 ⟨fun m => NB_ne ok fb m rfl, pw_nodup NB_pw⟩) (fun c => ?_)
    rw [List.mem_filter, dB_iff, mem_cells]
    refine ⟨fun q => q.2, fun q => ⟨?_, q⟩⟩
    rcases List.mem_cons.1 q with e | e
    · rw [e]; exact fb
    · exact nb_cell e
  have l1 := pm.length_eq
  have e2 : (((cellsL (w * h)).filter (fun c => dB (c ∈ fc w h :: NB w h sh (fc w h)))).length : Int) = sumL (cellsL (w * h)) (fun c => iB (c ∈ fc w h :: NB w h sh (fc w h))) := by
    have e : (((cellsL (w * h)).filter (fun c => dB (c ∈ fc w h :: NB w h sh (fc w h)))).length : Int) = sumL ((cellsL (w * h)).filter (fun c => dB (c ∈ fc w h :: NB w h sh (fc w h)))) (fun _ => 1) := by rw [sumL_const (k := 1) (fun _ _ => rfl)]; omega
    rw [e, sumL_filter]
    refine sumL_congr (fun c _ => ?_)
    by_cases k : c ∈ fc w h :: NB w h sh (fc w h)
    · rw [iB_t k, if_pos (dB_iff.2 k)]
    · rw [iB_f k, if_neg (fun y => k (dB_iff.1 y))]
  have e3 : sumL (cellsL (w * h)) (fun _ => 1) = sumL (cellsL (w * h)) (fun c => 1 - iB (c ∈ fc w h :: NB w h sh (fc w h))) + sumL (cellsL (w * h)) (fun c => iB (c ∈ fc w h :: NB w h sh (fc w h))) := sumL_add (fun c _ => by omega)
  rw [sumL_const (k := 1) (fun _ _ => rfl)] at e3
  have := cells_len (n := w * h) (by omega)
  rw [List.length_cons] at l1
  omega
theorem s_scatter {w h sh many seed mines0 : Int} {mined number near nearEnd : Int → Int} {post : Int → (Int → Int) → (Int → Int) → Prop} (ok : okB w h sh) (g : GeoD w h sh near nearEnd) (dm : DMi w h sh mined number mines0) (hz : ∀ c, 0 ≤ c → c < w * h → mined c = 0) (hm : 1 ≤ many ∧ many ≤ CF w h sh mined)
    (hp : ∀ (mines' : Int) (mined' number' : Int → Int), DMi w h sh mined' number' mines' → ScR w h sh many.toNat (andI seed 2147483647) mined mined' → post mines' mined' number') : P_X4_scatter post mines0 w h (w * h) mined number near nearEnd many seed := by
  have hle := wh_le ok
  have hge := wh_ge ok
  have cb := CF.b (m := mined) ok
  unfold P_X4_scatter
  refine ⟨fun n f x => n = (w * h - x).toNat ∧ 0 ≤ x ∧ x ≤ w * h ∧ f = sumL (cellsL x) (fun d => iB (FrC w h sh mined d)), ⟨_, rfl, by omega, by omega, rfl⟩, ?_⟩
  rintro n f x rf rx ⟨rfl, b1, b2, b3⟩
  have sb := cellsB (n := w * h) (x := x) (f := fun d => iB (FrC w h sh mined d)) ⟨b1, by omega⟩ hle (fun c _ _ => iB_b _)
  refine ⟨fun z => ?_, fun z => s_isFree ok g (dm.1 x b1 (by omega)) ⟨b1, by omega⟩ (fun u hu iu _ => exJi ⟨fun z1 _ => nx (by omega) ⟨_, ?_, rfl, by omega, by omega, ?_⟩, fun z1 => ⟨by omega, fun f2 ef _ => nx (by omega) ⟨_, ?_, rfl, by omega, by omega, ?_⟩⟩⟩)⟩
  rotate_left
  · omega
  · have nf : ¬ FrC w h sh mined x := fun k => by have := iu.2 k; omega
    rw [cells_succ b1, sumL_snoc, iB_f nf, b3]; omega
  · omega
  · rw [cells_succ b1, sumL_snoc, iB_t (iu.1 (hu.resolve_left z1)), ef, b3]
  have ex : x = w * h := by omega
  subst ex
  have ef : f = CF w h sh mined := b3
  rintro x0 rfl
  refine ⟨by split <;> omega, fun left el => ?_⟩
  have el' : left = many := by rw [el]; split <;> omega
  subst el'
  refine ⟨fun n fr xx lf mn md nb => n = lf.toNat ∧ 0 ≤ lf ∧ lf ≤ left ∧ fr = CF w h sh md ∧ lf ≤ fr ∧ DMi w h sh md nb mn ∧ ∀ mf, ScR w h sh lf.toNat xx md mf → ScR w h sh left.toNat (andI seed 2147483647) mined mf, ⟨_, rfl, by omega, by omega, ef, by omega, dm, fun mf q => q⟩, ?_⟩
  rintro n fr xx lf mn md nb rfr rxx rlf ⟨rfl, c1, c2, c3, c4, c5, c6⟩
  refine ⟨fun z1 => ?_, fun z1 => ⟨fun z2 => by omega, fun z2 x1 ex1 => ?_⟩⟩
  · have e0 : lf.toNat = 0 := by omega
    refine hp mn md nb c5 (c6 md ?_)
    rw [e0]
    exact fun _ _ _ => rfl
  · have xnn : 0 ≤ x1 := by rw [ex1]; exact and31_nn
    have xr : x1 < 2147483648 := by rw [ex1]; exact (andI_r _ _).2
    have elcg : x1 = LCG xx := ex1
    have d0 : 0 ≤ x1.tdiv 65536 := Int.tdiv_nonneg xnn (by decide)
    have d1 : x1.tdiv 65536 ≤ x1 := Int.tdiv_le_self 65536 xnn
    have m0 : 0 ≤ (x1.tdiv 65536).tmod fr := Int.tmod_nonneg fr d0
    have m1 : (x1.tdiv 65536).tmod fr < fr := Int.tmod_lt_of_pos _ (by omega)
    have cb2 := CF.b (m := md) ok
    refine ⟨by omega, by omega, by omega, s_putOnFree ok g c5 m0 (by omega) (fun c mn2 nb2 nf d2 => ⟨by omega, fun fr2 efr => ⟨by omega, fun lf2 elf => ⟨_, ?_, rfl, by omega, by omega, ?_, by omega, d2, fun mf q => c6 mf ?_⟩⟩⟩)⟩
    · omega
    · rw [CF.up nf.1 nf.2.1]; omega
    · rw [show lf.toNat = lf2.toNat + 1 by omega]
      refine ⟨c, ?_, ?_⟩
      · rw [← elcg, ← c3]; exact nf
      · rw [← elcg]; exact q
theorem s_isKept {w h sh c : Int} {near degree : Int → Int} {post : Int → Prop} (ok : okB w h sh) (g : GeoM w h sh near degree) (hp : ∀ u : Int, (u = 0 ∨ u = 1) → (u = 1 ↔ c = fc w h ∨ c ∈ NB w h sh (fc w h)) → post u) : P_X12_isKept post near degree (fc w h) c := by
  have hle := wh_le ok
  have fb := fc_in ok
  have hl := NB_len ok fb
  have ge := (g (fc w h) fb.1 fb.2).1
  unfold P_X12_isKept
  refine ⟨fun z => (z = 0 ∨ z = 1) ∧ (z = 1 ↔ c = fc w h), ⟨fun y => ⟨Or.inl rfl, ⟨fun q => absurd q (by decide), fun q => absurd q y⟩⟩, fun y => ⟨Or.inr rfl, ⟨fun _ => y, fun _ => rfl⟩⟩⟩, fun z rz ⟨z01, zi⟩ => ?_⟩
  refine ⟨fun n v x => n = (degree (fc w h) - x).toNat ∧ 0 ≤ x ∧ x ≤ degree (fc w h) ∧ (v = 0 ∨ v = 1) ∧ (v = 1 ↔ c = fc w h ∨ c ∈ (NB w h sh (fc w h)).take x.toNat), ⟨_, rfl, by omega, by omega, z01, zi.trans ⟨Or.inl, fun q => q.elim id (fun q => by simp at q)⟩⟩, ?_⟩
  rintro n v x rv rx ⟨rfl, b1, b2, b3, b4⟩
  refine ⟨by omega, fun dg ed rd => ⟨fun q => ⟨b3, hp v b3 ?_⟩, fun q => ?_⟩⟩
  · rw [rowM_end g fb (by omega)] at b4
    exact b4
  · obtain ⟨m, t⟩ := rowM_at g fb b1 (by omega)
    have mc := nb_cell m
    have et : (x + 1).toNat = x.toNat + 1 := by omega
    have go : ∀ v2 : Int, (v2 = 0 ∨ v2 = 1) → (v2 = 1 ↔ v = 1 ∨ near (8 * fc w h + x) = c) → inR v2 → (inR (x + 1) ∧ (∀ x4_19 : Int, x4_19 = (x + 1) → (∃ n_20 : Nat, n_20 < (degree (fc w h) - x).toNat ∧ (n_20 = (degree (fc w h) - x4_19).toNat ∧ 0 ≤ x4_19 ∧ x4_19 ≤ degree (fc w h) ∧ (v2 = 0 ∨ v2 = 1) ∧ (v2 = 1 ↔ c = fc w h ∨ c ∈ (NB w h sh (fc w h)).take x4_19.toNat))))) := by
      intro v2 h2 i2 _
      refine nx (by omega) ⟨_, ?_, rfl, by omega, by omega, h2, ?_⟩
      · omega
      · rw [i2, b4, et, t, List.mem_append, List.mem_singleton, or_assoc]
        exact or_congr Iff.rfl (or_congr Iff.rfl eq_comm)
    refine exJi (exJ0 ⟨fun z1 => go 1 (Or.inr rfl) ⟨fun _ => Or.inl (by omega), fun _ => rfl⟩, fun z1 => ⟨by omega, fun v3 e3 r3 => ⟨fun z2 => go 0 (Or.inl rfl) ⟨fun k => absurd k (by decide), fun k => by omega⟩, fun z2 => go 1 (Or.inr rfl) ⟨fun _ => Or.inr (by omega), fun _ => rfl⟩⟩⟩⟩)
theorem s_freeAround {w h sh : Int} {near degree mine : Int → Int} {post : Int → Prop} (ok : okB w h sh) (g : GeoM w h sh near degree) (hm : ∀ c, 0 ≤ c → c < w * h → mine c = 0 ∨ mine c = 1) (hp : post (CF w h sh mine)) : P_X12_freeAround post (w * h) near degree mine (fc w h) := by
  have hle := wh_le ok
  have hge := wh_ge ok
  unfold P_X12_freeAround
  refine ⟨fun n f x => n = (w * h - x).toNat ∧ 0 ≤ x ∧ x ≤ w * h ∧ f = sumL (cellsL x) (fun d => iB (FrC w h sh mine d)), ⟨_, rfl, by omega, by omega, rfl⟩, ?_⟩
  rintro n f x rf rx ⟨rfl, b1, b2, b3⟩
  have sb := cellsB (n := w * h) (x := x) (f := fun d => iB (FrC w h sh mine d)) ⟨b1, by omega⟩ hle (fun c _ _ => iB_b _)
  refine ⟨fun z => ?_, fun z => ?_⟩
  · have ex : x = w * h := by omega
    subst ex
    rw [b3]
    exact hp
  have fin : ∀ v : Int, v = iB (FrC w h sh mine x) → inR v → (inR (f + v) ∧ (∀ x2_16 : Int, x2_16 = (f + v) → (inR (x + 1) ∧ (∀ x3_18 : Int, x3_18 = (x + 1) → (∃ n_19 : Nat, n_19 < (w * h - x).toNat ∧ (n_19 = (w * h - x3_18).toNat ∧ 0 ≤ x3_18 ∧ x3_18 ≤ w * h ∧ x2_16 = sumL (cellsL x3_18) (fun d => iB (FrC w h sh mine d)))))))) := by
    intro v ev _
    have vb := iB_b (FrC w h sh mine x)
    refine ⟨by omega, fun f2 ef => nx (by omega) ⟨_, ?_, rfl, by omega, by omega, ?_⟩⟩
    · omega
    · rw [cells_succ b1, sumL_snoc, ef, b3, ev]
  refine ⟨by omega, fun v ev hv => exJi (exJ0 ⟨fun z1 => fin 0 (iB_f (fun k => by have := k.1; omega)).symm, fun z1 => s_isKept ok g (fun u hu iu _ => ⟨fun z2 => fin 0 (iB_f (fun k => ?_)).symm, fun z2 => fin 1 (iB_t ⟨by omega, fun k => ?_, fun k => ?_⟩).symm⟩)⟩)⟩
  · rcases iu.1 (hu.resolve_left z2) with q | q
    · exact k.2.1 q
    · exact k.2.2 q
  · have := iu.2 (Or.inl k); omega
  · have := iu.2 (Or.inr k); omega
theorem s_layM {w h sh many seed : Int} {near degree mine : Int → Int} {post : (Int → Int) → Prop} (ok : okB w h sh) (g : GeoM w h sh near degree) (hz : ∀ c, 0 ≤ c → c < w * h → mine c = 0) (hm : 1 ≤ many ∧ many ≤ CF w h sh mine)
    (hp : ∀ mine' : Int → Int, (∀ c, 0 ≤ c → c < w * h → mine' c = 0 ∨ mine' c = 1) → ScR w h sh many.toNat (andI seed 2147483647) mine mine' → post mine') : P_X12_lay post (w * h) near degree mine (fc w h) many seed := by
  have hle := wh_le ok
  have hge := wh_ge ok
  unfold P_X12_lay
  rintro x0 rfl
  refine ⟨fun n xx y md => n = (many - y).toNat ∧ 0 ≤ y ∧ y ≤ many ∧ many - y ≤ CF w h sh md ∧ (∀ c, 0 ≤ c → c < w * h → md c = 0 ∨ md c = 1) ∧ ∀ mf, ScR w h sh (many - y).toNat xx md mf → ScR w h sh many.toNat (andI seed 2147483647) mine mf, ⟨_, rfl, by omega, by omega, by omega, fun c c0 c1 => Or.inl (hz c c0 c1), fun mf q => by rw [Int.sub_zero] at q; exact q⟩, ?_⟩
  have cb0 := CF.b (m := mine) ok
  rintro n xx y md rxx ry ⟨rfl, c1, c2, c4, c5, c6⟩
  refine ⟨fun z1 => ?_, fun z1 x1 ex1 => ?_⟩
  · have e0 : (many - y).toNat = 0 := by omega
    refine hp md c5 (c6 md ?_)
    rw [e0]
    exact fun _ _ _ => rfl
  · have xnn : 0 ≤ x1 := by rw [ex1]; exact and31_nn
    have xr : x1 < 2147483648 := by rw [ex1]; exact (andI_r _ _).2
    have elcg : x1 = LCG xx := ex1
    have cb2 := CF.b (m := md) ok
    refine s_freeAround ok g c5 (fun _ => ?_)
    have d0 : 0 ≤ x1.tdiv 65536 := Int.tdiv_nonneg xnn (by decide)
    have d1 : x1.tdiv 65536 ≤ x1 := Int.tdiv_le_self 65536 xnn
    have m0 : 0 ≤ (x1.tdiv 65536).tmod (CF w h sh md) := Int.tmod_nonneg _ d0
    have m1 : (x1.tdiv 65536).tmod (CF w h sh md) < CF w h sh md := Int.tmod_lt_of_pos _ (by omega)
    refine ⟨by omega, by omega, by omega, fun k ek => ?_⟩
    rw [← ek] at m0 m1
    obtain ⟨c0, nc⟩ := NthF.ex m0 m1 (by omega)
    have hc0 := nc.1
    have put : ((0 ≤ c0 ∧ c0 < 144) ∧ (∀ M_mine_29 : Int → Int, M_mine_29 = upZ md c0 1 → (inR (y + 1) ∧ (∀ x5_31 : Int, x5_31 = (y + 1) → (∃ n_32 : Nat, n_32 < (many - y).toNat ∧ (n_32 = (many - x5_31).toNat ∧ 0 ≤ x5_31 ∧ x5_31 ≤ many ∧ many - x5_31 ≤ CF w h sh M_mine_29 ∧ (∀ c, 0 ≤ c → c < w * h → M_mine_29 c = 0 ∨ M_mine_29 c = 1) ∧ ∀ mf, ScR w h sh (many - x5_31).toNat x1 M_mine_29 mf → ScR w h sh many.toNat (andI seed 2147483647) mine mf)))))) := by
      refine ⟨by omega, fun md2 e2 => nx (by omega) ⟨_, ?_, rfl, by omega, by omega, ?_, fun c q0 q1 => ?_, fun mf q => c6 mf ?_⟩⟩
      · omega
      · rw [e2, CF.up nc.1 nc.2.1]; omega
      · rw [e2]
        by_cases e : c = c0
        · rw [e, upZ_s]; exact Or.inr rfl
        · rw [upZ_n _ _ e]; exact c5 c q0 q1
      · rw [show (many - y).toNat = (many - (y + 1)).toNat + 1 by omega]
        refine ⟨c0, ?_, ?_⟩
        · rw [← elcg, ← ek]; exact nc
        · rw [← elcg, ← e2]; exact q
    refine ⟨fun n kk at' x => n = (w * h - x).toNat ∧ 0 ≤ x ∧ x ≤ w * h ∧ ((at' = -1 ∧ x ≤ c0 ∧ kk = k - sumL (cellsL x) (fun d => iB (FrC w h sh md d))) ∨ (at' = c0 ∧ x = c0 + 1)), ⟨_, rfl, by omega, by omega, Or.inl ⟨rfl, by omega, by show k = k - 0; omega⟩⟩, ?_⟩
    rintro n kk at' x rkk rat rx ⟨rfl, d1', d2, d3⟩
    have sb := cellsB (n := w * h) (x := x) (f := fun d => iB (FrC w h sh md d)) ⟨d1', by omega⟩ hle (fun c _ _ => iB_b _)
    refine ⟨at' = c0, ⟨fun z2 => by omega, fun z2 => ⟨fun z3 => by omega, fun z3 => ⟨by omega, fun v ev hv => ?_⟩⟩⟩, fun e => by rw [e]; exact put⟩
    obtain ⟨q1, q2, q3⟩ := d3.resolve_right (fun q => by omega)
    have lt : x < c0 → FrC w h sh md x → 0 < kk := by
      intro xy fx
      obtain ⟨r, er⟩ := cells_split (m := x + 1) (n := c0) (by omega) (by omega)
      have e := nc.2.2
      rw [er, sumL_append, cells_succ d1', sumL_snoc, iB_t fx] at e
      have : 0 ≤ sumL r (fun d => iB (FrC w h sh md d)) := sumL_pos (fun d _ => (iB_b _).1)
      omega
    have skip : ¬ FrC w h sh md x → (inR (x + 1) ∧ (∀ x8_42 : Int, x8_42 = (x + 1) → (∃ n_43 : Nat, n_43 < (w * h - x).toNat ∧ (n_43 = (w * h - x8_42).toNat ∧ 0 ≤ x8_42 ∧ x8_42 ≤ w * h ∧ ((at' = -1 ∧ x8_42 ≤ c0 ∧ kk = k - sumL (cellsL x8_42) (fun d => iB (FrC w h sh md d))) ∨ (at' = c0 ∧ x8_42 = c0 + 1)))))) := by
      intro nf
      refine nx (by omega) ⟨_, ?_, rfl, by omega, by omega, Or.inl ⟨q1, ?_, ?_⟩⟩
      · omega
      · by_cases e : x = c0
        · exact absurd (e ▸ nc.2.1) nf
        · omega
      · rw [cells_succ d1', sumL_snoc, iB_f nf, q3]; omega
    have hit : FrC w h sh md x → ∀ kk2 at2 : Int, kk2 = kk + -1 → ((kk = 0 → at2 = x) ∧ (¬ kk = 0 → at2 = at')) → (inR (x + 1) ∧ (∀ x8_42 : Int, x8_42 = (x + 1) → (∃ n_43 : Nat, n_43 < (w * h - x).toNat ∧ (n_43 = (w * h - x8_42).toNat ∧ 0 ≤ x8_42 ∧ x8_42 ≤ w * h ∧ ((at2 = -1 ∧ x8_42 ≤ c0 ∧ kk2 = k - sumL (cellsL x8_42) (fun d => iB (FrC w h sh md d))) ∨ (at2 = c0 ∧ x8_42 = c0 + 1)))))) := by
      intro fx kk2 at2 ek2 ea
      refine nx (by omega) ⟨_, ?_, rfl, by omega, by omega, ?_⟩
      · omega
      · by_cases e : x = c0
        · have : kk = 0 := by
            have := nc.2.2
            rw [← e] at this
            omega
          exact Or.inr ⟨by rw [ea.1 this]; exact e, by omega⟩
        · have := lt (by omega) fx
          refine Or.inl ⟨by rw [ea.2 (by omega)]; exact q1, by omega, ?_⟩
          rw [cells_succ d1', sumL_snoc, iB_t fx]; omega
    refine ⟨fun kk2 at2 => (inR (x + 1) ∧ (∀ x8_42 : Int, x8_42 = (x + 1) → (∃ n_43 : Nat, n_43 < (w * h - x).toNat ∧ (n_43 = (w * h - x8_42).toNat ∧ 0 ≤ x8_42 ∧ x8_42 ≤ w * h ∧ ((at2 = -1 ∧ x8_42 ≤ c0 ∧ kk2 = k - sumL (cellsL x8_42) (fun d => iB (FrC w h sh md d))) ∨ (at2 = c0 ∧ x8_42 = c0 + 1)))))), ⟨fun z4 => skip (fun f => by have := f.1; omega), fun z4 => s_isKept ok g (fun u hu iu _ => ⟨fun z5 => skip (fun f => ?_), fun z5 => ?_⟩)⟩, fun _ _ _ _ jj => jj⟩
    · rcases iu.1 (hu.resolve_left z5) with r | r
      · exact f.2.1 r
      · exact f.2.2 r
    · have fx : FrC w h sh md x := ⟨by omega, fun r => by have := iu.2 (Or.inl r); omega, fun r => by have := iu.2 (Or.inr r); omega⟩
      refine ⟨fun a => (kk = 0 → a = x) ∧ (¬ kk = 0 → a = at'), ⟨fun r => ⟨fun r2 => absurd r2 r, fun _ => rfl⟩, fun r => ⟨fun _ => rfl, fun r2 => absurd r r2⟩⟩, fun a _ ha => ⟨by omega, fun kk2 ek2 => hit fx kk2 a ek2 ha⟩⟩
