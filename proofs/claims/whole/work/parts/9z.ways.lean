/-! the reference: all placements counted -/
def URl (w h sh : Int) (st R : Int → Int) (Ch : Int → Prop) (ls : List (List Int)) (left : Int) (n : Nat) (c U : Int) : Prop :=
  (Bd w h sh st Ch c → U = SU (NWe w h sh st R Ch ls (fun t => t c)) left n) ∧ (¬ Bd w h sh st Ch c → ∃ m : Nat, n = m + 1 ∧ U = SU (NWe w h sh st R Ch ls (fun _ => 1)) (left - 1) m)
theorem NW_fn {w h sh : Int} {st R : Int → Int} {Ch : Int → Prop} {ls ms : List (List Int)} {e : (Int → Int) → Int} (cok : ChOk w h sh st Ch) (p : PLs w h sh st Ch ls) (q : PLs w h sh st Ch ms) : NWe w h sh st R Ch ls e = NWe w h sh st R Ch ms e := funext (fun _ => NWe_perm cok p q)
theorem s_countAllM {w h sh q0 N0 : Int} {near degree mine M mined number st us0 po0 pl0 sz0 ms0 rs0 bt ways0 wth0 : Int → Int} {g : Int → Int64} {ls : List (List Int)} {post : Int → (Int) → (Int) → (Int → Int) → (Int → Int) → (Int → Int) → (Int → Int) → (Int → Int) → (Int → Int) → (Int → Int) → (Int → Int) → (Int → Int64) → Prop} (E : ME w h sh near degree mine M mined number st) (bt_ok : BT bt) (hp0 : ∀ q N us po pl sz ways wth ms rs, ¬ Fit w h sh st (AllCh w h sh st) → post 0 q N us po pl sz ways wth ms rs g)
    (hp1 : ∀ q N us po pl sz ways wth ms rs g', Fit w h sh st (AllCh w h sh st) → CM w h sh st (Rn w h sh st mined) (AllCh w h sh st) 1 q po pl sz ways wth → (PLs w h sh st (AllCh w h sh st) ls → Tab g' 0 (NWe w h sh st (Rn w h sh st mined) (AllCh w h sh st) ls (fun _ => 1)) ∧ NW6 (rw6 g' 435) (SU (NWe w h sh st (Rn w h sh st mined) (AllCh w h sh st) ls (fun _ => 1)) (MLf (w * h) mine M) (FrL w h sh st (AllCh w h sh st)).length)) → post 1 q N us po pl sz ways wth ms rs g') : P_X12_countAll post (w * h) q0 N0 near degree mine M us0 po0 pl0 sz0 ways0 wth0 ms0 rs0 bt g := by
  have ok := E.1
  have hle := wh_le ok
  have hge := wh_ge ok
  have cok : ChOk w h sh st (AllCh w h sh st) := AllCh.ok
  unfold P_X12_countAll
  refine s_useAllM E (fun us uk _ => ?_)
  refine s_countPartsM E uk cok bt_ok (fun fits q N po pl sz ways wth ms rs cm => ?_)
  intro _
  have dv := cm.1
  have f01 := dv.1
  have fit := dv.fit
  refine ⟨fun z => ?_, fun z => ?_⟩
  · have f1 : fits = 1 := f01.resolve_left z
    subst f1
    have pls := dv.pls cok
    have len := PLs_len pls (by omega)
    refine s_multPartsM hle (by omega) cok cm rfl (Or.inl rfl) (fun g1 _ t1 => ?_)
    have e1 : wgt po (-1) q = fun _ => 1 := funext (fun t => by unfold wgt; rw [if_neg (by omega)])
    rw [e1] at t1
    refine s_minesLeftM E (fun lb => ?_)
    intro _
    refine s_freeM E dv ?_
    intro _
    have n144 : (FrL w h sh st (AllCh w h sh st)).length ≤ 144 := by omega
    have bo : ∀ k, 0 ≤ NWe w h sh st (Rn w h sh st mined) (AllCh w h sh st) (RLs (w * h) q po) (fun _ => 1) k ∧ NWe w h sh st (Rn w h sh st mined) (AllCh w h sh st) (RLs (w * h) q po) (fun _ => 1) k ≤ pw2 (RLs (w * h) q po).flatten.length := fun k => NWe_bd o01
    refine s_sumUpM (by omega) (by omega) n144 t1 bo (Int.le_of_lt (pw2_pos _)) (by rw [← pw2_add]; exact pw2_le (by omega)) (fun g2 t2 _ h2 => ?_)
    refine hp1 _ _ _ _ _ _ _ _ _ _ _ (fit.1 rfl) cm (fun pl0 => ?_)
    rw [NW_fn cok pl0 pls]
    exact ⟨t2, h2⟩
  · exact hp0 _ _ _ _ _ _ _ _ _ _ (fun k => by have := fit.2 k; rw [z] at this; exact absurd this (by decide))
theorem s_hasShareM {w h sh q0 N0 c : Int} {near degree mine M mined number st us0 po0 pl0 sz0 ms0 rs0 bt ways0 wth0 : Int → Int} {g : Int → Int64} {ls : List (List Int)} {post : Int → (Int) → (Int) → (Int → Int) → (Int → Int) → (Int → Int) → (Int → Int) → (Int → Int) → (Int → Int) → (Int → Int) → (Int → Int) → (Int → Int64) → Prop} (E : ME w h sh near degree mine M mined number st) (bt_ok : BT bt) (hc : 0 ≤ c ∧ c < w * h)
    (hpl : st c ≤ 1 → Fit w h sh st (AllCh w h sh st) → PLs w h sh st (AllCh w h sh st) ls)
    (hp0 : ∀ q N us po pl sz ways wth ms rs g', ¬ (st c ≤ 1 ∧ Fit w h sh st (AllCh w h sh st) ∧ ¬ SU (NWe w h sh st (Rn w h sh st mined) (AllCh w h sh st) ls (fun _ => 1)) (MLf (w * h) mine M) (FrL w h sh st (AllCh w h sh st)).length = 0) → post 0 q N us po pl sz ways wth ms rs g')
    (hp1 : ∀ q N us po pl sz ways wth ms rs g' U, st c ≤ 1 → Fit w h sh st (AllCh w h sh st) → ¬ SU (NWe w h sh st (Rn w h sh st mined) (AllCh w h sh st) ls (fun _ => 1)) (MLf (w * h) mine M) (FrL w h sh st (AllCh w h sh st)).length = 0 → NW6 (rw6 g' 440) (SU (NWe w h sh st (Rn w h sh st mined) (AllCh w h sh st) ls (fun _ => 1)) (MLf (w * h) mine M) (FrL w h sh st (AllCh w h sh st)).length) → NW6 (rw6 g' 436) U → URl w h sh st (Rn w h sh st mined) (AllCh w h sh st) ls (MLf (w * h) mine M) (FrL w h sh st (AllCh w h sh st)).length c U → post 1 q N us po pl sz ways wth ms rs g') : P_X12_hasShare post (w * h) q0 N0 near degree mine M us0 po0 pl0 sz0 ways0 wth0 ms0 rs0 bt g c := by
  have ok := E.1
  have hle := wh_le ok
  have hge := wh_ge ok
  have cok : ChOk w h sh st (AllCh w h sh st) := AllCh.ok
  unfold P_X12_hasShare
  refine s_unkM E hc (fun u u01 iu => ?_)
  intro _
  refine ⟨fun z => hp0 _ _ _ _ _ _ _ _ _ _ _ (fun k => by have := iu.2 k.1; rw [z] at this; exact absurd this (by decide)), fun z => ?_⟩
  have hu := iu.1 (u01.resolve_left z)
  clear iu
  refine s_countAllM (ls := ls) E bt_ok (fun q N us po pl sz ways wth ms rs nf => ?_) (fun q N us po pl sz ways wth ms rs g1 fit cm tabs => ?_)
  · intro _
    exact ⟨fun _ => hp0 _ _ _ _ _ _ _ _ _ _ _ (fun k => nf k.2.1), fun k => absurd rfl k⟩
  intro _
  refine ⟨fun k => absurd k (by decide), fun _ => ?_⟩
  have plx := hpl hu fit
  obtain ⟨t1, h1⟩ := tabs plx
  have dv := cm.1
  have pls := dv.pls cok
  have len := PLs_len pls (by omega)
  have n144 : (FrL w h sh st (AllCh w h sh st)).length ≤ 144 := by omega
  refine s_isNothing (by omega) h1 (fun v v01 iv => ?_)
  intro _
  refine ⟨fun k => ?_, fun k => hp0 _ _ _ _ _ _ _ _ _ _ _ (fun k2 => k2.2.2 (iv.1 (v01.resolve_left k)))⟩
  have nz : ¬ SU (NWe w h sh st (Rn w h sh st mined) (AllCh w h sh st) ls (fun _ => 1)) (MLf (w * h) mine M) (FrL w h sh st (AllCh w h sh st)).length = 0 := fun r => by have := iv.2 r; rw [k] at this; exact absurd this (by decide)
  clear iv
  refine s_copyM (by omega) (by omega) (by omega) h1 (fun g2 f2 h2 => ?_)
  have t2 : Tab g2 0 (NWe w h sh st (Rn w h sh st mined) (AllCh w h sh st) ls (fun _ => 1)) := fun k k0 k1 => f2.row (by omega) (t1 k k0 k1)
  refine ⟨by omega, fun v1 e1 _ => ?_⟩
  subst e1
  have lenq := NWe_len plx pls
  have pw : pw2 ls.flatten.length * pw2 (FrL w h sh st (AllCh w h sh st)).length ≤ pw2 144 := by rw [← pw2_add]; exact pw2_le (by omega)
  have pos := dv.2.2.1 c hc.1 hc.2
  refine ⟨fun r => ?_, fun r => ?_⟩
  · have nb : ¬ Bd w h sh st (AllCh w h sh st) c := fun b => by have := pos.1 b; omega
    refine s_minesLeftM E (fun lb => ?_)
    intro _
    refine s_freeM E dv ?_
    intro _
    have mem : c ∈ FrL w h sh st (AllCh w h sh st) := mem_Fr.2 ⟨hc, hu, nb⟩
    have ne : 0 < (FrL w h sh st (AllCh w h sh st)).length := List.length_pos_of_mem mem
    obtain ⟨m, em⟩ : ∃ m, (FrL w h sh st (AllCh w h sh st)).length = m + 1 := ⟨(FrL w h sh st (AllCh w h sh st)).length - 1, by omega⟩
    refine ⟨by omega, by omega, ?_⟩
    rw [show ((FrL w h sh st (AllCh w h sh st)).length : Int) - 1 = (m : Int) by omega]
    refine s_sumUpM (X := pw2 ls.flatten.length) (by omega) (by omega) (by omega) t2 (fun k => NWe_bd o01) (Int.le_of_lt (pw2_pos _)) ?_ (fun g3 _ f3 h3 => hp1 _ _ _ _ _ _ _ _ _ _ _ _ hu fit nz (f3 _ _ (by omega) (by omega) h2) h3 ⟨fun b => absurd b nb, fun _ => ⟨m, em, rfl⟩⟩)
    rw [← pw2_add]
    exact pw2_le (by omega)
  · have hb : Bd w h sh st (AllCh w h sh st) c := by
      apply Classical.byContradiction
      intro b
      have := pos.2 b
      omega
    have pc := pos.1 hb
    refine s_multPartsM hle (by omega) cok cm rfl (Or.inr ⟨hc, pc.1⟩) (fun g3 f3 t3 => ?_)
    have e1 : wgt po c q = fun t => t c := funext (fun t => by unfold wgt; rw [if_pos (by omega)])
    rw [e1, NW_fn cok pls plx] at t3
    refine s_minesLeftM E (fun lb => ?_)
    intro _
    refine s_freeM E dv ?_
    intro _
    exact s_sumUpM (X := pw2 ls.flatten.length) (by omega) (by omega) n144 t3 (fun k => NWe_bd c01) (Int.le_of_lt (pw2_pos _)) pw (fun g4 _ f4 h4 => hp1 _ _ _ _ _ _ _ _ _ _ _ _ hu fit nz (f4 _ _ (by omega) (by omega) (f3 _ _ (by omega) h2)) h4 ⟨fun _ => rfl, fun b => absurd hb b⟩)
/-- the class's fraction is the reference's, times a number -/
theorem WG.frac {w h sh left c M A U : Int} {n : Nat} {st R : Int → Int} {Ch : Int → Prop} {ls : List (List Int)} (hl : ls.flatten.length + n ≤ 144) (g : WG w h sh st R Ch ls left n c M A) (hc : ¬ c = -1) (u : URl w h sh st R Ch ls left n c U) : ∃ k : Int, 1 ≤ k ∧ k ≤ 144 ∧ M = U * k ∧ A = SU (NWe w h sh st R Ch ls (fun _ => 1)) left n * k ∧ 0 ≤ U ∧ U ≤ SU (NWe w h sh st R Ch ls (fun _ => 1)) left n ∧ SU (NWe w h sh st R Ch ls (fun _ => 1)) left n ≤ pw2 144 := by
  have bo : ∀ k, 0 ≤ NWe w h sh st R Ch ls (fun _ => 1) k ∧ NWe w h sh st R Ch ls (fun _ => 1) k ≤ pw2 ls.flatten.length := fun k => NWe_bd o01
  have bc : ∀ k, 0 ≤ NWe w h sh st R Ch ls (fun t => t c) k ∧ NWe w h sh st R Ch ls (fun t => t c) k ≤ pw2 ls.flatten.length := fun k => NWe_bd c01
  have top : SU (NWe w h sh st R Ch ls (fun _ => 1)) left n ≤ pw2 144 := by
    have := SU_le (left := left) (n := n) bo (Int.le_of_lt (pw2_pos _))
    rw [← pw2_add] at this
    have := pw2_le (n := ls.flatten.length + n) (m := 144) hl
    omega
  by_cases b : Bd w h sh st Ch c
  · have g1 := g.2.1 b
    have u1 := u.1 b
    refine ⟨1, by omega, by omega, by rw [g1.1, u1, Int.mul_one], by rw [g1.2, Int.mul_one], ?_, ?_, top⟩
    · rw [u1]; exact SU_nn (fun k => (bc k).1)
    · rw [u1]; exact SU_mono (fun k => NWe_le (fun t ht => (c01 t ht).2))
  · obtain ⟨m, em, g1, g2⟩ := g.2.2 hc b
    obtain ⟨m', em', u1⟩ := u.2 b
    have : m' = m := by omega
    subst this
    refine ⟨(m' : Int) + 1, by omega, by omega, by rw [g1, u1, Int.mul_comm], g2, ?_, ?_, top⟩
    · rw [u1]; exact SU_nn (fun k => (bo k).1)
    · rw [u1, em]; exact SU_side (fun k => (bo k).1)
theorem gz_frac {U D k : Int} (hU : 0 ≤ U) (hD : 0 < D) (hk : 1 ≤ k) : U * k / gz (U * k) (D * k) = U / gz U D ∧ D * k / gz (U * k) (D * k) = D / gz U D := by
  rw [gz_mul hU (by omega) (by omega)]
  have gp : 0 < gz U D := by rw [gz_comm]; exact gz_pos hD
  exact ⟨Int.mul_ediv_mul_of_pos_left _ _ (by omega), Int.mul_ediv_mul_of_pos_left _ _ (by omega)⟩
