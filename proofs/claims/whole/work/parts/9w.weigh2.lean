theorem s_weigh {w h sh P lg mines c N0 ag0 tk0 xl xh yl yh : Int} {near nearEnd mined ci st number hit un ch po rs uk ps cs mset sset pS ta as go0 gz0 links0 le0 pk0 gm0 gs0 : Int → Int} {qm qa qc qt xb xs yb ys : Int → Int64} {Ch : Int → Prop}
    {post : (Int) → (Int) → (Int) → (Int) → (Int) → (Int) → (Int) → (Int → Int) → (Int → Int) → (Int → Int) → (Int → Int) → (Int → Int) → (Int → Int) → (Int → Int) → (Int → Int) → (Int → Int) → (Int → Int) → (Int → Int) → (Int → Int) → (Int → Int) → (Int → Int) → (Int → Int64) → (Int → Int64) → (Int → Int64) → (Int → Int64) → (Int → Int64) → (Int → Int64) → (Int → Int64) → (Int → Int64) → Prop}
    (D : DE w h sh near nearEnd mined number st ci un hit mines) (cok : ChOk w h sh st Ch) (hch : ∀ c, 0 ≤ c → c < w * h → (ch c = 0 ∨ ch c = 1) ∧ (ch c = 1 ↔ Ch c)) (b : BS w h sh st number hit un Ch P lg po rs uk ps cs) (hlg : lg ≤ 16) (hc : c = -1 ∨ ((0 ≤ c ∧ c < w * h) ∧ st c ≤ 1))
    (hp : ∀ (N ag tk xl' xh' yl' yh' : Int) (mset' sset' pS' ta' as' go gz links le pk gm gs : Int → Int) (qm' qa' qc' qt' xb' xs' yb' ys' : Int → Int64) (M A : Int), NW6 qm' M → NW6 qa' A → WG w h sh st (Rn w h sh st mined) Ch (CLs P ps cs) (mines - ci 3) (FrL w h sh st Ch).length c M A → post N ag tk xl' xh' yl' yh' rs uk mset' sset' pS' ta' as' go gz links le pk gm gs qm' qa' qc' qt' xb' xs' yb' ys') :
    P_X5_weigh post mines P N0 ag0 tk0 xl xh yl yh ci near nearEnd ch po rs uk ps cs mset sset pS ta as go0 gz0 links0 le0 pk0 gm0 gs0 qm qa qc qt xb xs yb ys c := by
  have ok := D.1
  have geo := D.2.1
  have ru := b.ru D cok
  have f := b.facts ok cok
  have pl := b.pls ok cok
  have wh : 0 ≤ w * h ∧ w * h ≤ 144 := ⟨Int.mul_nonneg (by omega) (by omega), wh_le ok⟩
  have len := PLs_len pl wh.1
  have p144 := pw144
  have p6 : pw2 144 < PB 6 := by have := pw2_pos 144; omega
  -- facts of partial lists
  have sub : ∀ x but, x ≤ P → (Lb (CL ps cs) x but).flatten.Sublist (CLs P ps cs).flatten := fun x but hx => fl_sub (Lb_sub hx)
  have cl : ∀ x but, x ≤ P → ∀ M ∈ Lb (CL ps cs) x but, Cl w h sh st Ch M := fun x but hx M hM => pl.2.1 M ((Lb_sub hx).mem hM)
  have bdd : ∀ (ls : List (List Int)) (e : (Int → Int) → Int), (∀ t, (∀ c, t c = 0 ∨ t c = 1) → 0 ≤ e t ∧ e t ≤ 1) → ls.flatten.length ≤ (CLs P ps cs).flatten.length → ∀ k, 0 ≤ NWe w h sh st (Rn w h sh st mined) Ch ls e k ∧ NWe w h sh st (Rn w h sh st mined) Ch ls e k ≤ pw2 (CLs P ps cs).flatten.length := by
    intro ls e he hl k
    have := NWe_bd (w := w) (h := h) (sh := sh) (st := st) (R := Rn w h sh st mined) (Ch := Ch) (ls := ls) (k := k) he
    have := pw2_le hl
    omega
  have Xn : pw2 (CLs P ps cs).flatten.length * pw2 (FrL w h sh st Ch).length ≤ pw2 144 := by
    rw [← pw2_add]
    exact pw2_le (by omega)
  have X0 := pw2_pos (CLs P ps cs).flatten.length
  have X144 : pw2 (CLs P ps cs).flatten.length ≤ pw2 144 := pw2_le (by omega)
  have n144 : (FrL w h sh st Ch).length ≤ 144 := by omega
  have gT : ∀ p (e : (Int → Int) → Int), 0 ≤ p → p < P → (∀ t, (∀ c, t c = 0 ∨ t c = 1) → 0 ≤ e t ∧ e t ≤ 1) → ∀ m, 0 ≤ Te w h sh st (Rn w h sh st mined) Ch (CL ps cs p) e m ∧ Te w h sh st (Rn w h sh st mined) Ch (CL ps cs p) e m ≤ 65536 := by
    intro p e p0 p1 he m
    have ln := (b.nd ok cok ⟨p0, p1⟩).2.2
    have lo := b.2.2.2.1.2.1 p p0 p1
    have a1 : asum (CL ps cs p) (fun t => iB (SatL w h sh st (Rn w h sh st mined) Ch (CL ps cs p) t ∧ sumL (CL ps cs p) t = m) * e t) ≤ pw2 (CL ps cs p).length := (asum_bd (fun t bt => by
      have := he t (fun c => (bt c).1)
      rcases (show iB (SatL w h sh st (Rn w h sh st mined) Ch (CL ps cs p) t ∧ sumL (CL ps cs p) t = m) = 0 ∨ iB (SatL w h sh st (Rn w h sh st mined) Ch (CL ps cs p) t ∧ sumL (CL ps cs p) t = m) = 1 by unfold iB; split <;> simp) with q | q
      · rw [q]; omega
      · rw [q]; omega)).2
    have a0 : 0 ≤ asum (CL ps cs p) (fun t => iB (SatL w h sh st (Rn w h sh st mined) Ch (CL ps cs p) t ∧ sumL (CL ps cs p) t = m) * e t) := asum_nn (fun t bt => Int.mul_nonneg (by unfold iB; split <;> omega) (he t (fun c => (bt c).1)).1)
    have : pw2 (CL ps cs p).length ≤ pw2 16 := pw2_le (by omega)
    have e16 : pw2 16 = 65536 := rfl
    exact ⟨a0, by unfold Te; omega⟩
  unfold P_X5_weigh
  refine s_fill52 (fun qm1 hqm1 => s_fill53 (fun qa1 hqa1 => ?_))
  have zm := NW6.zero hqm1
  have za := NW6.zero hqa1
  refine ⟨fun z => (c = -1 ∧ z = -1) ∨ (¬ c = -1 ∧ z = po c), ⟨fun y => ⟨by omega, fun v ev _ => Or.inr ⟨y, ev⟩⟩, fun y => Or.inl ⟨y, rfl⟩⟩, fun part _ hpart => ?_⟩
  have hpo : (part = -1 ∧ (c = -1 ∨ (¬ c = -1 ∧ ¬ Bd w h sh st Ch c))) ∨ ((0 ≤ part ∧ part < P) ∧ Bd w h sh st Ch c ∧ c ∈ CL ps cs part) := by
    rcases hpart with ⟨h1, h2⟩ | ⟨h1, h2⟩
    · exact Or.inl ⟨h2, Or.inl h1⟩
    · have hc' := hc.resolve_left h1
      by_cases q : Bd w h sh st Ch c
      · have := f.2.2.1 c q
        rw [h2]
        exact Or.inr ⟨this.1, q, this.2⟩
      · have := f.2.2.2.2 c hc'.1.1 hc'.1.2 hc'.2 q
        exact Or.inl ⟨by rw [h2]; exact this, Or.inr ⟨h1, q⟩⟩
  clear hpart
  refine s_beginX (fun xb1 xs1 ser1 => ?_)
  refine ⟨fun n x N ag tk lo hi rs' uk' mset' sset' pS' ta' as' go gz links le pk gm gs xb' xs' => n = (P - x).toNat ∧ 0 ≤ x ∧ x ≤ P ∧ rs' = rs ∧ uk' = uk ∧ SerOK xb' lo hi (NWe w h sh st (Rn w h sh st mined) Ch (Lb (CL ps cs) x part) (fun _ => 1)) ∧ hi ≤ (Lb (CL ps cs) x part).flatten.length, ⟨_, rfl, by omega, by omega, rfl, rfl, ?_, ?_⟩, ?_⟩
  · have : NWe w h sh st (Rn w h sh st mined) Ch (Lb (CL ps cs) 0 part) (fun _ => 1) = fun k => if k = 0 then 1 else 0 := funext (fun k => NWe_nil)
    rw [this]
    exact ser1
  · show (0 : Int) ≤ ((0 : Nat) : Int)
    omega
  rintro n x N ag tk lo hi rs' uk' mset' sset' pS' ta' as' go gz links le pk gm gs xb' xs' rx ⟨rfl, b1, b2, rfl, rfl, b3, b4⟩
  have slen := (sub x part b2).length_le
  refine ⟨fun z => ⟨fun y => ?_, fun y => ?_⟩, fun z => ?_⟩
  · -- a border cell
    have ex : x = P := by omega
    subst ex
    obtain ⟨hpp, hbd, hcl⟩ : (0 ≤ part ∧ part < x) ∧ Bd w h sh st Ch c ∧ c ∈ CL ps cs part := by
      rcases hpo with q | q
      · exact absurd q.1 y
      · exact q
    have fp := f.2.1 part hpp.1 hpp.2
    have lnp := (b.nd ok cok hpp).2.2
    have lop := b.2.2.2.1.2.1 part hpp.1 hpp.2
    obtain ⟨a', b', e1, e2⟩ := Lb_split (f := CL ps cs) hpp.1 hpp.2
    have pl0 : PLs w h sh st Ch ((List.range x.toNat).map (fun i : Nat => CL ps cs (i : Int))) := pl
    have pl1 := pl0
    rw [e1] at pl1
    have pl2 := PLs_mid pl1
    rw [← e2] at pl2
    have len2 := NWe_len pl2 pl0
    have fl2 : (Lb (CL ps cs) x part ++ [CL ps cs part]).flatten.length = (Lb (CL ps cs) x part).flatten.length + (CL ps cs part).length := by rw [List.flatten_append, List.length_append]; simp
    have flC : (CLs x ps cs).flatten.length = ((List.range x.toNat).map (fun i : Nat => CL ps cs (i : Int))).flatten.length := rfl
    have key : ∀ (e : (Int → Int) → Int), Dep (CL ps cs part) e → ∀ k, cvF (NWe w h sh st (Rn w h sh st mined) Ch (Lb (CL ps cs) x part) (fun _ => 1)) (Te w h sh st (Rn w h sh st mined) Ch (CL ps cs part) e) (ps (part + 1) - ps part) k = NWe w h sh st (Rn w h sh st mined) Ch (CLs x ps cs) e k := by
      intro e de k
      rw [← lnp, NWe_one_snoc pl2.1 pl2.2.1 de, NWe_perm cok pl2 pl0]
      rfl
    have d1 : Dep (CL ps cs part) (fun _ => (1 : Int)) := fun _ _ _ => rfl
    have keyc := key (fun t => t c) (Dep_c hcl)
    have key1 := key (fun _ => 1) d1
    have bc := bdd (CLs x ps cs) (fun t => t c) c01 (Nat.le_refl _)
    have bo := bdd (CLs x ps cs) (fun _ => 1) o01 (Nat.le_refl _)
    refine s_take ok geo cok hch b ru hlg hpp (Or.inr hcl) (fun N2 ag2 mset2 sset2 pS2 ta2 as2 go2 gz2 links2 le2 pk2 gm2 gs2 sv _ _ _ hw => ?_)
    have hw2 := hw.resolve_left (fun e => by have := hbd.1; omega)
    refine s_copyY b3 (fun yb1 hy1 => ?_)
    refine s_sizeOf (by omega) (by omega) ?_
    intro _
    refine s_multiplyY (g := Te w h sh st (Rn w h sh st mined) Ch (CL ps cs part) (fun t => t c)) hy1 (fun k => (bdd _ _ o01 slen k).1) (gT part _ hpp.1 hpp.2 c01) (fun m m0 m1 => ?_) (by omega) (by omega) (by omega) (fun k => ?_) (fun ylo yhi yb2 ys2 hy2 yh2 => ?_)
    · rw [Int.zero_add, hw2 m m0 m1]; rfl
    · rw [keyc]; have := bc k; omega
    refine s_tallyStart (by omega) (by omega) ?_
    intro _
    refine s_sizeOf (by omega) (by omega) ?_
    intro _
    refine s_multiplyX (g := Te w h sh st (Rn w h sh st mined) Ch (CL ps cs part) (fun _ => 1)) b3 (fun k => (bdd _ _ o01 slen k).1) (gT part _ hpp.1 hpp.2 o01) (fun m m0 m1 => ?_) (by omega) (by omega) (by omega) (fun k => ?_) (fun xlo xhi xb2 xs2 hx2 xh2 => ?_)
    · rw [sv.1 m m0 m1, Te_one]
    · rw [key1]; have := bo k; omega
    rw [funext keyc] at hy2
    rw [funext key1] at hx2
    refine s_addPlacY (wt := fun _ => 1) D cok b n144 hy2 bc (by omega) Xn zm (Or.inl ⟨rfl, fun _ => rfl⟩) (fun qm2 qc2 qt2 hm2 => ?_)
    refine s_addPlac (wt := fun _ => 1) D cok b n144 hx2 bo (by omega) Xn za (Or.inl ⟨rfl, fun _ => rfl⟩) (fun qa2 qc3 qt3 ha2 => ?_)
    rw [SUw_one] at hm2 ha2
    exact hp _ _ _ _ _ _ _ _ _ _ _ _ _ _ _ _ _ _ _ _ _ _ _ _ _ _ _ _ _ hm2 ha2 ⟨fun _ => rfl, fun _ => ⟨rfl, rfl⟩, fun _ q => absurd hbd q⟩
  · have ex : x = P := by omega
    subst ex
    have hcf : c = -1 ∨ (¬ c = -1 ∧ ¬ Bd w h sh st Ch c) := by
      rcases hpo with q | q
      · exact q.2
      · omega
    rw [Lb_none (by omega)] at b3
    have bo := bdd (CLs x ps cs) (fun _ => 1) o01 (Nat.le_refl _)
    refine ⟨fun u => (u = 0 ∧ c = -1) ∨ (u = 1 ∧ ¬ c = -1), ⟨fun q => Or.inl ⟨rfl, q⟩, fun q => Or.inr ⟨rfl, q⟩⟩, fun u _ hu => ⟨by omega, ?_⟩⟩
    refine s_weighFree D cok b n144 b3 bo (by omega) Xn zm za (fun qm2 qa2 qc2 qt2 M A hM hA h0 h1 => hp _ _ _ _ _ _ _ _ _ _ _ _ _ _ _ _ _ _ _ _ _ _ _ _ _ _ _ M A hM hA ?_)
    refine ⟨fun q => h0 (by omega), fun q => ?_, fun q1 q2 => ?_⟩
    · rcases hcf with r | r
      · have := q.1; omega
      · exact absurd q r.2
    · have hu1 := h1 (by omega)
      have hc' := hc.resolve_left q1
      have mem : c ∈ FrL w h sh st Ch := mem_Fr.2 ⟨hc'.1, hc'.2, q2⟩
      have ne : 0 < (FrL w h sh st Ch).length := List.length_pos_of_mem mem
      obtain ⟨m, em⟩ : ∃ m, (FrL w h sh st Ch).length = m + 1 := ⟨(FrL w h sh st Ch).length - 1, by omega⟩
      rw [em] at hu1 ⊢
      refine ⟨m, rfl, ?_, ?_⟩
      · rw [hu1.1, SUw_off]; rfl
      · rw [hu1.2]; rfl
  · -- one part more
    refine ⟨fun N2 ag2 tk2 lo2 hi2 rs2 uk2 mset2 sset2 pS2 ta2 as2 go2 gz2 links2 le2 pk2 gm2 gs2 xb2 xs2 => rs2 = rs' ∧ uk2 = uk' ∧ SerOK xb2 lo2 hi2 (NWe w h sh st (Rn w h sh st mined) Ch (Lb (CL ps cs) (x + 1) part) (fun _ => 1)) ∧ hi2 ≤ (Lb (CL ps cs) (x + 1) part).flatten.length, ⟨fun q => ?_, fun q => ?_⟩, ?_⟩
    · rw [Lb_succ b1, if_pos q]
      exact ⟨rfl, rfl, b3, b4⟩
    · have hx : 0 ≤ x ∧ x < P := ⟨b1, by omega⟩
      have fp := f.2.1 x hx.1 hx.2
      have lnp := (b.nd ok cok hx).2.2
      have lop := b.2.2.2.1.2.1 x hx.1 hx.2
      have eLb : Lb (CL ps cs) (x + 1) part = Lb (CL ps cs) x part ++ [CL ps cs x] := by rw [Lb_succ b1, if_neg q]
      have sub1 := sub (x + 1) part (by omega)
      have cl1 := cl (x + 1) part (by omega)
      have sl1 := sub1.length_le
      have fl2 : (Lb (CL ps cs) x part ++ [CL ps cs x]).flatten.length = (Lb (CL ps cs) x part).flatten.length + (CL ps cs x).length := by rw [List.flatten_append, List.length_append]; simp
      have bo := bdd (Lb (CL ps cs) (x + 1) part) (fun _ => 1) o01 sl1
      rw [eLb] at sub1 cl1 sl1 bo
      have key1 : ∀ k, cvF (NWe w h sh st (Rn w h sh st mined) Ch (Lb (CL ps cs) x part) (fun _ => 1)) (Te w h sh st (Rn w h sh st mined) Ch (CL ps cs x) (fun _ => 1)) (ps (x + 1) - ps x) k = NWe w h sh st (Rn w h sh st mined) Ch (Lb (CL ps cs) x part ++ [CL ps cs x]) (fun _ => 1) k := by
        intro k
        rw [← lnp, NWe_one_snoc (sub1.nodup pl.1) cl1 (fun _ _ _ => rfl)]
      refine s_take ok geo cok hch b ru hlg hx (Or.inl rfl) (fun N2 ag2 mset2 sset2 pS2 ta2 as2 go2 gz2 links2 le2 pk2 gm2 gs2 sv _ _ _ _ => ?_)
      refine s_tallyStart (by omega) (by omega) ?_
      intro _
      refine s_sizeOf (by omega) (by omega) ?_
      intro _
      refine s_multiplyX (g := Te w h sh st (Rn w h sh st mined) Ch (CL ps cs x) (fun _ => 1)) b3 (fun k => (bdd _ _ o01 slen k).1) (gT x _ hx.1 hx.2 o01) (fun m m0 m1 => ?_) (by omega) (by omega) (by omega) (fun k => ?_) (fun xlo xhi xb2 xs2 hx2 xh2 => ?_)
      · rw [sv.1 m m0 m1, Te_one]
      · rw [key1]; have := bo k; omega
      rw [funext key1] at hx2
      rw [eLb]
      exact ⟨rfl, rfl, hx2, by omega⟩
    · rintro N2 ag2 tk2 lo2 hi2 rs2 uk2 mset2 sset2 pS2 ta2 as2 go2 gz2 links2 le2 pk2 gm2 gs2 xb2 xs2 ⟨rfl, rfl, q1, q2⟩
      exact nx (by omega) ⟨_, by omega, rfl, by omega, by omega, rfl, rfl, q1, q2⟩
