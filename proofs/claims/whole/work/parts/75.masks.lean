/-! the reference: a part's cells in their order, and the masks of its numbers -/
def Lp (n : Int) (po : Int → Int) (p : Int) : List Int := (cellsL n).filter (fun e => decide (po e = p))
theorem mem_Lp {n p c : Int} {po : Int → Int} : c ∈ Lp n po p ↔ (0 ≤ c ∧ c < n) ∧ po c = p := by
  unfold Lp
  rw [List.mem_filter, mem_cells, decide_eq_true_eq]
theorem Lp_nd {n p : Int} {po : Int → Int} : (Lp n po p).Nodup := cells_nd.sublist List.filter_sublist
theorem filter_len {l : List Int} {po : Int → Int} {p : Int} : ((l.filter (fun e => decide (po e = p))).length : Int) = sumL l (fun e => iK p (po e)) := by
  induction l with
  | nil => rfl
  | cons a l ih =>
    rw [sumL_cons, ← ih, List.filter_cons]
    by_cases k : po a = p
    · rw [if_pos (decide_eq_true k), show iK p (po a) = 1 from if_pos k, List.length_cons]
      omega
    · rw [if_neg (by simpa using k), show iK p (po a) = 0 from if_neg k]
      omega
theorem Lp_len {n p : Int} {po : Int → Int} : ((Lp n po p).length : Int) = sumL (cellsL n) (fun e => iK p (po e)) := filter_len
theorem Lp_get {n p c : Int} {po : Int → Int} (hc : 0 ≤ c ∧ c < n) (hp : po c = p) : (Lp n po p)[(sumL (cellsL c) (fun e => iK p (po e))).toNat]? = some c := by
  obtain ⟨r, er⟩ := cells_split (m := c + 1) (n := n) (by omega) (by omega)
  unfold Lp
  rw [er, cells_succ hc.1, List.filter_append, List.filter_append]
  have e1 : (sumL (cellsL c) (fun e => iK p (po e))).toNat = ((cellsL c).filter (fun e => decide (po e = p))).length := by
    rw [← filter_len]
    rfl
  rw [e1, List.append_assoc, List.getElem?_append_right (Nat.le_refl _), Nat.sub_self]
  rw [List.filter_cons, if_pos (decide_eq_true hp)]
  rfl
def MkO (w h sh : Int) (st po pl : Int → Int) (p n z : Int) : Prop := sm z ∧ z < 65536 ∧ ∀ i, 0 ≤ i → (tb z i ↔ ∃ d ∈ NB w h sh n, st d ≤ 1 ∧ po d = p ∧ pl d = i)
def Tch (w h sh : Int) (st po : Int → Int) (p n : Int) : Prop := ∃ d ∈ NB w h sh n, st d ≤ 1 ∧ po d = p
def GM (w h sh : Int) (st po pl R : Int → Int) (Ch : Int → Prop) (p x N : Int) (ms rs : Int → Int) : Prop :=
  (0 ≤ N ∧ N ≤ x) ∧ (∀ k, 0 ≤ k → k < N → ∃ n, Ch n ∧ Tch w h sh st po p n ∧ MkO w h sh st po pl p n (ms k) ∧ rs k = R n) ∧ (∀ n, n < x → Ch n → Tch w h sh st po p n → ∃ k, 0 ≤ k ∧ k < N ∧ MkO w h sh st po pl p n (ms k) ∧ rs k = R n)
theorem GM.add {w h sh p x N z : Int} {st po pl R ms rs us : Int → Int} {Ch : Int → Prop} (g : GM w h sh st po pl R Ch p x N ms rs) (hc : Ch x) (ht : Tch w h sh st po p x) (mk : MkO w h sh st po pl p x z) : GM w h sh st po pl R Ch p (x + 1) (N + 1) (upZ ms N z) (upZ rs N (R x)) := by
  obtain ⟨⟨a1, a2⟩, b, c⟩ := g
  refine ⟨⟨by omega, by omega⟩, fun k k0 k1 => ?_, fun n hn h1 h2 => ?_⟩
  · by_cases e : k = N
    · subst e
      rw [upZ_s, upZ_s]
      exact ⟨x, hc, ht, mk, rfl⟩
    · rw [upZ_n _ _ e, upZ_n _ _ e]
      exact b k k0 (by omega)
  · by_cases e : n = x
    · subst e
      exact ⟨N, a1, by omega, by rw [upZ_s]; exact mk, by rw [upZ_s]⟩
    · obtain ⟨k, k0, k1, k2, k3⟩ := c n (by omega) h1 h2
      exact ⟨k, k0, by omega, by rw [upZ_n _ _ (show k ≠ N by omega)]; exact k2, by rw [upZ_n _ _ (show k ≠ N by omega)]; exact k3⟩
theorem GM.skip {w h sh p x N : Int} {st po pl R ms rs : Int → Int} {Ch : Int → Prop} (g : GM w h sh st po pl R Ch p x N ms rs) (hn : ¬ (Ch x ∧ Tch w h sh st po p x)) : GM w h sh st po pl R Ch p (x + 1) N ms rs := by
  obtain ⟨⟨a1, a2⟩, b, c⟩ := g
  refine ⟨⟨a1, by omega⟩, b, fun n h0 h1 h2 => ?_⟩
  by_cases e : n = x
  · subst e
    exact absurd ⟨h1, h2⟩ hn
  · exact c n (by omega) h1 h2
theorem s_gatherM {w h sh p N0 : Int} {near degree mine M mined number st us po pl ms0 rs0 : Int → Int} {Ch : Int → Prop} {post : Int → (Int → Int) → (Int → Int) → Prop} (E : ME w h sh near degree mine M mined number st) (uk : UsOk w h sh st us Ch) (cok : ChOk w h sh st Ch) (hpl : ∀ d, 0 ≤ d → d < w * h → st d ≤ 1 → po d = p → 0 ≤ pl d ∧ pl d ≤ 15)
    (hp : ∀ (N : Int) (ms rs : Int → Int), GM w h sh st po pl (fun n => sumL (NB w h sh n) (fun d => iU (st d) * mined d)) Ch p (w * h) N ms rs → post N ms rs) : P_X12_gather post (w * h) N0 near degree mine M us po pl ms0 rs0 p := by
  have ok := E.1
  have g := E.2.1
  have hle := wh_le ok
  have hge := wh_ge ok
  unfold P_X12_gather
  refine ⟨fun k x N ms rs => k = (w * h - x).toNat ∧ 0 ≤ x ∧ x ≤ w * h ∧ GM w h sh st po pl (fun n => sumL (NB w h sh n) (fun d => iU (st d) * mined d)) Ch p x N ms rs, ⟨_, rfl, by omega, by omega, ⟨by omega, by omega⟩, fun k _ _ => by omega, ?_⟩, ?_⟩
  · intro n hn hc _
    have := (cok n hc).1
    omega
  rintro k x N ms rs rx ⟨rfl, b1, b2, b3⟩
  refine ⟨fun q => ?_, fun q => ?_⟩
  · have : x = w * h := by omega
    subst this
    exact hp N ms rs b3
  · have hx : 0 ≤ x ∧ x < w * h := ⟨b1, by omega⟩
    have hl := NB_len ok hx
    have ge := (g x hx.1 hx.2).1
    obtain ⟨u01, u2, u3⟩ := uk x hx.1 hx.2
    refine ⟨fun k z y => k = (degree x - y).toNat ∧ 0 ≤ y ∧ y ≤ degree x ∧ (us x = 1 ∨ y = 0) ∧ sm z ∧ ∀ i, 0 ≤ i → (tb z i ↔ ∃ d ∈ (NB w h sh x).take y.toNat, st d ≤ 1 ∧ po d = p ∧ pl d = i), ⟨_, rfl, by omega, by omega, Or.inr rfl, sm_zero, fun i _ => ⟨fun y => absurd y tb_zero, fun y => by simp at y⟩⟩, ?_⟩
    rintro k z y rz ry ⟨rfl, c1, c2, c3, c4, c5⟩
    have fin : (us x = 1 → y = degree x) → ∃ J_23 : (Int) → (Int → Int) → (Int → Int) → Prop, ((z ≤ 0 → (J_23 N ms rs)) ∧ (¬ z ≤ 0 → ((0 ≤ N ∧ N < 144) ∧ (∀ M_masks_34 : Int → Int, M_masks_34 = upZ ms N z → (P_X12_restOf (fun (c_36 : Int) => inR c_36 → ((0 ≤ N ∧ N < 144) ∧ (∀ M_rests_38 : Int → Int, M_rests_38 = upZ rs N c_36 → (inR (N + 1) ∧ (∀ M_numbers_41 : Int, M_numbers_41 = (N + 1) → (J_23 M_numbers_41 M_masks_34 M_rests_38)))))) near degree mine M x))))) ∧ (∀ (M_numbers_25 : Int) (M_masks_26 : Int → Int) (M_rests_27 : Int → Int), J_23 M_numbers_25 M_masks_26 M_rests_27 → (inR (x + 1) ∧ (∀ x2_29 : Int, x2_29 = (x + 1) → (∃ n_30 : Nat, n_30 < (w * h - x).toNat ∧ (n_30 = (w * h - x2_29).toNat ∧ 0 ≤ x2_29 ∧ x2_29 ≤ w * h ∧ GM w h sh st po pl (fun n => sumL (NB w h sh n) (fun d => iU (st d) * mined d)) Ch p x2_29 M_numbers_25 M_masks_26 M_rests_27))))) := by
      intro hfin
      have key : ¬ z ≤ 0 ↔ (Ch x ∧ Tch w h sh st po p x) := by
        have e0 : (¬ z ≤ 0) ↔ ¬ z = 0 := by have := c4.1; omega
        rw [e0, tb_ne c4]
        constructor
        · rintro ⟨i, i0, hi⟩
          obtain ⟨d, md, ud, pd, -⟩ := (c5 i i0).1 hi
          have md' := List.mem_of_mem_take md
          have u1 : us x = 1 := by
            rcases c3 with e | e
            · exact e
            · rw [e] at md
              simp at md
          exact ⟨u3.2 ⟨u1, d, md', ud⟩, d, md', ud, pd⟩
        · rintro ⟨hc, d, md, ud, pd⟩
          have u1 := (u3.1 hc).1
          refine ⟨pl d, (hpl d (mem_NB.1 md).1.1 (mem_NB.1 md).1.2 ud pd).1, (c5 _ (hpl d (mem_NB.1 md).1.1 (mem_NB.1 md).1.2 ud pd).1).2 ⟨d, ?_, ud, pd, rfl⟩⟩
          rw [hfin u1, rowM_end g hx (Int.le_refl _)]
          exact md
      refine ⟨fun N' ms' rs' => GM w h sh st po pl (fun n => sumL (NB w h sh n) (fun d => iU (st d) * mined d)) Ch p (x + 1) N' ms' rs', ⟨fun zz => b3.skip (fun y => key.2 y zz), fun zz => ?_⟩, fun N' ms' rs' gg => nx (by omega) ⟨_, ?_, rfl, by omega, by omega, gg⟩⟩
      · have kk := key.1 zz
        have := b3.1
        have full : MkO w h sh st po pl p x z := by
          have u1 := (u3.1 kk.1).1
          have c5' := c5
          rw [hfin u1, rowM_end g hx (Int.le_refl _)] at c5'
          refine ⟨c4, tb_bd (k := 16) c4 (fun i i0 hi => ?_), c5'⟩
          obtain ⟨d, md, ud, pd, ed⟩ := (c5' i i0).1 hi
          have := hpl d (mem_NB.1 md).1.1 (mem_NB.1 md).1.2 ud pd
          omega
        refine ⟨by omega, fun ms' em => s_restOfM E hx (fun _ => ⟨by omega, fun rs' er => ⟨by omega, fun N' eN => ?_⟩⟩)⟩
        rw [em, er, eN]
        exact b3.add (us := us) kk.1 kk.2 full
      · omega
    refine ⟨by omega, fun v ev rv => ⟨_, ⟨fun q1 => ?_, fun q1 => ?_⟩, fun jj => jj⟩⟩
    · exact fin (fun _ => by omega)
    · refine ⟨by omega, fun v4 e4 h4 => ⟨fun z4 => fin (fun u => by omega), fun z4 => ?_⟩⟩
      have u1 : us x = 1 := by omega
      obtain ⟨m, t⟩ := rowM_at g hx c1 (by omega)
      have mc := nb_cell m
      have e1 : (y + 1).toNat = y.toNat + 1 := by omega
      refine ⟨by omega, fun v2 ev2 rv2 => ?_⟩
      subst ev2
      refine s_unkM E mc (fun u hu iu _ => exJi ⟨fun z5 _ => nx (by omega) ⟨_, ?_, rfl, by omega, by omega, Or.inl u1, c4, ?_⟩, fun z5 => ⟨by omega, fun v6 e6 r6 => ⟨fun z6 _ => nx (by omega) ⟨_, ?_, rfl, by omega, by omega, Or.inl u1, c4, ?_⟩, fun z6 => ⟨by omega, fun v7 e7 r7 => fun z' ez' _ => nx (by omega) ⟨_, ?_, rfl, by omega, by omega, Or.inl u1, ?_⟩⟩⟩⟩⟩)
      · omega
      · intro i i0
        rw [e1, t, c5 i i0]
        have nu : ¬ st (near (8 * x + y)) ≤ 1 := fun y2 => by have := iu.mpr y2; omega
        constructor
        · rintro ⟨d, md, r⟩
          exact ⟨d, List.mem_append_left _ md, r⟩
        · rintro ⟨d, md, r1, r2⟩
          rcases List.mem_append.mp md with md | md
          · exact ⟨d, md, r1, r2⟩
          · rw [List.mem_singleton.mp md] at r1; exact absurd r1 nu
      · omega
      · intro i i0
        rw [e1, t, c5 i i0]
        constructor
        · rintro ⟨d, md, r⟩
          exact ⟨d, List.mem_append_left _ md, r⟩
        · rintro ⟨d, md, r1, r2, r3⟩
          rcases List.mem_append.mp md with md | md
          · exact ⟨d, md, r1, r2, r3⟩
          · rw [List.mem_singleton.mp md] at r2; omega
      · omega
      · have ux := iu.mp (by omega)
        have hb := hpl _ mc.1 mc.2 ux (by omega)
        have hs := shl_sm (k := v7) (by omega) (by omega)
        rw [ez']
        refine ⟨or_sm c4 hs.1, fun i i0 => ?_⟩
        rw [tb_or c4 hs.1, tb_shl (by omega) (by omega) i0, e1, t, c5 i i0]
        constructor
        · rintro (⟨d, md, r⟩ | r)
          · exact ⟨d, List.mem_append_left _ md, r⟩
          · exact ⟨_, List.mem_append_right _ (List.mem_singleton.mpr rfl), ux, by omega, by omega⟩
        · rintro ⟨d, md, r1, r2, r3⟩
          rcases List.mem_append.mp md with md | md
          · exact Or.inl ⟨d, md, r1, r2, r3⟩
          · rw [List.mem_singleton.mp md] at r3; exact Or.inr (by omega)
