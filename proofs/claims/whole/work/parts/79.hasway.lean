/-! the reference: what can be -/
theorem s_fitsInM {w h sh left free : Int} {st R rc : Int → Int} {Ch : Int → Prop} {ls : List (List Int)} {post : Int → Prop} (hr : Rch w h sh st R Ch ls rc) (hlen : ls.flatten.length ≤ 144) (hl : -1000 ≤ left ∧ left ≤ 1000)
    (hp : ∀ v : Int, (v = 0 ∨ v = 1) → (v = 1 ↔ ∃ k, RS w h sh st R Ch ls k ∧ 0 ≤ left - k ∧ left - k ≤ free) → post v) : P_X12_fitsIn post rc left free := by
  unfold P_X12_fitsIn
  refine ⟨fun k v x => k = (145 - x).toNat ∧ 0 ≤ x ∧ x ≤ 145 ∧ (v = 0 ∨ v = 1) ∧ (v = 1 ↔ ∃ k, (0 ≤ k ∧ k < x) ∧ RS w h sh st R Ch ls k ∧ 0 ≤ left - k ∧ left - k ≤ free), ⟨_, rfl, by omega, by omega, Or.inl rfl, ⟨fun y => by omega, fun ⟨k, y, _⟩ => by omega⟩⟩, ?_⟩
  rintro k v x rv rx ⟨rfl, b1, b2, b3, b4⟩
  refine ⟨fun z => ⟨b3, hp v b3 ?_⟩, fun z => ?_⟩
  · rw [b4]
    constructor
    · rintro ⟨k, -, y⟩
      exact ⟨k, y⟩
    · rintro ⟨k, y1, y2⟩
      have := RS_rng y1
      exact ⟨k, ⟨by omega, by omega⟩, y1, y2⟩
  · have fin : ∀ v2 : Int, (v2 = 0 ∨ v2 = 1) → (v2 = 1 ↔ v = 1 ∨ (RS w h sh st R Ch ls x ∧ 0 ≤ left - x ∧ left - x ≤ free)) → (inR (x + 1) ∧ (∀ x4_14 : Int, x4_14 = (x + 1) → (∃ n_15 : Nat, n_15 < (145 - x).toNat ∧ (n_15 = (145 - x4_14).toNat ∧ 0 ≤ x4_14 ∧ x4_14 ≤ 145 ∧ (v2 = 0 ∨ v2 = 1) ∧ (v2 = 1 ↔ ∃ k, (0 ≤ k ∧ k < x4_14) ∧ RS w h sh st R Ch ls k ∧ 0 ≤ left - k ∧ left - k ≤ free))))) := by
      intro v2 h2 i2
      refine nx (by omega) ⟨_, ?_, rfl, by omega, by omega, h2, ?_⟩
      · omega
      · rw [i2, b4]
        constructor
        · rintro (⟨k, y1, y2⟩ | y)
          · exact ⟨k, by omega, y2⟩
          · exact ⟨x, by omega, y⟩
        · rintro ⟨k, y1, y2⟩
          by_cases e : k = x
          · subst e
            exact Or.inr y2
          · exact Or.inl ⟨k, by omega, y2⟩
    have rx1 := hr x b1 (by omega)
    refine exJi (exJ0 ⟨fun z1 _ => fin 1 (Or.inr rfl) ⟨fun _ => Or.inl (by omega), fun _ => rfl⟩, fun z1 => ⟨by omega, fun v1 e1 h1 => exJ0 ⟨fun z2 _ => fin 0 (Or.inl rfl) ⟨fun y => by omega, fun y => ?_⟩, fun z2 => ⟨by omega, s_within (fun y _ => ⟨fun z3 => by omega, fun z3 _ => fin 1 (Or.inr rfl) ⟨fun _ => Or.inr ⟨rx1.2.1 (by omega), y⟩, fun _ => rfl⟩⟩) (fun y _ => ⟨fun z3 _ => fin 0 (Or.inl rfl) ⟨fun y2 => by omega, fun y2 => ?_⟩, fun z3 => by omega⟩)⟩⟩⟩⟩)
    · rcases y with y | y
      · omega
      · have := rx1.2.2 y.1
        omega
    · rcases y2 with y2 | y2
      · omega
      · exact absurd y2.2 y
def MLf (n : Int) (mine M : Int → Int) : Int := sumL (cellsL n) mine - sumL (cellsL n) (fun c => iK 3 (M c))
theorem s_minesLeftM {w h sh : Int} {near degree mine M mined number st : Int → Int} {post : Int → Prop} (E : ME w h sh near degree mine M mined number st) (hp : (-144 ≤ MLf (w * h) mine M ∧ MLf (w * h) mine M ≤ 144) → post (MLf (w * h) mine M)) : P_X12_minesLeft post (w * h) mine M := by
  have hle := wh_le E.1
  have hge := wh_ge E.1
  have hm : ∀ c, 0 ≤ c → c < w * h → mine c = 0 ∨ mine c = 1 := fun c h0 h1 => by
    rw [E.2.2.1 c h0 h1]
    exact E.2.2.2.1 c h0 h1
  have b1 := cellsB (n := w * h) (x := w * h) (f := mine) ⟨by omega, by omega⟩ hle (fun c h0 h1 => by rcases hm c h0 h1 with e | e <;> omega)
  have b2 := cellsB (n := w * h) (x := w * h) (f := fun c => iK 3 (M c)) ⟨by omega, by omega⟩ hle (fun c _ _ => iK_b _ _)
  have hb : -144 ≤ MLf (w * h) mine M ∧ MLf (w * h) mine M ≤ 144 := by
    unfold MLf
    omega
  unfold P_X12_minesLeft
  refine s_minesM ⟨by omega, hle⟩ hm (fun _ => s_manyM ⟨by omega, hle⟩ (fun _ => ⟨?_, hp hb⟩))
  have : inR (MLf (w * h) mine M) := by omega
  exact this
theorem RL_split {n p q : Int} {po : Int → Int} (h0 : 0 ≤ p) (h1 : p < q) : ∃ a b, RLs n q po = a ++ Lp n po p :: b ∧ RLb n q p po = a ++ b := by
  have hm : p.toNat ∈ List.range q.toNat := List.mem_range.2 (by omega)
  obtain ⟨a, b, e⟩ := List.append_of_mem hm
  have nd : (List.range q.toNat).Nodup := List.nodup_range
  rw [e] at nd
  have nd' := List.nodup_append.1 nd
  have nb := List.nodup_cons.1 nd'.2.1
  have ep : ((p.toNat : Nat) : Int) = p := by omega
  refine ⟨a.map (fun i : Nat => Lp n po (i : Int)), b.map (fun i : Nat => Lp n po (i : Int)), ?_, ?_⟩
  · unfold RLs
    rw [e, List.map_append, List.map_cons, ep]
  · unfold RLb
    rw [e, List.filter_append, List.filter_cons, if_neg (by rw [decide_eq_true_eq, ep]; exact fun k => k rfl), List.map_append]
    rw [List.filter_eq_self.2 (fun i mi => ?_), List.filter_eq_self.2 (fun i mi => ?_)]
    · rw [decide_eq_true_eq]
      intro k
      have : i = p.toNat := by omega
      exact nb.1 (this ▸ mi)
    · rw [decide_eq_true_eq]
      intro k
      have : i = p.toNat := by omega
      exact nd'.2.2 i mi p.toNat List.mem_cons_self this
theorem RLb_none {n q but : Int} {po : Int → Int} (h : but < 0) : RLb n q but po = RLs n q po := by
  unfold RLb RLs
  rw [List.filter_eq_self.2 (fun i _ => by rw [decide_eq_true_eq]; omega)]
theorem PLs_len {w h sh : Int} {st : Int → Int} {Ch : Int → Prop} {ls : List (List Int)} (p : PLs w h sh st Ch ls) (h0 : 0 ≤ w * h) : (ls.flatten.length : Int) + (FrL w h sh st Ch).length ≤ w * h := by
  have e := (UL_perm p).length_eq
  rw [List.length_append] at e
  have : (UL w h st).length ≤ (cellsL (w * h)).length := List.Sublist.length_le List.filter_sublist
  have := cells_len h0
  omega
theorem flat_le {r s : List (List Int)} (q : r.Sublist s) : r.flatten.length ≤ s.flatten.length := by
  induction q with
  | slnil => exact Nat.le_refl _
  | cons a _ ih => rw [List.flatten_cons, List.length_append]; omega
  | cons_cons a _ ih => rw [List.flatten_cons, List.flatten_cons, List.length_append, List.length_append]; omega
theorem RLb_len {w h sh q but : Int} {st po : Int → Int} {Ch : Int → Prop} (p : PLs w h sh st Ch (RLs (w * h) q po)) (h0 : 0 ≤ w * h) : ((RLb (w * h) q but po).flatten.length : Int) ≤ w * h := by
  have h1 := PLs_len p h0
  have h2 : (RLb (w * h) q but po).flatten.length ≤ (RLs (w * h) q po).flatten.length := by
    unfold RLb RLs
    exact flat_le (List.Sublist.map _ List.filter_sublist)
  omega
theorem s_hasWayM {w h sh fits q c b all : Int} {near degree mine M mined number st po pl sz ways wth rc : Int → Int} {Ch : Int → Prop} {post : Int → Prop} (E : ME w h sh near degree mine M mined number st) (cok : ChOk w h sh st Ch)
    (cm : CM w h sh st (fun n => sumL (NB w h sh n) (fun d => iU (st d) * mined d)) Ch fits q po pl sz ways wth) (hf : fits = 1) (hc : 0 ≤ c ∧ c < w * h) (hu : st c ≤ 1) (hb : b = 0 ∨ b = 1) (hr : ¬ all = 0 → Rch w h sh st (fun n => sumL (NB w h sh n) (fun d => iU (st d) * mined d)) Ch (RLb (w * h) q (po c) po) rc)
    (hp : ∀ v : Int, (v = 0 ∨ v = 1) → (v = 1 ↔ Pos w h sh st (fun n => sumL (NB w h sh n) (fun d => iU (st d) * mined d)) Ch (MLf (w * h) mine M) all c b) → post v) : P_X12_hasWay post (w * h) mine M po pl sz ways wth rc c b all := by
  have hle := wh_le E.1
  have hge := wh_ge E.1
  have hb' : 0 ≤ b ∧ b ≤ 1 := by omega
  obtain ⟨dv, cp⟩ := cm
  have hq := dv.2.1
  have pls := dv.pls cok
  have hpl := PLs_len pls (by omega)
  have rl : ∀ but, ((RLb (w * h) q but po).flatten.length : Int) ≤ w * h := fun but => RLb_len pls (by omega)
  have rm : RM w h sh st (fun n => sumL (NB w h sh n) (fun d => iU (st d) * mined d)) mined Ch := ⟨E.2.2.2.1, fun n _ => rfl⟩
  generalize eR : (fun n => sumL (NB w h sh n) (fun d => iU (st d) * mined d)) = R at *
  unfold P_X12_hasWay
  refine ⟨by omega, fun p ep rp => s_minesLeftM E (fun hl _ => ⟨fun z => ?_, fun z => ?_⟩)⟩
  · have bd : Bd w h sh st Ch c := by
      by_cases k : Bd w h sh st Ch c
      · exact k
      · have := (dv.2.2.1 c hc.1 hc.2).2 k
        omega
    have hpq := (dv.2.2.1 c hc.1 hc.2).1 bd
    rw [← ep] at hpq
    have px := dv.pl hf hpq
    have mL : c ∈ Lp (w * h) po p := mem_Lp.2 ⟨hc, ep.symm⟩
    have pc := px.1 c hc.1 hc.2 ep.symm
    obtain ⟨a, b', e1, e2⟩ := RL_split (n := w * h) (po := po) hpq.1 hpq.2
    have pin := Pos_in (left := MLf (w * h) mine M) (all := all) (v := b) cok rm (e1 ▸ pls) mL
    have cpp := cp hf p hpq.1 hpq.2
    have some_ : ∀ m, 0 ≤ m → m ≤ 16 → (b = 1 → (0 < wth (272 * p + 17 * pl c + m) ↔ mSc w h sh st R Ch (Lp (w * h) po p) c b m)) ∧ (b = 0 → (0 < ways (17 * p + m) - wth (272 * p + 17 * pl c + m) ↔ mSc w h sh st R Ch (Lp (w * h) po p) c b m)) := by
      intro m m0 m1
      rw [(cpp m m0 m1).1, (cpp m m0 m1).2 c mL]
      exact ⟨fun e => by rw [e]; exact Ww_pos, fun e => by rw [e]; exact TW_pos⟩
    have bds : ∀ m, 0 ≤ m → m ≤ 16 → (0 ≤ ways (17 * p + m) ∧ ways (17 * p + m) ≤ 65536) ∧ (0 ≤ wth (272 * p + 17 * pl c + m) ∧ wth (272 * p + 17 * pl c + m) ≤ 65536) := by
      intro m m0 m1
      rw [(cpp m m0 m1).1, (cpp m m0 m1).2 c mL]
      have t1 := Tw_bd (w := w) (h := h) (sh := sh) (st := st) (R := R) (Ch := Ch) (L := Lp (w * h) po p) (m := m)
      have t2 := Ww_bd (w := w) (h := h) (sh := sh) (st := st) (R := R) (Ch := Ch) (L := Lp (w * h) po p) (c := c) (m := m)
      have t3 : pw2 (Lp (w * h) po p).length ≤ 65536 := pw2_le (m := 16) (by omega)
      omega
    refine ⟨fun k v x => k = (17 - x).toNat ∧ 0 ≤ x ∧ x ≤ sz p + 1 ∧ (v = 0 ∨ v = 1) ∧ (v = 1 ↔ ∃ m, (0 ≤ m ∧ m < x) ∧ mSc w h sh st R Ch (Lp (w * h) po p) c b m ∧ (¬ all = 0 → ∃ k, RS w h sh st R Ch (a ++ b') k ∧ 0 ≤ MLf (w * h) mine M - m - k ∧ MLf (w * h) mine M - m - k ≤ (FrL w h sh st Ch).length)), ⟨_, rfl, by omega, by omega, Or.inl rfl, ⟨fun y => by omega, fun ⟨m, y, _⟩ => by omega⟩⟩, ?_⟩
    rintro k v x rv rx ⟨rfl, b1, b2, b3, b4⟩
    refine ⟨by omega, fun n en rn => ⟨fun z1 => ⟨b3, hp v b3 ?_⟩, fun z1 => ⟨by omega, fun pc' epc rpc => ⟨by omega, fun vw evw rvw => ?_⟩⟩⟩⟩
    · rw [b4, pin]
      constructor
      · rintro ⟨m, -, y⟩
        exact ⟨m, y⟩
      · rintro ⟨m, y1, y2⟩
        obtain ⟨t, bt, ts, et, ec⟩ := y1
        have := sum_le_len (l := Lp (w * h) po p) (t := t) (fun c => (bt c).1)
        exact ⟨m, ⟨by omega, by omega⟩, ⟨t, bt, ts, et, ec⟩, y2⟩
    · have x16 : x ≤ 16 := by omega
      subst epc
      have so := some_ x b1 x16
      have bb := bds x b1 x16
      have fin : ∀ v2 : Int, (v2 = 0 ∨ v2 = 1) → (v2 = 1 ↔ v = 1 ∨ (mSc w h sh st R Ch (Lp (w * h) po p) c b x ∧ (¬ all = 0 → ∃ k, RS w h sh st R Ch (a ++ b') k ∧ 0 ≤ MLf (w * h) mine M - x - k ∧ MLf (w * h) mine M - x - k ≤ (FrL w h sh st Ch).length))) → (inR (x + 1) ∧ (∀ x7_27 : Int, x7_27 = (x + 1) → (∃ n_28 : Nat, n_28 < (17 - x).toNat ∧ (n_28 = (17 - x7_27).toNat ∧ 0 ≤ x7_27 ∧ x7_27 ≤ sz p + 1 ∧ (v2 = 0 ∨ v2 = 1) ∧ (v2 = 1 ↔ ∃ m, (0 ≤ m ∧ m < x7_27) ∧ mSc w h sh st R Ch (Lp (w * h) po p) c b m ∧ (¬ all = 0 → ∃ k, RS w h sh st R Ch (a ++ b') k ∧ 0 ≤ MLf (w * h) mine M - m - k ∧ MLf (w * h) mine M - m - k ≤ (FrL w h sh st Ch).length)))))) := by
        intro v2 h2 i2
        refine nx (by omega) ⟨_, ?_, rfl, by omega, by omega, h2, ?_⟩
        · omega
        · rw [i2, b4]
          constructor
          · rintro (⟨m, y1, y2⟩ | y)
            · exact ⟨m, by omega, y2⟩
            · exact ⟨x, by omega, y⟩
          · rintro ⟨m, y1, y2⟩
            by_cases e : m = x
            · subst e
              exact Or.inr y2
            · exact Or.inl ⟨m, by omega, y2⟩
      have body : ∀ zz : Int, (¬ zz ≤ 0 ↔ mSc w h sh st R Ch (Lp (w * h) po p) c b x) → (∃ J_23 : (Int) → Prop, (∃ J_29 : Prop, ((¬ v = 0 → (J_29)) ∧ (v = 0 → (∃ J_32 : Prop, ((zz ≤ 0 → (J_32)) ∧ (¬ zz ≤ 0 → ((all = 0 → (J_29)) ∧ (¬ all = 0 → (P_X12_freeCells (fun (c_36 : Int) => inR c_36 → (inR (MLf (w * h) mine M - x) ∧ (P_X12_fitsIn (fun (c_38 : Int) => (c_38 = 0 ∨ c_38 = 1) → ((c_38 = 0 → (J_32)) ∧ (¬ c_38 = 0 → (J_29)))) rc (MLf (w * h) mine M - x) c_36))) (w * h) M po ))))) ∧ (J_32 → (J_23 0))))) ∧ (J_29 → (J_23 1))) ∧ (∀ (z_25 : Int), inR z_25 → J_23 z_25 → (inR (x + 1) ∧ (∀ x7_27 : Int, x7_27 = (x + 1) → (∃ n_28 : Nat, n_28 < (17 - x).toNat ∧ (n_28 = (17 - x7_27).toNat ∧ 0 ≤ x7_27 ∧ x7_27 ≤ sz p + 1 ∧ (z_25 = 0 ∨ z_25 = 1) ∧ (z_25 = 1 ↔ ∃ m, (0 ≤ m ∧ m < x7_27) ∧ mSc w h sh st R Ch (Lp (w * h) po p) c b m ∧ (¬ all = 0 → ∃ k, RS w h sh st R Ch (a ++ b') k ∧ 0 ≤ MLf (w * h) mine M - m - k ∧ MLf (w * h) mine M - m - k ≤ (FrL w h sh st Ch).length)))))))) := by
        intro zz hz
        refine exJi (exJ0 ⟨fun z2 _ => fin 1 (Or.inr rfl) ⟨fun _ => Or.inl (by omega), fun _ => rfl⟩, fun z2 => exJ0 ⟨fun z3 _ => fin 0 (Or.inl rfl) ⟨fun y => by omega, fun y => ?_⟩, fun z3 => ⟨fun z4 _ => fin 1 (Or.inr rfl) ⟨fun _ => Or.inr ⟨hz.1 z3, fun y => absurd z4 y⟩, fun _ => rfl⟩, fun z4 => s_freeM E dv (fun _ => ⟨by omega, ?_⟩)⟩⟩⟩)
        · rcases y with y | y
          · omega
          · exact absurd z3 (hz.2 y.1)
        · have hr' := hr z4
          rw [← ep, e2] at hr'
          have rl' := rl p
          rw [e2] at rl'
          have k1 : (a ++ b').flatten.length ≤ 144 := by omega
          have k2 : -1000 ≤ MLf (w * h) mine M - x ∧ MLf (w * h) mine M - x ≤ 1000 := by omega
          refine s_fitsInM hr' k1 k2 (fun v5 h5 i5 _ => ⟨fun z5 _ => fin 0 (Or.inl rfl) ⟨fun y => absurd y (by decide), fun y => ?_⟩, fun z5 _ => fin 1 (Or.inr rfl) ⟨fun _ => Or.inr ⟨hz.1 z3, fun _ => i5.1 (h5.resolve_left z5)⟩, fun _ => rfl⟩⟩)
          rcases y with y | y
          · rw [z2] at y
            exact y
          · have := i5.2 (y.2 z4)
            rw [z5] at this
            exact this
      refine exJi ⟨fun z2 => ⟨by omega, fun v6 e6 r6 => ⟨by omega, fun _ => body _ ?_⟩⟩, fun z2 _ => body _ ?_⟩
      · have := so.2 z2
        rw [← evw, ← e6] at this
        rw [← this]
        omega
      · have := so.1 (hb.resolve_left z2)
        rw [← evw] at this
        rw [← this]
        omega
  · have nb : ¬ Bd w h sh st Ch c := fun k => by
      have := (dv.2.2.1 c hc.1 hc.2).1 k
      omega
    have mF : c ∈ FrL w h sh st Ch := mem_Fr.2 ⟨hc, hu, nb⟩
    have pf := Pos_free (left := MLf (w * h) mine M) (all := all) (v := b) cok rm pls mF hb
    have fin : ∀ v : Int, (v = 0 ∨ v = 1) → (v = 1 ↔ (¬ all = 0 → ∃ k, RS w h sh st R Ch (RLs (w * h) q po) k ∧ 0 ≤ MLf (w * h) mine M - b - k ∧ MLf (w * h) mine M - b - k ≤ (FrL w h sh st Ch).length - 1)) → (v = 0 ∨ v = 1) ∧ post v := fun v h1 h2 => ⟨h1, hp v h1 (by rw [h2, pf])⟩
    have go : ¬ all = 0 → ∀ zz : Int, zz = MLf (w * h) mine M - b → P_X12_freeCells (fun (c_54 : Int) => inR c_54 → (inR (c_54 - 1) ∧ (P_X12_fitsIn (fun (c_56 : Int) => (c_56 = 0 ∨ c_56 = 1) → ((c_56 = 0 → (inR 0 → ((0 : Int) = 0 ∨ (0 : Int) = 1) ∧ post 0)) ∧ (¬ c_56 = 0 → (inR 1 → ((1 : Int) = 0 ∨ (1 : Int) = 1) ∧ post 1)))) rc zz (c_54 - 1)))) (w * h) M po := by
      intro na zz ez
      refine s_freeM E dv (fun _ => ⟨by omega, ?_⟩)
      have hr' := hr na
      rw [← ep, RLb_none (by omega)] at hr'
      have k1 : (RLs (w * h) q po).flatten.length ≤ 144 := by omega
      have k2 : -1000 ≤ zz ∧ zz ≤ 1000 := by omega
      refine s_fitsInM hr' k1 k2 (fun v5 h5 i5 _ => ⟨fun z5 _ => fin 0 (Or.inl rfl) ⟨fun y => absurd y (by decide), fun y => ?_⟩, fun z5 _ => fin 1 (Or.inr rfl) ⟨fun _ _ => ?_, fun _ => rfl⟩⟩)
      · have y2 := y na
        rw [← ez] at y2
        have := i5.2 y2
        rw [z5] at this
        exact this
      · have := i5.1 (h5.resolve_left z5)
        rw [ez] at this
        exact this
    refine exJi (exJ0 ⟨fun z1 _ => fin 1 (Or.inr rfl) ⟨fun _ y => absurd z1 y, fun _ => rfl⟩, fun z1 => exJi ⟨fun z2 _ => go z1 _ (by rw [z2]; omega), fun z2 => ⟨by omega, fun _ => go z1 _ (by rw [hb.resolve_left z2])⟩⟩⟩)
