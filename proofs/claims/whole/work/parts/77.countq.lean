/-! the reference's table of ways, part by part -/
def CPt (w h sh : Int) (st R : Int → Int) (Ch : Int → Prop) (L : List Int) (p : Int) (pl ways wth : Int → Int) : Prop := ∀ m, 0 ≤ m → m ≤ 16 → ways (17 * p + m) = Tw w h sh st R Ch L m ∧ ∀ c ∈ L, wth (272 * p + 17 * pl c + m) = Ww w h sh st R Ch L c m
theorem s_countPartM {w h sh p N0 : Int} {near degree mine M mined number st us po pl sz ms0 rs0 bt ways0 wth0 : Int → Int} {Ch : Int → Prop} {post : Int → (Int → Int) → (Int → Int) → (Int → Int) → (Int → Int) → Prop} (E : ME w h sh near degree mine M mined number st) (uk : UsOk w h sh st us Ch) (cok : ChOk w h sh st Ch) (bt_ok : BT bt) (po_ok : PlOk (w * h) st po pl p) (hp0 : 0 ≤ p ∧ p < 72) (hz : sz p = (Lp (w * h) po p).length) (hz16 : sz p ≤ 16)
    (hp : ∀ (N : Int) (ways wth ms rs : Int → Int), CPt w h sh st (fun n => sumL (NB w h sh n) (fun d => iU (st d) * mined d)) Ch (Lp (w * h) po p) p pl ways wth → (∀ j, j < 17 * p ∨ 17 * p + 17 ≤ j → ways j = ways0 j) → (∀ j, j < 272 * p ∨ 272 * p + 272 ≤ j → wth j = wth0 j) → post N ways wth ms rs) : P_X12_countPart post (w * h) N0 near degree mine M us po pl sz ways0 wth0 ms0 rs0 bt p := by
  have hle := wh_le E.1
  unfold P_X12_countPart
  refine s_gatherM E uk cok (fun d h0 h1 _ h3 => (po_ok d h0 h1 h3).2.2) (fun N ms rs gm => ⟨by omega, fun n en rn => ?_⟩)
  have hn : 0 ≤ n ∧ n ≤ 16 := by omega
  generalize eL : Lp (w * h) po p = L at *
  generalize eR : (fun n => sumL (NB w h sh n) (fun d => iU (st d) * mined d)) = R at *
  have nd : L.Nodup := by rw [← eL]; exact Lp_nd
  have hlen : (L.length : Int) = n := by omega
  have h2 : shlI 1 n = pw2 L.length := by
    have := shlI_one L.length (by omega)
    rw [hlen] at this
    rw [this, pw2_nat]
  have hp16 : pw2 L.length ≤ 65536 := pw2_le (m := 16) (by omega)
  have hpp := pw2_pos L.length
  -- the ways start at nothing
  refine ⟨fun k x wy => k = (17 - x).toNat ∧ 0 ≤ x ∧ x ≤ 17 ∧ (∀ m, 0 ≤ m → m < x → wy (17 * p + m) = 0) ∧ (∀ j, j < 17 * p ∨ 17 * p + 17 ≤ j → wy j = ways0 j), ⟨_, rfl, by omega, by omega, fun m _ _ => by omega, fun _ _ => rfl⟩, ?_⟩
  rintro k x wy rx ⟨rfl, b1, b2, b3, b4⟩
  refine ⟨fun q => ?_, fun q => ⟨by omega, fun wy' ew => nx (by omega) ⟨_, ?_, rfl, by omega, by omega, ?_, ?_⟩⟩⟩
  rotate_left
  · omega
  · intro m m0 m1
    rw [ew]
    by_cases e : m = x
    · rw [e, upZ_s]
    · rw [upZ_n _ _ (by omega)]
      exact b3 m m0 (by omega)
  · intro j hj
    rw [ew, upZ_n _ _ (by omega)]
    exact b4 j hj
  have w0 : ∀ m, 0 ≤ m → m ≤ 16 → wy (17 * p + m) = 0 := fun m m0 m1 => b3 m m0 (by omega)
  clear b3
  refine ⟨fun k y wt => k = (17 * n - y).toNat ∧ 0 ≤ y ∧ y ≤ 17 * n ∧ (∀ m, 0 ≤ m → m < y → wt (272 * p + m) = 0) ∧ (∀ j, j < 272 * p ∨ 272 * p + 272 ≤ j → wt j = wth0 j), ⟨_, rfl, by omega, by omega, fun m _ _ => by omega, fun _ _ => rfl⟩, ?_⟩
  rintro k y wt ry ⟨rfl, c1, c2, c3, c4⟩
  refine ⟨by omega, fun q3 => ?_, fun q3 => ⟨by omega, fun wt' ew => nx (by omega) ⟨_, ?_, rfl, by omega, by omega, ?_, ?_⟩⟩⟩
  rotate_left
  · omega
  · intro m m0 m1
    rw [ew]
    by_cases e : m = y
    · rw [e, upZ_s]
    · rw [upZ_n _ _ (by omega)]
      exact c3 m m0 (by omega)
  · intro j hj
    rw [ew, upZ_n _ _ (by omega)]
    exact c4 j hj
  have t0 : ∀ i m, 0 ≤ i → i < n → 0 ≤ m → m ≤ 16 → wt (272 * p + 17 * i + m) = 0 := by
    intro i m i0 i1 m0 m1
    rw [Int.add_assoc]
    exact c3 _ (by omega) (by omega)
  clear c3
  have bdA : ∀ {x : Int} {f : Int → Int}, 0 ≤ x → x ≤ 65536 → (∀ c, 0 ≤ f c ∧ f c ≤ 1) → 0 ≤ sumL (cellsL x) f ∧ sumL (cellsL x) f ≤ 65536 := by
    intro x f x0 x1 hf
    have := sumL_bound (f := f) (l := cellsL x) (fun c _ => hf c)
    have := cells_len x0
    omega
  refine ⟨fun k s wy wt => k = (pw2 L.length - s).toNat ∧ 0 ≤ s ∧ s ≤ pw2 L.length ∧ (∀ m, 0 ≤ m → m ≤ 16 → wy (17 * p + m) = sumL (cellsL s) (fun z => iB (SatL w h sh st R Ch L (dec L z) ∧ bt z = m))) ∧ (∀ i m, 0 ≤ i → i < n → 0 ≤ m → m ≤ 16 → wt (272 * p + 17 * i + m) = sumL (cellsL s) (fun z => iB ((SatL w h sh st R Ch L (dec L z) ∧ bt z = m) ∧ tb z i))) ∧ (∀ j, j < 17 * p ∨ 17 * p + 17 ≤ j → wy j = ways0 j) ∧ (∀ j, j < 272 * p ∨ 272 * p + 272 ≤ j → wt j = wth0 j), ⟨_, rfl, by omega, by omega, w0, t0, b4, c4⟩, ?_⟩
  rintro k s wy1 wt1 rs1 ⟨rfl, d1, d2, d3, d4, d5, d6⟩
  refine ⟨fun q4 => ?_, fun q4 => ?_⟩
  · have e : s = pw2 L.length := by omega
    subst e
    refine hp _ _ _ _ _ (fun m m0 m1 => ⟨?_, fun c hc => ?_⟩) d5 d6
    · rw [d3 m m0 m1]
      unfold Tw
      rw [← sum_dec]
      refine sumL_congr (fun z mz => iB_iff ?_)
      have := mem_cells.1 mz
      rw [bt_ok.decs nd (by omega) this.1 this.2]
    · have hc' := hc
      rw [← eL] at hc'
      obtain ⟨hc1, hc2⟩ := mem_Lp.1 hc'
      obtain ⟨a1, a2, a3, a4⟩ := po_ok c hc1.1 hc1.2 hc2
      have get : L[(pl c).toNat]? = some c := by
        rw [a2, ← eL]
        exact Lp_get hc1 hc2
      have lt : (pl c).toNat < L.length := (List.getElem?_eq_some_iff.1 get).1
      rw [d4 (pl c) m a3 (by omega) m0 m1]
      unfold Ww
      rw [← sum_dec]
      refine sumL_congr (fun z mz => ?_)
      have := mem_cells.1 mz
      rw [dec_get nd this.1 get, show (((pl c).toNat : Nat) : Int) = pl c by omega, ← bt_ok.decs nd (by omega) this.1 this.2]
      by_cases u : SatL w h sh st R Ch L (dec L z) ∧ bt z = m
      · rw [iB_t u, Int.one_mul]
        exact iB_iff ⟨fun r => r.2, fun r => ⟨u, r⟩⟩
      · rw [iB_f u, iB_f (fun r => u r.1)]
        omega
  · have hs : s < pw2 L.length := by omega
    have btb : bt s = sumL L (dec L s) := bt_ok.decs nd (by omega) d1 hs
    have btr := sum_le_len (l := L) (t := dec L s) (fun c => (dec_bn c).1)
    have es : cellsL (s + 1) = cellsL s ++ [s] := cells_succ d1
    refine s_isRightM cok hle bt_ok po_ok gm d1 (by omega) (fun v hv iv _ => ?_)
    rw [eL] at iv
    refine ⟨fun wy2 wt2 => (∀ m, 0 ≤ m → m ≤ 16 → wy2 (17 * p + m) = sumL (cellsL (s + 1)) (fun z => iB (SatL w h sh st R Ch L (dec L z) ∧ bt z = m))) ∧ (∀ i m, 0 ≤ i → i < n → 0 ≤ m → m ≤ 16 → wt2 (272 * p + 17 * i + m) = sumL (cellsL (s + 1)) (fun z => iB ((SatL w h sh st R Ch L (dec L z) ∧ bt z = m) ∧ tb z i))) ∧ (∀ j, j < 17 * p ∨ 17 * p + 17 ≤ j → wy2 j = ways0 j) ∧ (∀ j, j < 272 * p ∨ 272 * p + 272 ≤ j → wt2 j = wth0 j), ⟨fun v0 => ?_, fun v0 => ?_⟩, fun wy2 wt2 ⟨f1, f2, f3, f4⟩ => nx (by omega) ⟨_, ?_, rfl, by omega, by omega, f1, f2, f3, f4⟩⟩
    · have ns : ¬ SatL w h sh st R Ch L (dec L s) := fun y => by have := iv.2 y; omega
      refine ⟨fun m m0 m1 => ?_, fun i m i0 i1 m0 m1 => ?_, d5, d6⟩
      · rw [es, sumL_snoc, ← d3 m m0 m1, iB_f (fun y => ns y.1)]
        omega
      · rw [es, sumL_snoc, ← d4 i m i0 i1 m0 m1, iB_f (fun y => ns y.1.1)]
        omega
    · have sat := iv.1 (by omega)
      refine ⟨by omega, fun mm em rm => ⟨by omega, fun vw ew rw1 => ⟨by omega, ?_⟩⟩⟩
      have vwb : 0 ≤ vw ∧ vw ≤ 65536 := by
        rw [ew, d3 mm (by omega) (by omega)]
        exact bdA d1 (by omega) (fun c => iB_b _)
      refine ⟨by omega, fun wy2 ew2 => ?_⟩
      have g1 : ∀ m, 0 ≤ m → m ≤ 16 → wy2 (17 * p + m) = sumL (cellsL (s + 1)) (fun z => iB (SatL w h sh st R Ch L (dec L z) ∧ bt z = m)) := by
        intro m m0 m1
        rw [es, sumL_snoc, ← d3 m m0 m1, ew2]
        by_cases e : m = mm
        · subst e
          rw [upZ_s, iB_t ⟨sat, em.symm⟩, ew]
        · rw [upZ_n _ _ (by omega), iB_f (fun y => e (by rw [em]; exact y.2.symm))]
          omega
      have g3 : ∀ j, j < 17 * p ∨ 17 * p + 17 ≤ j → wy2 j = ways0 j := by
        intro j hj
        rw [ew2, upZ_n _ _ (by omega)]
        exact d5 j hj
      refine ⟨fun k i wt2 => k = (n - i).toNat ∧ 0 ≤ i ∧ i ≤ n ∧ (∀ i' m, 0 ≤ i' → i' < n → 0 ≤ m → m ≤ 16 → wt2 (272 * p + 17 * i' + m) = wt1 (272 * p + 17 * i' + m) + (if i' < i ∧ m = mm then iB (tb s i') else 0)) ∧ (∀ j, j < 272 * p ∨ 272 * p + 272 ≤ j → wt2 j = wth0 j), ⟨_, rfl, by omega, by omega, fun i' m _ _ _ _ => by rw [if_neg (by omega)]; omega, d6⟩, ?_⟩
      rintro k i wt2 ri ⟨rfl, f1, f2, f3, f4⟩
      refine ⟨fun q5 => ⟨g1, fun i' m i0 i1 m0 m1 => ?_, g3, f4⟩, fun q5 => ⟨by omega, fun vt et rt => ⟨by omega, ?_⟩⟩⟩
      · rw [f3 i' m i0 i1 m0 m1, es, sumL_snoc, ← d4 i' m i0 i1 m0 m1]
        by_cases e : m = mm
        · rw [if_pos ⟨by omega, e⟩, iB_iff (show tb s i' ↔ ((SatL w h sh st R Ch L (dec L s) ∧ bt s = m) ∧ tb s i') from ⟨fun r => ⟨⟨sat, by omega⟩, r⟩, fun r => r.2⟩)]
        · rw [if_neg (fun r => e r.2), iB_f (fun r => e (by have := r.1.2; omega))]
      · have hv0 : vt = wt1 (272 * p + 17 * i + mm) := by
          rw [et, f3 i mm f1 (by omega) (by omega) (by omega), if_neg (by omega)]
          omega
        have hvb : 0 ≤ vt ∧ vt ≤ 65536 := by
          rw [hv0, d4 i mm f1 (by omega) (by omega) (by omega)]
          exact bdA d1 (by omega) (fun c => iB_b _)
        have sa := shr_and (z := s) (i := i) ⟨d1, by omega⟩ f1 (by omega)
        have sb := iB_b (tb s i)
        refine ⟨by rw [sa]; omega, fun wt3 ew3 => nx (by omega) ⟨_, ?_, rfl, by omega, by omega, fun i' m i0 i1 m0 m1 => ?_, fun j hj => ?_⟩⟩
        · omega
        · rw [ew3]
          by_cases e : i' = i ∧ m = mm
          · rw [e.1, e.2, upZ_s, if_pos ⟨by omega, rfl⟩, sa, hv0]
          · rw [upZ_n _ _ (by omega), f3 i' m i0 i1 m0 m1]
            by_cases e2 : i' < i ∧ m = mm
            · rw [if_pos e2, if_pos ⟨by omega, e2.2⟩]
            · rw [if_neg e2, if_neg (by omega)]
        · rw [ew3, upZ_n _ _ (by omega)]
          exact f4 j hj
    · omega
