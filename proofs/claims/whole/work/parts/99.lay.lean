/-! the first cell, and laying mines -/
def fc (w h : Int) : Int := h / 2 * w + w / 2
theorem fc_in {w h sh : Int} (ok : okB w h sh) : 0 ≤ fc w h ∧ fc w h < w * h := by
  obtain ⟨w0, w1, h0, h1, -⟩ := ok
  exact rc_lt (by omega) (by omega) (by omega) (by omega)
theorem fc_rc {w h sh : Int} (ok : okB w h sh) : fc w h / w = h / 2 ∧ fc w h % w = w / 2 := by
  obtain ⟨w0, w1, h0, h1, -⟩ := ok
  exact ⟨rc_div (by omega) (by omega) (by omega), rc_mod (by omega) (by omega)⟩
theorem fc_adj {w h sh b : Int} (ok : okB w h sh) (hb : 0 ≤ b ∧ b < w * h) : adj w h sh (fc w h) b ↔ ∃ δ ε : Int, (-1 ≤ δ ∧ δ ≤ 1) ∧ (-1 ≤ ε ∧ ε ≤ 1) ∧ rch (h / 2) δ ε (cmS sh) ∧ b = fc w h + δ * w + ε := by
  obtain ⟨w0, w1, h0, h1, -⟩ := id ok
  obtain ⟨e1, e2⟩ := fc_rc ok
  obtain ⟨i1, i2, i3, i4⟩ := dm_in (w := w) (by omega) hb.1 hb.2
  have bw := dm_rc (w := w) (a := b)
  unfold adj
  rw [adR_iff, e1, e2]
  constructor
  · rintro ⟨δ, ε, d1, d2, d3, d4, d5⟩
    have s1 : b / w = h / 2 + δ := by rcases d4 with d4 | ⟨-, d4 | d4⟩ <;> omega
    have s2 : b % w = w / 2 + ε := by rcases d5 with d5 | ⟨-, d5 | d5⟩ <;> omega
    refine ⟨δ, ε, d1, d2, d3, ?_⟩
    rw [s1, s2, Int.add_mul] at bw
    unfold fc
    omega
  · rintro ⟨δ, ε, d1, d2, d3, e⟩
    have eb : b = (h / 2 + δ) * w + (w / 2 + ε) := by
      rw [Int.add_mul]
      unfold fc at e
      omega
    refine ⟨δ, ε, d1, d2, d3, Or.inl ?_, Or.inl ?_⟩
    · rw [eb, rc_div (by omega) (by omega) (by omega)]
    · rw [eb, rc_mod (by omega) (by omega)]
theorem fc_len {w h sh : Int} (ok : okB w h sh) : ((NB w h sh (fc w h)).length : Int) = if 2 ≤ sh then 6 else 8 := by
  obtain ⟨w0, w1, h0, h1, -⟩ := id ok
  have fb := fc_in ok
  have key : ∀ l : List Int, l.Nodup → (∀ b, b ∈ l ↔ ∃ δ ε : Int, (-1 ≤ δ ∧ δ ≤ 1) ∧ (-1 ≤ ε ∧ ε ≤ 1) ∧ rch (h / 2) δ ε (cmS sh) ∧ b = fc w h + δ * w + ε) → (NB w h sh (fc w h)).length = l.length := by
    intro l nd hl
    refine (perm_mem (pw_nodup NB_pw) nd (fun b => ?_)).length_eq
    rw [mem_NB, hl]
    constructor
    · rintro ⟨hb, q⟩
      exact (fc_adj ok hb).1 q
    · rintro ⟨δ, ε, d1, d2, d3, e⟩
      have eb : b = (h / 2 + δ) * w + (w / 2 + ε) := by
        rw [Int.add_mul]
        unfold fc at e
        omega
      have hb : 0 ≤ b ∧ b < w * h := by
        rw [eb]
        exact rc_lt (by omega) (by omega) (by omega) (by omega)
      exact ⟨hb, (fc_adj ok hb).2 ⟨δ, ε, d1, d2, d3, e⟩⟩
  generalize fc w h = F at *
  by_cases hs : 2 ≤ sh
  · rw [if_pos hs]
    have hcm : cmS sh = 1 := if_pos hs
    by_cases hr : h / 2 % 2 = 0
    · rw [key [F - w - 1, F - w, F - 1, F + 1, F + w - 1, F + w] (by simp; omega) (fun b => ?_)]
      · rfl
      · rw [hcm]
        simp only [List.mem_cons, List.not_mem_nil, or_false]
        constructor
        · rintro (e | e | e | e | e | e)
          · exact ⟨-1, -1, by omega, by omega, by omega, by omega⟩
          · exact ⟨-1, 0, by omega, by omega, by omega, by omega⟩
          · exact ⟨0, -1, by omega, by omega, by omega, by omega⟩
          · exact ⟨0, 1, by omega, by omega, by omega, by omega⟩
          · exact ⟨1, -1, by omega, by omega, by omega, by omega⟩
          · exact ⟨1, 0, by omega, by omega, by omega, by omega⟩
        · rintro ⟨δ, ε, d1, d2, d3, e⟩
          rcases (show δ = -1 ∨ δ = 0 ∨ δ = 1 by omega) with r | r | r <;> rw [r] at e d3 <;> omega
    · rw [key [F - w, F - w + 1, F - 1, F + 1, F + w, F + w + 1] (by simp; omega) (fun b => ?_)]
      · rfl
      · rw [hcm]
        simp only [List.mem_cons, List.not_mem_nil, or_false]
        constructor
        · rintro (e | e | e | e | e | e)
          · exact ⟨-1, 0, by omega, by omega, by omega, by omega⟩
          · exact ⟨-1, 1, by omega, by omega, by omega, by omega⟩
          · exact ⟨0, -1, by omega, by omega, by omega, by omega⟩
          · exact ⟨0, 1, by omega, by omega, by omega, by omega⟩
          · exact ⟨1, 0, by omega, by omega, by omega, by omega⟩
          · exact ⟨1, 1, by omega, by omega, by omega, by omega⟩
        · rintro ⟨δ, ε, d1, d2, d3, e⟩
          rcases (show δ = -1 ∨ δ = 0 ∨ δ = 1 by omega) with r | r | r <;> rw [r] at e d3 <;> omega
  · rw [if_neg hs]
    have hcm : cmS sh = 0 := if_neg hs
    rw [key [F - w - 1, F - w, F - w + 1, F - 1, F + 1, F + w - 1, F + w, F + w + 1] (by simp; omega) (fun b => ?_)]
    · rfl
    · rw [hcm]
      simp only [List.mem_cons, List.not_mem_nil, or_false]
      constructor
      · rintro (e | e | e | e | e | e | e | e)
        · exact ⟨-1, -1, by omega, by omega, by omega, by omega⟩
        · exact ⟨-1, 0, by omega, by omega, by omega, by omega⟩
        · exact ⟨-1, 1, by omega, by omega, by omega, by omega⟩
        · exact ⟨0, -1, by omega, by omega, by omega, by omega⟩
        · exact ⟨0, 1, by omega, by omega, by omega, by omega⟩
        · exact ⟨1, -1, by omega, by omega, by omega, by omega⟩
        · exact ⟨1, 0, by omega, by omega, by omega, by omega⟩
        · exact ⟨1, 1, by omega, by omega, by omega, by omega⟩
      · rintro ⟨δ, ε, d1, d2, d3, e⟩
        rcases (show δ = -1 ∨ δ = 0 ∨ δ = 1 by omega) with r | r | r <;> rw [r] at e d3 <;> omega
theorem s_firstCell {w h sh : Int} {post : Int → Prop} (ok : okB w h sh) (hp : post (fc w h)) : P_X4_firstCell post w h := by
  obtain ⟨w0, w1, h0, h1, -⟩ := id ok
  have e1 : h.tdiv 2 = h / 2 := Int.tdiv_eq_ediv_of_nonneg (by omega)
  have e2 : w.tdiv 2 = w / 2 := Int.tdiv_eq_ediv_of_nonneg (by omega)
  have fb := fc_in ok
  have hle := wh_le ok
  unfold P_X4_firstCell
  rw [e1, e2]
  refine ⟨by omega, by omega, s_cell ?_ (fun _ => hp)⟩
  show inR (fc w h)
  omega
theorem s_freeCellsX {w h sh : Int} {post : Int → Prop} (ok : okB w h sh) (hp : post (w * h - 1 - (NB w h sh (fc w h)).length)) : P_X4_freeCells post w h sh := by
  have hle := wh_le ok
  have hge := wh_ge ok
  have l := fc_len ok
  unfold P_X4_freeCells P_X3_isComb
  have fin : ∀ z : Int, z = 1 + (NB w h sh (fc w h)).length → inR z → (inR (w * h - z) ∧ post (w * h - z)) := by
    intro z ez _
    refine ⟨by split at l <;> omega, ?_⟩
    rw [show w * h - z = w * h - 1 - (NB w h sh (fc w h)).length by omega]
    exact hp
  refine exJi ⟨fun y _ => ⟨Or.inl rfl, fun _ => exJi ⟨fun _ => fin 9 (by rw [if_neg (by omega)] at l; omega), fun z => absurd rfl z⟩⟩, fun y _ => ⟨Or.inr rfl, fun _ => exJi ⟨fun z => absurd z (by decide), fun _ => fin 7 (by rw [if_pos (by omega)] at l; omega)⟩⟩⟩
theorem s_isTooMany {w h sh many : Int} {post : Int → Prop} (ok : okB w h sh) (h1 : ¬ many ≤ w * h - 1 - (NB w h sh (fc w h)).length → post 1) (h0 : many ≤ w * h - 1 - (NB w h sh (fc w h)).length → post 0) : P_X12_isTooMany post w h sh many := by
  obtain ⟨w0, w1, hh0, hh3, s0, s1, s2⟩ := id ok
  have hle := wh_le ok
  have hge := wh_ge ok
  have fb := fc_in ok
  obtain ⟨f1, f2⟩ := fc_rc ok
  have e1 : h.tdiv 2 = h / 2 := Int.tdiv_eq_ediv_of_nonneg (by omega)
  have e2 : w.tdiv 2 = w / 2 := Int.tdiv_eq_ediv_of_nonneg (by omega)
  have e5 : sh.tmod 2 = sh % 2 := Int.tmod_eq_emod_of_nonneg s0
  have len := NB_len ok fb
  have lsum : ((NB w h sh (fc w h)).length : Int) = sumL (cellsL (w * h)) (fun b => iB (b ∈ NB w h sh (fc w h))) := by
    have e : ((NB w h sh (fc w h)).length : Int) = sumL (NB w h sh (fc w h)) (fun _ => 1) := by rw [sumL_const (k := 1) (fun _ _ => rfl)]; omega
    rw [e]
    have e' : sumL (NB w h sh (fc w h)) (fun _ => 1) = sumL (cellsL (w * h)) (fun x => if adjB w h sh (fc w h) x = true then 1 else 0) := sumL_filter
    rw [e']
    refine sumL_congr (fun b mb => ?_)
    have : adjB w h sh (fc w h) b = true ↔ b ∈ NB w h sh (fc w h) := by rw [adjB_iff, mem_NB]; exact ⟨fun q => ⟨mem_cells.1 mb, q⟩, fun q => q.2⟩
    by_cases k : b ∈ NB w h sh (fc w h)
    · rw [if_pos (this.2 k), iB_t k]
    · rw [if_neg (fun y => k (this.1 y)), iB_f k]
  unfold P_X12_isTooMany
  rw [e1, e2, e5]
  refine ⟨by show inR (fc w h); omega, fun F eF => ?_⟩
  have eF' : F = fc w h := eF
  subst eF'
  clear eF
  have e3 : (fc w h).tdiv w = h / 2 := by rw [Int.tdiv_eq_ediv_of_nonneg fb.1, f1]
  have e4 : (fc w h).tmod w = w / 2 := by rw [Int.tmod_eq_emod_of_nonneg fb.1, f2]
  rw [e3, e4]
  refine ⟨fun k n x => k = (w * h - x).toNat ∧ 0 ≤ x ∧ x ≤ w * h ∧ n = 1 + sumL (cellsL x) (fun b => iB (b ∈ NB w h sh (fc w h))), ⟨_, rfl, by omega, by omega, rfl⟩, ?_⟩
  rintro k n x rn rx ⟨rfl, b1, b2, b3⟩
  have sb := cellsB (n := w * h) (x := x) (f := fun b => iB (b ∈ NB w h sh (fc w h))) ⟨b1, b2⟩ hle (fun c _ _ => iB_b _)
  refine ⟨by omega, fun z => ⟨by omega, ?_⟩, fun z => ?_⟩
  · have ex : x = w * h := by omega
    subst ex
    have en : w * h - n = w * h - 1 - (NB w h sh (fc w h)).length := by omega
    rw [en]
    exact exJi ⟨fun y _ => ⟨Or.inl rfl, h0 y⟩, fun y _ => ⟨Or.inr rfl, h1 y⟩⟩
  have hx : 0 ≤ x ∧ x < w * h := ⟨b1, by omega⟩
  have g3 : x.tdiv w = x / w := Int.tdiv_eq_ediv_of_nonneg hx.1
  have g4 : x.tmod w = x % w := Int.tmod_eq_emod_of_nonneg hx.1
  rw [g3, g4]
  obtain ⟨j1, j2, j3, j4⟩ := dm_in (w := w) (by omega) hx.1 hx.2
  refine ⟨fun k v y => k = (9 - y).toNat ∧ 0 ≤ y ∧ y ≤ 9 ∧ (v = 0 ∨ v = 1) ∧ (v = 1 ↔ ∃ k : Int, 0 ≤ k ∧ k < y ∧ (sh % 2 = 1 ∨ k = 4) ∧ pic sh w h (h / 2) (w / 2) (x / w) (x % w) k), ⟨_, rfl, by omega, by omega, Or.inl rfl, ⟨fun q => by omega, fun ⟨k, k0, k1, _⟩ => by omega⟩⟩, ?_⟩
  rintro k v y rv ry ⟨rfl, c1, c2, c3, c4⟩
  refine ⟨fun q => ?_, fun q => ?_⟩
  · have ey : y = 9 := by omega
    subst ey
    have fin : x ∈ NB w h sh (fc w h) ↔ v = 1 := by
      rw [c4, mem_NB]
      unfold adj
      rw [f1, f2]
      by_cases hr : sh % 2 = 1
      · rw [show rgS sh = 1 from hr, ← pic_adR]
        exact ⟨fun ⟨_, k, k0, k1, k2⟩ => ⟨k, k0, k1, Or.inl hr, k2⟩, fun ⟨k, k0, k1, _, k2⟩ => ⟨hx, k, k0, k1, k2⟩⟩
      · rw [show rgS sh = 0 from (show sh % 2 = 0 by omega), ← tch_adR]
        have p4 : pic sh w h (h / 2) (w / 2) (x / w) (x % w) 4 ↔ tch sh (h / 2) (w / 2) (x / w) (x % w) := by
          show tch sh (h / 2) (w / 2) (x / w + (4 / 3 - 1) * h) (x % w + (4 % 3 - 1) * w) ↔ _
          rw [show ((4 : Int) / 3 - 1) = 0 by decide, show ((4 : Int) % 3 - 1) = 0 by decide, Int.zero_mul, Int.zero_mul, Int.add_zero, Int.add_zero]
        constructor
        · rintro ⟨-, t⟩
          exact ⟨4, by omega, by omega, Or.inr rfl, p4.2 t⟩
        · rintro ⟨k, k0, k1, k2, k3⟩
          have : k = 4 := k2.resolve_left hr
          subst this
          exact ⟨hx, p4.1 k3⟩
    have go : ∀ z : Int, z = iB (x ∈ NB w h sh (fc w h)) → inR z → (inR (n + z) ∧ (∀ x6_30 : Int, x6_30 = (n + z) → (inR (x + 1) ∧ (∀ x7_32 : Int, x7_32 = (x + 1) → (∃ n_33 : Nat, n_33 < (w * h - x).toNat ∧ (n_33 = (w * h - x7_32).toNat ∧ 0 ≤ x7_32 ∧ x7_32 ≤ w * h ∧ x6_30 = 1 + sumL (cellsL x7_32) (fun b => iB (b ∈ NB w h sh (fc w h))))))))) := by
      intro z ez _
      have zb := iB_b (x ∈ NB w h sh (fc w h))
      refine ⟨by omega, fun n2 en => nx (by omega) ⟨_, ?_, rfl, by omega, by omega, ?_⟩⟩
      · omega
      · rw [cells_succ b1, sumL_snoc, en, b3, ez]
        omega
    refine exJi (exJ0 ⟨fun y => go 0 (iB_f (fun m => by have := fin.1 m; omega)).symm, fun y => ⟨fun y2 => go 0 (iB_f (fun m => NB_ne ok fb m y2)).symm, fun y2 => go 1 (iB_t (fin.2 (by omega))).symm⟩⟩)
  · have q1 : y.tdiv 3 = y / 3 := Int.tdiv_eq_ediv_of_nonneg c1
    have q2 : y.tmod 3 = y % 3 := Int.tmod_eq_emod_of_nonneg c1
    rw [q1, q2]
    have g1 := mul3 (i := y / 3 - 1) (h := h) (by omega) (by omega)
    have g2 := mul3 (i := y % 3 - 1) (h := w) (by omega) (by omega)
    have step : ∀ z : Int, (z = 0 ∨ z = 1) → (z = 1 ↔ v = 1 ∨ ((sh % 2 = 1 ∨ y = 4) ∧ pic sh w h (h / 2) (w / 2) (x / w) (x % w) y)) → inR z → (inR (y + 1) ∧ ∀ x9_42 : Int, x9_42 = y + 1 → ∃ n_43 : Nat, n_43 < (9 - y).toNat ∧ (n_43 = (9 - x9_42).toNat ∧ 0 ≤ x9_42 ∧ x9_42 ≤ 9 ∧ (z = 0 ∨ z = 1) ∧ (z = 1 ↔ ∃ k : Int, 0 ≤ k ∧ k < x9_42 ∧ (sh % 2 = 1 ∨ k = 4) ∧ pic sh w h (h / 2) (w / 2) (x / w) (x % w) k))) := by
      intro z hz hz2 _
      refine nx (by omega) ⟨_, ?_, rfl, by omega, by omega, hz, ?_⟩
      · omega
      · rw [hz2, c4]
        constructor
        · rintro (⟨k, k0, k1, k2⟩ | k2)
          · exact ⟨k, k0, by omega, k2⟩
          · exact ⟨y, c1, by omega, k2⟩
        · rintro ⟨k, k0, k1, k2⟩
          by_cases e : k = y
          · subst e; exact Or.inr k2
          · exact Or.inl ⟨k, k0, by omega, k2⟩
    have noo : v = 0 → ¬ ((sh % 2 = 1 ∨ y = 4) ∧ pic sh w h (h / 2) (w / 2) (x / w) (x % w) y) → _ := fun v0 nk => step 0 (Or.inl rfl) ⟨fun r => absurd r (by decide), fun r => r.elim (fun r => by omega) (fun r => absurd r nk)⟩
    refine exJi (exJ0 ⟨fun z1 => step 1 (Or.inr rfl) ⟨fun _ => Or.inl (by omega), fun _ => rfl⟩, fun z1 => ⟨by omega, ?_⟩⟩)
    refine ⟨¬ ((sh % 2 = 1 ∨ y = 4) ∧ pic sh w h (h / 2) (w / 2) (x / w) (x % w) y), ⟨(sh % 2 = 1 ∨ y = 4), ⟨fun r => Or.inl r, fun r => ⟨fun r2 k => k.1.elim r r2, fun r2 => Or.inr r2⟩⟩, fun hh => ⟨by omega, by omega, by omega, by omega, by omega, by omega, by omega, by omega, s_touch (by omega) (by omega) (fun t _ => ⟨fun r => absurd r (by decide), fun _ => step 1 (Or.inr rfl) ⟨fun _ => Or.inr ⟨hh, t⟩, fun _ => rfl⟩⟩) (fun t _ => ⟨fun _ k => t k.2, fun r => absurd rfl r⟩)⟩⟩, fun nk => noo z1 nk⟩
