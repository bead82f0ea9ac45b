/-! which cells are next to which: one picture for both sides -/
abbrev rch (r δ ε comb : Int) : Prop := ¬ (δ = 0 ∧ ε = 0) ∧ (comb = 0 ∨ δ = 0 ∨ ε = 0 ∨ (r % 2 = 0 ∧ ε = -1) ∨ (¬ r % 2 = 0 ∧ ε = 1))
abbrev vr (ring n x y δ : Int) : Prop := y = x + δ ∨ (ring = 1 ∧ (y = x + δ + n ∨ y = x + δ - n))
abbrev ad1 (w h ring comb r c s d δ ε : Int) : Prop := rch r δ ε comb ∧ vr ring h r s δ ∧ vr ring w c d ε
abbrev adR (w h ring comb r c s d : Int) : Prop := ad1 w h ring comb r c s d (-1) (-1) ∨ ad1 w h ring comb r c s d (-1) 0 ∨ ad1 w h ring comb r c s d (-1) 1 ∨ ad1 w h ring comb r c s d 0 (-1) ∨ ad1 w h ring comb r c s d 0 1 ∨ ad1 w h ring comb r c s d 1 (-1) ∨ ad1 w h ring comb r c s d 1 0 ∨ ad1 w h ring comb r c s d 1 1
abbrev rgS (sh : Int) : Int := sh % 2
abbrev cmS (sh : Int) : Int := if 2 ≤ sh then 1 else 0
def adj (w h sh a b : Int) : Prop := adR w h (rgS sh) (cmS sh) (a / w) (a % w) (b / w) (b % w)
noncomputable def adjB (w h sh a b : Int) : Bool := @decide (adj w h sh a b) (Classical.propDecidable _)
theorem adjB_iff {w h sh a b : Int} : adjB w h sh a b = true ↔ adj w h sh a b := by unfold adjB; exact @decide_eq_true_iff _ (Classical.propDecidable _)
noncomputable def NB (w h sh a : Int) : List Int := (cellsL (w * h)).filter (adjB w h sh a)
abbrev okB (w h sh : Int) : Prop := 3 ≤ w ∧ w ≤ 12 ∧ 3 ≤ h ∧ h ≤ 12 ∧ 0 ≤ sh ∧ sh ≤ 3 ∧ (sh = 3 → h % 2 = 0)
theorem mem_NB {w h sh a b : Int} : b ∈ NB w h sh a ↔ (0 ≤ b ∧ b < w * h) ∧ adj w h sh a b := by
  unfold NB
  rw [List.mem_filter, mem_cells, adjB_iff]
theorem NB_pw {w h sh a : Int} : (NB w h sh a).Pairwise (· < ·) := cells_pw.filter _
theorem adR_iff {w h ring comb r c s d : Int} : adR w h ring comb r c s d ↔ ∃ δ ε : Int, (-1 ≤ δ ∧ δ ≤ 1) ∧ (-1 ≤ ε ∧ ε ≤ 1) ∧ ad1 w h ring comb r c s d δ ε := by
  constructor
  · rintro (h | h | h | h | h | h | h | h)
    · exact ⟨-1, -1, by omega, by omega, h⟩
    · exact ⟨-1, 0, by omega, by omega, h⟩
    · exact ⟨-1, 1, by omega, by omega, h⟩
    · exact ⟨0, -1, by omega, by omega, h⟩
    · exact ⟨0, 1, by omega, by omega, h⟩
    · exact ⟨1, -1, by omega, by omega, h⟩
    · exact ⟨1, 0, by omega, by omega, h⟩
    · exact ⟨1, 1, by omega, by omega, h⟩
  · rintro ⟨δ, ε, h1, h2, h⟩
    rcases (show δ = -1 ∨ δ = 0 ∨ δ = 1 by omega) with rfl | rfl | rfl <;> rcases (show ε = -1 ∨ ε = 0 ∨ ε = 1 by omega) with rfl | rfl | rfl
    · exact Or.inl h
    · exact Or.inr (Or.inl h)
    · exact Or.inr (Or.inr (Or.inl h))
    · exact Or.inr (Or.inr (Or.inr (Or.inl h)))
    · exact absurd h.1.1 (by simp)
    · exact Or.inr (Or.inr (Or.inr (Or.inr (Or.inl h))))
    · exact Or.inr (Or.inr (Or.inr (Or.inr (Or.inr (Or.inl h)))))
    · exact Or.inr (Or.inr (Or.inr (Or.inr (Or.inr (Or.inr (Or.inl h))))))
    · exact Or.inr (Or.inr (Or.inr (Or.inr (Or.inr (Or.inr (Or.inr h))))))
theorem vr_uniq {ring n x y δ δ' : Int} (hn : 3 ≤ n) (h1 : -1 ≤ δ ∧ δ ≤ 1) (h2 : -1 ≤ δ' ∧ δ' ≤ 1) (hx : 0 ≤ x ∧ x < n) (hy : 0 ≤ y ∧ y < n) (a : vr ring n x y δ) (b : vr ring n x y δ') : δ = δ' := by
  rcases a with a | ⟨-, a | a⟩ <;> rcases b with b | ⟨-, b | b⟩ <;> omega
theorem vr_sym {ring n x y δ : Int} (a : vr ring n x y δ) : vr ring n y x (-δ) := by
  rcases a with a | ⟨q, a | a⟩
  · exact Or.inl (by omega)
  · exact Or.inr ⟨q, Or.inr (by omega)⟩
  · exact Or.inr ⟨q, Or.inl (by omega)⟩
theorem vr_par {ring n x y δ : Int} (hp : ring = 1 → n % 2 = 0) (h1 : δ = 1 ∨ δ = -1) (a : vr ring n x y δ) : x % 2 = 0 ↔ ¬ y % 2 = 0 := by
  rcases a with a | ⟨q, a | a⟩
  · omega
  · have := hp q
    omega
  · have := hp q
    omega
theorem ad1_sym {w h ring comb r c s d δ ε : Int} (h1 : -1 ≤ δ ∧ δ ≤ 1) (hp : comb = 0 ∨ (ring = 1 → h % 2 = 0)) (a : ad1 w h ring comb r c s d δ ε) : ad1 w h ring comb s d r c (-δ) (-ε) := by
  obtain ⟨⟨a1, a2⟩, a3, a4⟩ := a
  refine ⟨⟨by omega, ?_⟩, vr_sym a3, vr_sym a4⟩
  rcases a2 with a2 | a2 | a2 | ⟨a2, a5⟩ | ⟨a2, a5⟩
  · exact Or.inl a2
  · exact Or.inr (Or.inl (by omega))
  · exact Or.inr (Or.inr (Or.inl (by omega)))
  · rcases hp with hp | hp
    · exact Or.inl hp
    · rcases (show δ = 0 ∨ (δ = 1 ∨ δ = -1) by omega) with q | q
      · exact Or.inr (Or.inl (by omega))
      · have := vr_par hp q a3
        exact Or.inr (Or.inr (Or.inr (Or.inr ⟨this.mp a2, by omega⟩)))
  · rcases hp with hp | hp
    · exact Or.inl hp
    · rcases (show δ = 0 ∨ (δ = 1 ∨ δ = -1) by omega) with q | q
      · exact Or.inr (Or.inl (by omega))
      · have := vr_par hp q a3
        refine Or.inr (Or.inr (Or.inr (Or.inl ⟨?_, by omega⟩)))
        rcases Int.emod_two_eq s with e | e
        · exact e
        · exact absurd (this.mpr (by omega)) a2
theorem adj_sym {w h sh a b : Int} (ok : okB w h sh) (q : adj w h sh a b) : adj w h sh b a := by
  unfold adj at q ⊢
  rw [adR_iff] at q ⊢
  obtain ⟨δ, ε, h1, h2, q⟩ := q
  refine ⟨-δ, -ε, by omega, by omega, ad1_sym h1 ?_ q⟩
  obtain ⟨-, -, -, -, s0, s1, s2⟩ := ok
  by_cases hc : 2 ≤ sh
  · right
    intro hr
    exact s2 (by have : sh % 2 = 1 := hr; omega)
  · left
    exact if_neg hc
theorem NB_sym {w h sh a b : Int} (ok : okB w h sh) (ha : 0 ≤ a ∧ a < w * h) (hb : 0 ≤ b ∧ b < w * h) : b ∈ NB w h sh a ↔ a ∈ NB w h sh b := by
  rw [mem_NB, mem_NB]
  exact ⟨fun q => ⟨ha, adj_sym ok q.2⟩, fun q => ⟨hb, adj_sym ok q.2⟩⟩
theorem NB_ne {w h sh a b : Int} (ok : okB w h sh) (ha : 0 ≤ a ∧ a < w * h) (q : b ∈ NB w h sh a) : b ≠ a := by
  rintro rfl
  have q := (mem_NB.mp q).2
  unfold adj at q
  rw [adR_iff] at q
  obtain ⟨δ, ε, h1, h2, ⟨q1, -⟩, q2, q3⟩ := q
  obtain ⟨w0, w1, h0, h3, -⟩ := ok
  obtain ⟨i1, i2, i3, i4⟩ := dm_in (by omega) ha.1 ha.2
  have e1 := vr_uniq (δ' := 0) h0 h1 (by omega) ⟨i1, i2⟩ ⟨i1, i2⟩ q2 (Or.inl (by omega))
  have e2 := vr_uniq (δ' := 0) w0 h2 (by omega) ⟨i3, i4⟩ ⟨i3, i4⟩ q3 (Or.inl (by omega))
  exact q1 ⟨e1, e2⟩
/-- the place that a step leads to -/
def wz (ring n x : Int) : Int := if ring = 1 then (if x < 0 then x + n else if n ≤ x then x - n else x) else x
theorem wz_of {ring n x y δ : Int} (hn : 3 ≤ n) (h1 : -1 ≤ δ ∧ δ ≤ 1) (hx : 0 ≤ x ∧ x < n) (hy : 0 ≤ y ∧ y < n) (a : vr ring n x y δ) : y = wz ring n (x + δ) := by
  unfold wz
  rcases a with a | ⟨q, a | a⟩
  · by_cases hr : ring = 1
    · rw [if_pos hr, if_neg (by omega), if_neg (by omega)]; exact a
    · rw [if_neg hr]; exact a
  · rw [if_pos q, if_pos (by omega)]; exact a
  · rw [if_pos q, if_neg (by omega), if_pos (by omega)]; exact a
theorem vr_wz {ring n x δ : Int} (hn : 3 ≤ n) (h1 : -1 ≤ δ ∧ δ ≤ 1) (hx : 0 ≤ x ∧ x < n) (hin : ring = 1 ∨ (0 ≤ x + δ ∧ x + δ < n)) : vr ring n x (wz ring n (x + δ)) δ ∧ 0 ≤ wz ring n (x + δ) ∧ wz ring n (x + δ) < n := by
  unfold wz
  by_cases hr : ring = 1
  · rw [if_pos hr]
    by_cases q : x + δ < 0
    · rw [if_pos q]; exact ⟨Or.inr ⟨hr, Or.inl rfl⟩, by omega, by omega⟩
    · rw [if_neg q]
      by_cases q2 : n ≤ x + δ
      · rw [if_pos q2]; exact ⟨Or.inr ⟨hr, Or.inr rfl⟩, by omega, by omega⟩
      · rw [if_neg q2]; exact ⟨Or.inl rfl, by omega, by omega⟩
  · rw [if_neg hr]
    rcases hin with hin | hin
    · exact absurd hin hr
    · exact ⟨Or.inl rfl, hin⟩
def stp (w h ring r c δ ε : Int) : Int := wz ring h (r + δ) * w + wz ring w (c + ε)
theorem NB_len {w h sh a : Int} (ok : okB w h sh) (ha : 0 ≤ a ∧ a < w * h) : (NB w h sh a).length ≤ 8 := by
  have hs : NB w h sh a ⊆ ([(-1, -1), (-1, 0), (-1, 1), (0, -1), (0, 1), (1, -1), (1, 0), (1, 1)] : List (Int × Int)).map (fun q => stp w h (rgS sh) (a / w) (a % w) q.1 q.2) := by
    intro b hb
    obtain ⟨hb, q⟩ := mem_NB.mp hb
    obtain ⟨w0, w1, h0, h3, -⟩ := ok
    obtain ⟨i1, i2, i3, i4⟩ := dm_in (by omega) ha.1 ha.2
    obtain ⟨j1, j2, j3, j4⟩ := dm_in (by omega) hb.1 hb.2
    have key : ∀ δ ε : Int, (-1 ≤ δ ∧ δ ≤ 1) → (-1 ≤ ε ∧ ε ≤ 1) → ad1 w h (rgS sh) (cmS sh) (a / w) (a % w) (b / w) (b % w) δ ε → b = stp w h (rgS sh) (a / w) (a % w) δ ε := by
      intro δ ε h1 h2 q
      unfold stp
      rw [← wz_of h0 h1 ⟨i1, i2⟩ ⟨j1, j2⟩ q.2.1, ← wz_of w0 h2 ⟨i3, i4⟩ ⟨j3, j4⟩ q.2.2]
      exact dm_rc
    unfold adj at q
    rw [List.mem_map]
    rcases q with q | q | q | q | q | q | q | q
    · exact ⟨(-1, -1), by simp, (key _ _ (by omega) (by omega) q).symm⟩
    · exact ⟨(-1, 0), by simp, (key _ _ (by omega) (by omega) q).symm⟩
    · exact ⟨(-1, 1), by simp, (key _ _ (by omega) (by omega) q).symm⟩
    · exact ⟨(0, -1), by simp, (key _ _ (by omega) (by omega) q).symm⟩
    · exact ⟨(0, 1), by simp, (key _ _ (by omega) (by omega) q).symm⟩
    · exact ⟨(1, -1), by simp, (key _ _ (by omega) (by omega) q).symm⟩
    · exact ⟨(1, 0), by simp, (key _ _ (by omega) (by omega) q).symm⟩
    · exact ⟨(1, 1), by simp, (key _ _ (by omega) (by omega) q).symm⟩
  have := (pw_nodup NB_pw).length_le_of_subset hs
  simpa using this
theorem wh_le {w h sh : Int} (ok : okB w h sh) : w * h ≤ 144 := by
  obtain ⟨w0, w1, h0, h3, -⟩ := ok
  have a1 : w * h ≤ 12 * h := Int.mul_le_mul_of_nonneg_right w1 (by omega)
  omega
theorem wh_ge {w h sh : Int} (ok : okB w h sh) : 9 ≤ w * h := by
  obtain ⟨w0, w1, h0, h3, -⟩ := ok
  have a1 : 3 * h ≤ w * h := Int.mul_le_mul_of_nonneg_right w0 (by omega)
  omega
