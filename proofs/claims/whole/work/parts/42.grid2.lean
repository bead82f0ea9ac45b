/-! what Grid's methods do -/
theorem s_reaches {post : Int → Prop} {r δ ε comb : Int} (hr : 0 ≤ r) (h1 : rch r δ ε comb → post 1) (h0 : ¬ rch r δ ε comb → post 0) : P_X3_reaches post r δ ε comb := by
  have e : r.tmod 2 = r % 2 := Int.tmod_eq_emod_of_nonneg hr
  unfold P_X3_reaches
  repeat' (first | refine exJi ?_ | refine exJ0 ?_ | refine And.intro ?_ ?_ | intro _)
  all_goals first | omega | exact h1 (by omega) | exact h0 (by omega)
theorem s_has {post : Int → Prop} {w h r c : Int} (h1 : (0 ≤ r ∧ r < h ∧ 0 ≤ c ∧ c < w) → post 1) (h0 : ¬ (0 ≤ r ∧ r < h ∧ 0 ≤ c ∧ c < w) → post 0) : P_X3_has post w h r c := by
  unfold P_X3_has
  repeat' (first | refine exJi ?_ | refine exJ0 ?_ | refine And.intro ?_ ?_ | intro _)
  all_goals first | omega | exact h1 (by omega) | exact h0 (by omega)
theorem s_wrap {post : Int → Prop} {x n : Int} (hx : -1 ≤ x ∧ x ≤ n) (hn : 0 < n ∧ n ≤ 12) (hp : post (wz 1 n x)) : P_X3_wrap post x n := by
  unfold P_X3_wrap
  unfold wz at hp
  rw [if_pos rfl] at hp
  refine ⟨fun a => exJi ⟨fun b _ => ?_, fun b => ⟨by omega, fun _ => ?_⟩⟩, fun a => ⟨by omega, ?_⟩⟩
  · rw [if_neg (by omega), if_neg (by omega)] at hp; exact hp
  · rw [if_neg (by omega), if_pos (by omega)] at hp; exact hp
  · rw [if_pos (by omega)] at hp; exact hp
theorem s_cell {post : Int → Prop} {w r c : Int} (hr : inR (r * w + c)) (hp : post (r * w + c)) : P_X3_cell post w r c := ⟨hr, hp⟩
theorem s_isComb {post : Int → Prop} {sh : Int} (hp : post (cmS sh)) : P_X3_isComb post sh := by
  unfold P_X3_isComb
  refine exJi ⟨fun a _ => ⟨by omega, ?_⟩, fun a _ => ⟨by omega, ?_⟩⟩
  · rw [show cmS sh = 0 from if_neg (by omega)] at hp; exact hp
  · rw [show cmS sh = 1 from if_pos (by omega)] at hp; exact hp
theorem s_isPossible {post : Int → Prop} {w h sh : Int} (rh : inR h) (h1 : okB w h sh → post 1) (h0 : ¬ okB w h sh → post 0) : P_X3_isPossible post w h sh := by
  have e : 0 ≤ h → h.tmod 2 = h % 2 := Int.tmod_eq_emod_of_nonneg
  have e2 : -2 < h.tmod 2 ∧ h.tmod 2 < 2 := ⟨Int.lt_tmod_of_pos h (by omega), Int.tmod_lt_of_pos h (by omega)⟩
  unfold P_X3_isPossible
  repeat' (first | refine exJi ?_ | refine exJ0 ?_ | refine And.intro ?_ ?_ | intro _)
  all_goals first | omega | exact h1 (by have := e (by omega); omega) | exact h0 (by have := e (by omega); omega) | exact h0 (by omega)
/-- the sorted row of neighbours takes one more -/
theorem s_addNear {near nearEnd : Int → Int} {a x k : Int} {post : (Int → Int) → (Int → Int) → Prop} (ha : 0 ≤ a ∧ a < 144) (hk : 0 ≤ k ∧ k < 8) (he : nearEnd a = 8 * a + k) (hs : Srt near (8 * a) (8 * a + k)) (hx : ∀ i, 8 * a ≤ i → i < 8 * a + k → near i ≠ x)
    (hp : ∀ near', (∀ j, j < 8 * a ∨ 8 * a + k < j → near' j = near j) → Srt near' (8 * a) (8 * a + k + 1) → (∀ y, (∃ i, 8 * a ≤ i ∧ i < 8 * a + k + 1 ∧ near' i = y) ↔ (∃ i, 8 * a ≤ i ∧ i < 8 * a + k ∧ near i = y) ∨ y = x) → post near' (upZ nearEnd a (8 * a + k + 1))) : P_X3_addNear post near nearEnd a x := by
  unfold P_X3_addNear
  refine ⟨ha, fun v ev rv => ?_⟩
  rw [he] at ev
  subst ev
  refine ⟨fun n t cur => n = (t - 8 * a).toNat ∧ 8 * a ≤ t ∧ t ≤ 8 * a + k ∧ (∀ j, j < t → cur j = near j) ∧ (∀ j, t < j → j ≤ 8 * a + k → cur j = near (j - 1)) ∧ (∀ j, 8 * a + k < j → cur j = near j) ∧ (∀ j, t ≤ j → j < 8 * a + k → x < near j), ⟨_, rfl, by omega, by omega, fun _ _ => rfl, fun j _ _ => by omega, fun _ _ => rfl, fun j _ _ => by omega⟩, ?_⟩
  rintro n t cur rt ⟨rfl, t0, t1, c1, c2, c3, c4⟩
  refine ⟨by omega, (t = 8 * a ∨ near (t - 1) ≤ x), ⟨fun q => Or.inl (by omega), fun q => ⟨by omega, fun v1 e1 r1 => ⟨fun q2 => Or.inr (by rw [← c1 (t - 1) (by omega), ← e1]; exact q2), fun q2 => ⟨by omega, fun v2 e2 r2 => ⟨by omega, fun cur2 ec => ⟨by omega, fun t2 et => ?_⟩⟩⟩⟩⟩⟩, fun hJ => ?_⟩
  · subst et
    refine ⟨(t + -1 - 8 * a).toNat, by omega, rfl, by omega, by omega, ?_, ?_, ?_, ?_⟩
    · intro j hj
      rw [ec, upZ_n _ _ (by omega)]
      exact c1 j (by omega)
    · intro j h1 h2
      by_cases hj : j = t
      · subst hj
        rw [ec, upZ_s, e2, c1 _ (by omega)]
      · rw [ec, upZ_n _ _ hj]
        exact c2 j (by omega) h2
    · intro j hj
      rw [ec, upZ_n _ _ (by omega)]
      exact c3 j hj
    · intro j h1 h2
      by_cases hj : j = t - 1
      · subst hj
        rw [← c1 _ (by omega), ← e1]
        omega
      · exact c4 j (by omega) h2
  · refine ⟨by omega, fun near' en => ⟨ha, fun v1 e1 r1 => ⟨ha, ?_⟩⟩⟩
    rw [he] at e1
    subst e1
    refine ⟨by omega, fun nearEnd' ee => ?_⟩
    subst ee
    have n1 : ∀ j, j < t → near' j = near j := fun j hj => by rw [en, upZ_n _ _ (by omega)]; exact c1 j hj
    have n2 : near' t = x := by rw [en, upZ_s]
    have n3 : ∀ j, t < j → j ≤ 8 * a + k → near' j = near (j - 1) := fun j h1 h2 => by rw [en, upZ_n _ _ (by omega)]; exact c2 j h1 h2
    have lo : ∀ j, 8 * a ≤ j → j < t → near j < x := by
      intro j h1 h2
      rcases hJ with hJ | hJ
      · omega
      · have d := hx (t - 1) (by omega) (by omega)
        by_cases hj : j = t - 1
        · subst hj; omega
        · have := hs j (t - 1) h1 (by omega) (by omega); omega
    refine hp near' ?_ ?_ ?_
    · intro j hj
      rw [en, upZ_n _ _ (by omega)]
      rcases hj with hj | hj
      · exact c1 j (by omega)
      · exact c3 j hj
    · intro i j h1 h2 h3
      rcases Int.lt_trichotomy j t with q | q | q
      · rw [n1 i (by omega), n1 j q]; exact hs i j h1 h2 (by omega)
      · subst q; rw [n1 i h2, n2]; exact lo i h1 h2
      · rw [n3 j q (by omega)]
        rcases Int.lt_trichotomy i t with q2 | q2 | q2
        · rw [n1 i q2]
          have := lo i h1 q2
          have := c4 (j - 1) (by omega) (by omega)
          omega
        · subst q2; rw [n2]; exact c4 (j - 1) (by omega) (by omega)
        · rw [n3 i q2 (by omega)]; exact hs (i - 1) (j - 1) (by omega) (by omega) (by omega)
    · intro y
      constructor
      · rintro ⟨i, h1, h2, rfl⟩
        rcases Int.lt_trichotomy i t with q | q | q
        · exact Or.inl ⟨i, h1, by omega, (n1 i q).symm⟩
        · subst q; exact Or.inr n2
        · exact Or.inl ⟨i - 1, by omega, by omega, (n3 i q (by omega)).symm⟩
      · rintro (⟨i, h1, h2, rfl⟩ | rfl)
        · by_cases q : i < t
          · exact ⟨i, h1, by omega, n1 i q⟩
          · refine ⟨i + 1, by omega, by omega, ?_⟩
            rw [n3 (i + 1) (by omega) (by omega)]
            congr 1
            omega
        · exact ⟨t, t0, by omega, n2⟩
def Got (w h sh a δ0 ε0 y : Int) : Prop := (0 ≤ y ∧ y < w * h) ∧ ∃ δ ε : Int, (-1 ≤ δ ∧ δ ≤ 1) ∧ (-1 ≤ ε ∧ ε ≤ 1) ∧ (δ < δ0 ∨ (δ = δ0 ∧ ε < ε0)) ∧ ad1 w h (rgS sh) (cmS sh) (a / w) (a % w) (y / w) (y % w) δ ε
def LK (w h sh a : Int) (cur curEnd : Int → Int) (δ0 ε0 : Int) : Prop := ∃ k, 0 ≤ k ∧ curEnd a = 8 * a + k ∧ Srt cur (8 * a) (8 * a + k) ∧ ∀ y, (∃ i, 8 * a ≤ i ∧ i < 8 * a + k ∧ cur i = y) ↔ Got w h sh a δ0 ε0 y
theorem Got_NB {w h sh a δ0 ε0 y : Int} (q : Got w h sh a δ0 ε0 y) : y ∈ NB w h sh a := by
  obtain ⟨q1, δ, ε, h1, h2, -, q⟩ := q
  refine mem_NB.mpr ⟨q1, ?_⟩
  unfold adj
  exact adR_iff.mpr ⟨δ, ε, h1, h2, q⟩
theorem Got_end {w h sh a y : Int} : Got w h sh a 2 (-1) y ↔ y ∈ NB w h sh a := by
  refine ⟨Got_NB, fun q => ?_⟩
  obtain ⟨q1, q⟩ := mem_NB.mp q
  unfold adj at q
  obtain ⟨δ, ε, h1, h2, q⟩ := adR_iff.mp q
  exact ⟨q1, δ, ε, h1, h2, Or.inl (by omega), q⟩
theorem Got_row {w h sh a δ0 y : Int} : Got w h sh a δ0 2 y ↔ Got w h sh a (δ0 + 1) (-1) y := by
  constructor
  · rintro ⟨q1, δ, ε, h1, h2, h3, q⟩
    exact ⟨q1, δ, ε, h1, h2, by omega, q⟩
  · rintro ⟨q1, δ, ε, h1, h2, h3, q⟩
    exact ⟨q1, δ, ε, h1, h2, by omega, q⟩
theorem LK_le {w h sh a δ0 ε0 x : Int} {cur : Int → Int} {k : Int} (ok : okB w h sh) (ha : 0 ≤ a ∧ a < w * h) (hk : 0 ≤ k) (hs : Srt cur (8 * a) (8 * a + k)) (hm : ∀ y, (∃ i, 8 * a ≤ i ∧ i < 8 * a + k ∧ cur i = y) ↔ Got w h sh a δ0 ε0 y) (hx : x ∈ NB w h sh a) (hn : ∀ i, 8 * a ≤ i → i < 8 * a + k → cur i ≠ x) : k < 8 := by
  obtain ⟨n, rfl⟩ : ∃ n : Nat, k = n := ⟨k.toNat, by omega⟩
  have l1 : (x :: seg cur (8 * a) n).Nodup := List.nodup_cons.mpr ⟨fun q => by
    obtain ⟨i, h1, h2, h3⟩ := mem_seg.mp q
    exact hn i h1 h2 h3, pw_nodup hs.pw⟩
  have l2 : (x :: seg cur (8 * a) n) ⊆ NB w h sh a := by
    intro y hy
    rcases List.mem_cons.mp hy with rfl | hy
    · exact hx
    · exact Got_NB ((hm y).mp (mem_seg.mp hy))
  have := l1.length_le_of_subset l2
  have := NB_len ok ha
  simp only [List.length_cons, seg_len] at *
  omega
theorem LK_le8 {w h sh a δ0 ε0 : Int} {cur : Int → Int} {k : Int} (ok : okB w h sh) (ha : 0 ≤ a ∧ a < w * h) (hk : 0 ≤ k) (hs : Srt cur (8 * a) (8 * a + k)) (hm : ∀ y, (∃ i, 8 * a ≤ i ∧ i < 8 * a + k ∧ cur i = y) ↔ Got w h sh a δ0 ε0 y) : k ≤ 8 := by
  obtain ⟨n, rfl⟩ : ∃ n : Nat, k = n := ⟨k.toNat, by omega⟩
  have l2 : seg cur (8 * a) n ⊆ NB w h sh a := by
    intro y hy
    exact Got_NB ((hm y).mp (mem_seg.mp hy))
  have := (pw_nodup hs.pw).length_le_of_subset l2
  have := NB_len ok ha
  rw [seg_len] at *
  omega
theorem LK_end {w h sh a : Int} {cur curEnd : Int → Int} (q : LK w h sh a cur curEnd 2 (-1)) : curEnd a = 8 * a + (NB w h sh a).length ∧ seg cur (8 * a) (NB w h sh a).length = NB w h sh a := by
  obtain ⟨k, hk, he, hs, hm⟩ := q
  obtain ⟨n, rfl⟩ : ∃ n : Nat, k = n := ⟨k.toNat, by omega⟩
  have e : seg cur (8 * a) n = NB w h sh a := pw_eq hs.pw NB_pw (fun x => by rw [mem_seg, hm x, Got_end])
  have l : (NB w h sh a).length = n := by rw [← e, seg_len]
  rw [l]
  exact ⟨he, e⟩
