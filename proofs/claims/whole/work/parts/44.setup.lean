/-! the reference's rows of neighbours -/
abbrev tch (sh r c s d : Int) : Prop := ¬ (r = s ∧ c = d) ∧ r - 1 ≤ s ∧ s ≤ r + 1 ∧ ((sh < 2 ∧ c - 1 ≤ d ∧ d ≤ c + 1) ∨ (2 ≤ sh ∧ ((r = s ∧ (d = c - 1 ∨ d = c + 1)) ∨ (¬ r = s ∧ (d = c ∨ (r % 2 = 0 ∧ d = c - 1) ∨ (¬ r % 2 = 0 ∧ d = c + 1))))))
theorem s_within {post : Int → Prop} {v lo hi : Int} (h1 : lo ≤ v ∧ v ≤ hi → post 1) (h0 : ¬ (lo ≤ v ∧ v ≤ hi) → post 0) : P_X12_within post v lo hi := by
  unfold P_X12_within
  repeat' (first | refine exJi ?_ | refine exJ0 ?_ | refine And.intro ?_ ?_ | intro _)
  all_goals first | omega | exact h1 (by omega) | exact h0 (by omega)
theorem s_touch {post : Int → Prop} {sh r c s d : Int} (hr : 0 ≤ r ∧ r < 1000) (hc : 0 ≤ c ∧ c < 1000) (h1 : tch sh r c s d → post 1) (h0 : ¬ tch sh r c s d → post 0) : P_X12_touch post sh r c s d := by
  have e : r.tmod 2 = r % 2 := Int.tmod_eq_emod_of_nonneg hr.1
  unfold P_X12_touch P_X12_within
  repeat' (first | refine exJi ?_ | refine exJ0 ?_ | refine And.intro ?_ ?_ | intro _)
  all_goals first | omega | exact h1 (by omega) | exact h0 (by omega)
theorem tch_iff {sh r c s d : Int} : tch sh r c s d ↔ (-1 ≤ s - r ∧ s - r ≤ 1) ∧ (-1 ≤ d - c ∧ d - c ≤ 1) ∧ rch r (s - r) (d - c) (cmS sh) := by
  by_cases h : 2 ≤ sh
  · rw [show cmS sh = 1 from if_pos h]
    constructor
    · intro q; refine ⟨by omega, by omega, by omega, by omega⟩
    · intro q; omega
  · rw [show cmS sh = 0 from if_neg h]
    constructor
    · intro q; refine ⟨by omega, by omega, by omega, by omega⟩
    · intro q; omega
/-- the nine pictures of a cell on a ring -/
abbrev pic (sh w h r c s d k : Int) : Prop := tch sh r c (s + (k / 3 - 1) * h) (d + (k % 3 - 1) * w)
theorem pic_adR {sh w h r c s d : Int} : (∃ k : Int, 0 ≤ k ∧ k < 9 ∧ pic sh w h r c s d k) ↔ adR w h 1 (cmS sh) r c s d := by
  rw [adR_iff]
  constructor
  · rintro ⟨k, k0, k1, q⟩
    obtain ⟨q1, q2, q3⟩ := tch_iff.mp q
    refine ⟨_, _, q1, q2, q3, ?_, ?_⟩
    · rcases (show k / 3 - 1 = -1 ∨ k / 3 - 1 = 0 ∨ k / 3 - 1 = 1 by omega) with e | e | e
      · rw [e]; exact Or.inr ⟨rfl, Or.inl (by omega)⟩
      · rw [e]; exact Or.inl (by omega)
      · rw [e]; exact Or.inr ⟨rfl, Or.inr (by omega)⟩
    · rcases (show k % 3 - 1 = -1 ∨ k % 3 - 1 = 0 ∨ k % 3 - 1 = 1 by omega) with e | e | e
      · rw [e]; exact Or.inr ⟨rfl, Or.inl (by omega)⟩
      · rw [e]; exact Or.inl (by omega)
      · rw [e]; exact Or.inr ⟨rfl, Or.inr (by omega)⟩
  · rintro ⟨δ, ε, h1, h2, h3, h4, h5⟩
    obtain ⟨i, i0, i1, ei⟩ : ∃ i : Int, -1 ≤ i ∧ i ≤ 1 ∧ s + i * h = r + δ := by
      rcases h4 with h4 | ⟨-, h4 | h4⟩
      · exact ⟨0, by omega, by omega, by omega⟩
      · exact ⟨-1, by omega, by omega, by omega⟩
      · exact ⟨1, by omega, by omega, by omega⟩
    obtain ⟨j, j0, j1, ej⟩ : ∃ j : Int, -1 ≤ j ∧ j ≤ 1 ∧ d + j * w = c + ε := by
      rcases h5 with h5 | ⟨-, h5 | h5⟩
      · exact ⟨0, by omega, by omega, by omega⟩
      · exact ⟨-1, by omega, by omega, by omega⟩
      · exact ⟨1, by omega, by omega, by omega⟩
    refine ⟨3 * (i + 1) + (j + 1), by omega, by omega, ?_⟩
    show tch sh r c (s + ((3 * (i + 1) + (j + 1)) / 3 - 1) * h) (d + ((3 * (i + 1) + (j + 1)) % 3 - 1) * w)
    rw [show (3 * (i + 1) + (j + 1)) / 3 - 1 = i by omega, show (3 * (i + 1) + (j + 1)) % 3 - 1 = j by omega, ei, ej]
    refine tch_iff.mpr ⟨by omega, by omega, ?_⟩
    rw [show r + δ - r = δ by omega, show c + ε - c = ε by omega]
    exact h3
theorem tch_adR {sh w h r c s d : Int} : tch sh r c s d ↔ adR w h 0 (cmS sh) r c s d := by
  rw [adR_iff, tch_iff]
  constructor
  · rintro ⟨q1, q2, q3⟩
    exact ⟨_, _, q1, q2, q3, Or.inl (by omega), Or.inl (by omega)⟩
  · rintro ⟨δ, ε, h1, h2, h3, h4, h5⟩
    have e1 : s = r + δ := by
      rcases h4 with h4 | ⟨h4, -⟩
      · exact h4
      · omega
    have e2 : d = c + ε := by
      rcases h5 with h5 | ⟨h5, -⟩
      · exact h5
      · omega
    rw [show s - r = δ by omega, show d - c = ε by omega]
    exact ⟨h1, h2, h3⟩
theorem mul3 {i h : Int} (h1 : -1 ≤ i ∧ i ≤ 1) (h2 : 0 ≤ h ∧ h ≤ 12) : -12 ≤ i * h ∧ i * h ≤ 12 := by
  rcases (show i = -1 ∨ i = 0 ∨ i = 1 by omega) with e | e | e <;> subst e <;> omega
theorem s_areNearM {post : Int → Prop} {w h sh a b : Int} (ok : okB w h sh) (ha : 0 ≤ a ∧ a < w * h) (hb : 0 ≤ b ∧ b < w * h) (h1 : b ∈ NB w h sh a → post 1) (h0 : ¬ b ∈ NB w h sh a → post 0) : P_X12_areNear post w h sh a b := by
  obtain ⟨w0, w1, hh0, hh3, s0, s1, s2⟩ := id ok
  have hle := wh_le ok
  obtain ⟨i1, i2, i3, i4⟩ := dm_in (w := w) (by omega) ha.1 ha.2
  obtain ⟨j1, j2, j3, j4⟩ := dm_in (w := w) (by omega) hb.1 hb.2
  have e1 : a.tdiv w = a / w := Int.tdiv_eq_ediv_of_nonneg ha.1
  have e2 : a.tmod w = a % w := Int.tmod_eq_emod_of_nonneg ha.1
  have e3 : b.tdiv w = b / w := Int.tdiv_eq_ediv_of_nonneg hb.1
  have e4 : b.tmod w = b % w := Int.tmod_eq_emod_of_nonneg hb.1
  have e5 : sh.tmod 2 = sh % 2 := Int.tmod_eq_emod_of_nonneg s0
  unfold P_X12_areNear
  rw [e1, e2, e3, e4, e5]
  refine ⟨by omega, by omega, fun r er => ⟨by omega, by omega, fun c ec => ⟨by omega, fun hrg => ?_, fun hrg => ⟨by omega, by omega, by omega, by omega, ?_⟩⟩⟩⟩
  · have hrg1 : rgS sh = 1 := by
      show sh % 2 = 1
      omega
    refine ⟨fun n x5 x6 => n = (9 - x6).toNat ∧ 0 ≤ x6 ∧ x6 ≤ 9 ∧ (x5 = 0 ∨ x5 = 1) ∧ (x5 = 1 ↔ ∃ k : Int, 0 ≤ k ∧ k < x6 ∧ pic sh w h r c (b / w) (b % w) k), ⟨_, rfl, by omega, by omega, Or.inl rfl, by constructor <;> (intro q; first | (obtain ⟨k, k0, k1, _⟩ := q; omega) | omega)⟩, ?_⟩
    rintro n x5 x6 r5 r6 ⟨rfl, b1, b2, b3, b4⟩
    refine ⟨fun q => ?_, fun q => ?_⟩
    · have e : x6 = 9 := by omega
      subst e
      have fin : b ∈ NB w h sh a ↔ x5 = 1 := by
        rw [b4, mem_NB, pic_adR, er, ec]
        unfold adj
        rw [hrg1]
        exact ⟨fun z => z.2, fun z => ⟨hb, z⟩⟩
      refine exJi ⟨(x5 = 0 ∨ a = b), ⟨fun z => Or.inl z, fun z => ⟨fun z2 => Or.inr z2, fun z2 _ => ⟨by omega, h1 (fin.mpr (by omega))⟩⟩⟩, fun z _ => ⟨by omega, h0 (fun hm => ?_)⟩⟩
      rcases z with z | z
      · have := fin.mp hm
        omega
      · exact NB_ne ok ha hm z.symm
    · have f1 : x6.tdiv 3 = x6 / 3 := Int.tdiv_eq_ediv_of_nonneg b1
      have f2 : x6.tmod 3 = x6 % 3 := Int.tmod_eq_emod_of_nonneg b1
      rw [f1, f2]
      have g1 := mul3 (i := x6 / 3 - 1) (h := h) (by omega) (by omega)
      have g2 := mul3 (i := x6 % 3 - 1) (h := w) (by omega) (by omega)
      have step : ∀ z : Int, (z = 0 ∨ z = 1) → (z = 1 ↔ x5 = 1 ∨ pic sh w h r c (b / w) (b % w) x6) → (inR (x6 + 1) ∧ ∀ x6_32 : Int, x6_32 = x6 + 1 → ∃ n_33 : Nat, n_33 < (9 - x6).toNat ∧ (n_33 = (9 - x6_32).toNat ∧ 0 ≤ x6_32 ∧ x6_32 ≤ 9 ∧ (z = 0 ∨ z = 1) ∧ (z = 1 ↔ ∃ k : Int, 0 ≤ k ∧ k < x6_32 ∧ pic sh w h r c (b / w) (b % w) k))) := by
        intro z hz hz2
        refine ⟨by omega, fun y ey => ⟨(9 - y).toNat, by omega, rfl, by omega, by omega, hz, ?_⟩⟩
        subst ey
        rw [hz2, b4]
        constructor
        · rintro (⟨k, k0, k1, k2⟩ | k2)
          · exact ⟨k, k0, by omega, k2⟩
          · exact ⟨x6, b1, by omega, k2⟩
        · rintro ⟨k, k0, k1, k2⟩
          by_cases e : k = x6
          · subst e; exact Or.inr k2
          · exact Or.inl ⟨k, k0, by omega, k2⟩
      refine exJi ⟨(x5 = 1 ∨ pic sh w h r c (b / w) (b % w) x6), ⟨fun z => Or.inl (by omega), fun z => ⟨by omega, by omega, by omega, by omega, ?_⟩⟩, fun z _ => step 1 (Or.inr rfl) ⟨fun _ => z, fun _ => rfl⟩⟩
      subst er ec
      refine s_touch (by omega) (by omega) (fun t _ => ⟨fun y => absurd y (by omega), fun _ => Or.inr t⟩) (fun t _ => ⟨fun _ _ => step 0 (Or.inl rfl) ⟨fun y => absurd y (by omega), fun y => ?_⟩, fun y => absurd rfl y⟩)
      rcases y with y | y
      · omega
      · exact absurd y t
  · subst er ec
    have fin : b ∈ NB w h sh a ↔ tch sh (a / w) (a % w) (b / w) (b % w) := by
      rw [mem_NB, tch_adR (w := w) (h := h)]
      unfold adj
      rw [show rgS sh = 0 from hrg]
      exact ⟨fun z => z.2, fun z => ⟨hb, z⟩⟩
    exact s_touch (by omega) (by omega) (fun t _ => h1 (fin.mpr t)) (fun t _ => h0 (fun m => t (fin.mp m)))
theorem s_closeAllM {post : (Int → Int) → Prop} {n : Int} {st : Int → Int} (hn : 0 ≤ n ∧ n ≤ 144) (hp : ∀ st' : Int → Int, (∀ c, 0 ≤ c → c < n → st' c = 0) → (∀ c, n ≤ c → st' c = st c) → post st') : P_X12_closeAll post n st := by
  unfold P_X12_closeAll
  refine ⟨fun m x cur => m = (n - x).toNat ∧ 0 ≤ x ∧ x ≤ n ∧ (∀ c, 0 ≤ c → c < x → cur c = 0) ∧ (∀ c, x ≤ c → cur c = st c), ⟨_, rfl, by omega, by omega, fun c h1 h2 => by omega, fun _ _ => rfl⟩, ?_⟩
  rintro m x cur rx ⟨rfl, b1, b2, b3, b4⟩
  refine ⟨fun q => hp cur (fun c h1 h2 => b3 c h1 (by omega)) (fun c h => b4 c (by omega)), fun q => ⟨by omega, fun cur2 e => ⟨by omega, fun x2 ex => ⟨(n - x2).toNat, by omega, rfl, by omega, by omega, fun c h1 h2 => ?_, fun c h => ?_⟩⟩⟩⟩
  · by_cases ec : c = x
    · subst ec; rw [e, upZ_s]
    · rw [e, upZ_n _ _ ec]; exact b3 c h1 (by omega)
  · rw [e, upZ_n _ _ (by omega)]; exact b4 c (by omega)
theorem cells_succ {n : Int} (h : 0 ≤ n) : cellsL (n + 1) = cellsL n ++ [n] := by
  unfold cellsL
  rw [show (n + 1).toNat = n.toNat + 1 by omega, List.range_succ, List.map_append]
  simp
  omega
theorem cells_split {m n : Int} (h0 : 0 ≤ m) (h : m ≤ n) : ∃ r, cellsL n = cellsL m ++ r := by
  obtain ⟨k, rfl⟩ : ∃ k : Nat, n = m + k := ⟨(n - m).toNat, by omega⟩
  induction k with
  | zero => exact ⟨[], by simp⟩
  | succ k ih =>
    obtain ⟨r, hr⟩ := ih (by omega)
    refine ⟨r ++ [m + k], ?_⟩
    rw [show m + ((k + 1 : Nat) : Int) = m + k + 1 by omega, cells_succ (by omega), hr, List.append_assoc]
/-- the rows of neighbours as the reference keeps them -/
def GeoM (w h sh : Int) (near degree : Int → Int) : Prop := ∀ a, 0 ≤ a → a < w * h → degree a = (NB w h sh a).length ∧ seg near (8 * a) (NB w h sh a).length = NB w h sh a
theorem s_setUp {w h sh : Int} {a1 a2 a3 a4 a5 a6 a7 a8 a9 a10 : Int} {near degree mine st : Int → Int} {post : Int → Int → Int → Int → Int → Int → Int → Int → Int → Int → (Int → Int) → (Int → Int) → (Int → Int) → (Int → Int) → Prop} (ok : okB w h sh)
    (hp : ∀ near' degree' mine' st' : Int → Int, GeoM w h sh near' degree' → (∀ c, 0 ≤ c → c < w * h → mine' c = 0) → (∀ c, 0 ≤ c → c < w * h → st' c = 0) → post w h (w * h) sh 1 3 0 0 0 0 near' degree' mine' st') : P_X12_setUp post a1 a2 a3 a4 a5 a6 a7 a8 a9 a10 near degree mine st w h sh := by
  have hle := wh_le ok
  have hge := wh_ge ok
  unfold P_X12_setUp
  refine ⟨by omega, fun sz esz => ?_⟩
  refine ⟨fun n a near degree mine => n = (w * h - a).toNat ∧ 0 ≤ a ∧ a ≤ w * h ∧ (∀ b, 0 ≤ b → b < a → degree b = (NB w h sh b).length ∧ seg near (8 * b) (NB w h sh b).length = NB w h sh b) ∧ (∀ b, 0 ≤ b → b < a → mine b = 0), ⟨_, rfl, by omega, by omega, fun b h1 h2 => by omega, fun b h1 h2 => by omega⟩, ?_⟩
  rintro n a near degree mine ra ⟨rfl, b1, b2, b3, b4⟩
  subst esz
  refine ⟨fun q => ?_, fun q => ?_⟩
  · have e : a = w * h := by omega
    subst e
    unfold P_X12_noReason
    exact s_closeAllM ⟨by omega, by omega⟩ (fun st' k1 _ => hp near degree mine st' b3 b4 k1)
  · refine ⟨by omega, fun degree2 e2 => ⟨by omega, fun mine2 em => ?_⟩⟩
    refine ⟨fun n b near' degree' => n = (w * h - b).toNat ∧ 0 ≤ b ∧ b ≤ w * h ∧ degree' a = ((cellsL b).filter (adjB w h sh a)).length ∧ seg near' (8 * a) ((cellsL b).filter (adjB w h sh a)).length = (cellsL b).filter (adjB w h sh a) ∧ (∀ b, 0 ≤ b → b < a → degree' b = (NB w h sh b).length ∧ seg near' (8 * b) (NB w h sh b).length = NB w h sh b), ⟨_, rfl, by omega, by omega, by rw [e2, upZ_s]; rfl, rfl, fun b h1 h2 => ⟨by rw [e2, upZ_n _ _ (by omega)]; exact (b3 b h1 h2).1, (b3 b h1 h2).2⟩⟩, ?_⟩
    rintro n b near' degree' rb ⟨rfl, c1, c2, c3, c4, c5⟩
    refine ⟨fun qb => ⟨by omega, fun x ex => ⟨(w * h - x).toNat, by omega, rfl, by omega, by omega, fun b' h1 h2 => ?_, fun b' h1 h2 => ?_⟩⟩, fun qb => ?_⟩
    · have e : b = w * h := by omega
      subst e
      by_cases eb : b' = a
      · subst eb; exact ⟨c3, c4⟩
      · exact c5 b' h1 (by omega)
    · by_cases eb : b' = a
      · subst eb; rw [em, upZ_s]
      · rw [em, upZ_n _ _ eb]; exact b4 b' h1 (by omega)
    · have hcs := cells_succ c1
      have next : ∀ near2 degree2 : Int → Int, degree2 a = ((cellsL (b + 1)).filter (adjB w h sh a)).length → seg near2 (8 * a) ((cellsL (b + 1)).filter (adjB w h sh a)).length = (cellsL (b + 1)).filter (adjB w h sh a) → (∀ b, 0 ≤ b → b < a → degree2 b = (NB w h sh b).length ∧ seg near2 (8 * b) (NB w h sh b).length = NB w h sh b) → (inR (b + 1) ∧ ∀ x5_43 : Int, x5_43 = b + 1 → ∃ n_44 : Nat, n_44 < (w * h - b).toNat ∧ (n_44 = (w * h - x5_43).toNat ∧ 0 ≤ x5_43 ∧ x5_43 ≤ w * h ∧ degree2 a = ((cellsL x5_43).filter (adjB w h sh a)).length ∧ seg near2 (8 * a) ((cellsL x5_43).filter (adjB w h sh a)).length = (cellsL x5_43).filter (adjB w h sh a) ∧ (∀ b, 0 ≤ b → b < a → degree2 b = (NB w h sh b).length ∧ seg near2 (8 * b) (NB w h sh b).length = NB w h sh b))) := by
        intro near2 degree2 k1 k2 k3
        refine ⟨by omega, fun y ey => ⟨(w * h - y).toNat, by omega, rfl, by omega, by omega, ?_, ?_, k3⟩⟩
        · subst ey; exact k1
        · subst ey; exact k2
      refine s_areNearM ok ⟨b1, by omega⟩ ⟨c1, by omega⟩ (fun hm _ => exJ2 ⟨fun z => absurd z (by omega), fun _ => ⟨by omega, fun v ev rv => ?_⟩⟩) (fun hm _ => exJ2 ⟨fun _ => ?_, fun z => absurd rfl z⟩)
      · have hin : adjB w h sh a b = true := adjB_iff.mpr (mem_NB.mp hm).2
        have ef : (cellsL (b + 1)).filter (adjB w h sh a) = (cellsL b).filter (adjB w h sh a) ++ [b] := by
          rw [hcs, List.filter_append, List.filter_cons_of_pos hin]
          rfl
        have hl8 : ((cellsL b).filter (adjB w h sh a)).length + 1 ≤ 8 := by
          obtain ⟨r, hr⟩ := cells_split (m := b + 1) (n := w * h) (by omega) (by omega)
          have := NB_len ok (a := a) ⟨b1, by omega⟩
          unfold NB at this
          rw [hr, List.filter_append, ef] at this
          simp only [List.length_append, List.length_cons, List.length_nil] at this
          omega
        have hlen : ((cellsL (b + 1)).filter (adjB w h sh a)).length = ((cellsL b).filter (adjB w h sh a)).length + 1 := by rw [ef]; simp
        rw [c3] at ev
        subst ev
        refine ⟨by omega, fun near3 e3 => ⟨by omega, fun v2 ev2 rv2 => ⟨by omega, ?_⟩⟩⟩
        rw [c3] at ev2
        subst ev2
        refine ⟨by omega, fun degree3 e4 => next near3 degree3 ?_ ?_ ?_⟩
        · rw [e4, upZ_s, hlen]; omega
        · rw [hlen, seg_succ, ef, e3, upZ_s]
          congr 1
          rw [← c4, seg_len]
          exact seg_congr (fun i hi => upZ_n _ _ (by omega))
        · intro b' h1 h2
          refine ⟨by rw [e4, upZ_n _ _ (by omega)]; exact (c5 b' h1 h2).1, ?_⟩
          have hl := NB_len ok (a := b') ⟨h1, by omega⟩
          rw [← (c5 b' h1 h2).2, seg_len, e3]
          exact seg_congr (fun i hi => upZ_n _ _ (by omega))
      · have hin : ¬ adjB w h sh a b = true := fun z => hm (mem_NB.mpr ⟨⟨c1, by omega⟩, adjB_iff.mp z⟩)
        have ef : (cellsL (b + 1)).filter (adjB w h sh a) = (cellsL b).filter (adjB w h sh a) := by
          rw [hcs, List.filter_append, List.filter_cons_of_neg hin]
          simp
        exact next near' degree' (by rw [ef]; exact c3) (by rw [ef]; exact c4) c5
