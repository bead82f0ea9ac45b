/-! a cell's neighbours are linked; all cells are -/
theorem Got_same {w h sh a δ0 ε0 y : Int} (hn : ¬ ad1 w h (rgS sh) (cmS sh) (a / w) (a % w) (y / w) (y % w) δ0 ε0) : Got w h sh a δ0 (ε0 + 1) y ↔ Got w h sh a δ0 ε0 y := by
  constructor
  · rintro ⟨q1, δ, ε, h1, h2, h3, q⟩
    refine ⟨q1, δ, ε, h1, h2, ?_, q⟩
    rcases h3 with h3 | ⟨h3, h4⟩
    · exact Or.inl h3
    · by_cases e : ε = ε0
      · subst h3 e
        exact absurd q hn
      · exact Or.inr ⟨h3, by omega⟩
  · rintro ⟨q1, δ, ε, h1, h2, h3, q⟩
    exact ⟨q1, δ, ε, h1, h2, by omega, q⟩
theorem Got_more {w h sh a δ0 ε0 y z : Int} (h1 : -1 ≤ δ0 ∧ δ0 ≤ 1) (h2 : -1 ≤ ε0 ∧ ε0 ≤ 1) (hz : 0 ≤ z ∧ z < w * h) (hq : ad1 w h (rgS sh) (cmS sh) (a / w) (a % w) (z / w) (z % w) δ0 ε0) (hu : ∀ y, (0 ≤ y ∧ y < w * h) → ad1 w h (rgS sh) (cmS sh) (a / w) (a % w) (y / w) (y % w) δ0 ε0 → y = z) : Got w h sh a δ0 (ε0 + 1) y ↔ Got w h sh a δ0 ε0 y ∨ y = z := by
  constructor
  · rintro ⟨q1, δ, ε, k1, k2, k3, q⟩
    by_cases e : δ = δ0 ∧ ε = ε0
    · obtain ⟨rfl, rfl⟩ := e
      exact Or.inr (hu y q1 q)
    · exact Or.inl ⟨q1, δ, ε, k1, k2, by omega, q⟩
  · rintro (⟨q1, δ, ε, k1, k2, k3, q⟩ | rfl)
    · exact ⟨q1, δ, ε, k1, k2, by omega, q⟩
    · exact ⟨hz, δ0, ε0, h1, h2, Or.inr ⟨rfl, by omega⟩, hq⟩
/-- one step of linking: from the row of neighbours so far to the next one -/
theorem LK_skip {w h sh a δ0 ε0 : Int} {cur curEnd : Int → Int} (q : LK w h sh a cur curEnd δ0 ε0) (hn : ∀ y, (0 ≤ y ∧ y < w * h) → ¬ ad1 w h (rgS sh) (cmS sh) (a / w) (a % w) (y / w) (y % w) δ0 ε0) : LK w h sh a cur curEnd δ0 (ε0 + 1) := by
  obtain ⟨k, hk, he, hs, hm⟩ := q
  refine ⟨k, hk, he, hs, fun y => ?_⟩
  rw [hm y]
  constructor
  · intro g; exact (Got_same (hn y g.1)).mpr g
  · intro g; exact (Got_same (hn y g.1)).mp g
theorem s_linkAdd {w h sh a δ0 ε0 : Int} {cur curEnd : Int → Int} {post : (Int → Int) → (Int → Int) → Prop} (ok : okB w h sh) (ha : 0 ≤ a ∧ a < w * h) (h1 : -1 ≤ δ0 ∧ δ0 ≤ 1) (h2 : -1 ≤ ε0 ∧ ε0 ≤ 1) (hr : rch (a / w) δ0 ε0 (cmS sh)) (hin : rgS sh = 1 ∨ (0 ≤ a / w + δ0 ∧ a / w + δ0 < h ∧ 0 ≤ a % w + ε0 ∧ a % w + ε0 < w))
    (q : LK w h sh a cur curEnd δ0 ε0) (hp : ∀ cur' curEnd', (∀ j, j < 8 * a ∨ 8 * a + 8 ≤ j → cur' j = cur j) → (∀ b, b ≠ a → curEnd' b = curEnd b) → LK w h sh a cur' curEnd' δ0 (ε0 + 1) → post cur' curEnd') : P_X3_addNear post cur curEnd a (stp w h (rgS sh) (a / w) (a % w) δ0 ε0) := by
  obtain ⟨w0, w1, h0, h3, s0, s1, s2⟩ := id ok
  obtain ⟨i1, i2, i3, i4⟩ := dm_in (by omega) ha.1 ha.2
  obtain ⟨v1, v2, v3⟩ := vr_wz (ring := rgS sh) (δ := δ0) h0 h1 ⟨i1, i2⟩ (by omega)
  obtain ⟨u1, u2, u3⟩ := vr_wz (ring := rgS sh) (δ := ε0) w0 h2 ⟨i3, i4⟩ (by omega)
  have hz := rc_lt v2 v3 u2 u3
  have d1 : stp w h (rgS sh) (a / w) (a % w) δ0 ε0 / w = wz (rgS sh) h (a / w + δ0) := rc_div (by omega) u2 u3
  have d2 : stp w h (rgS sh) (a / w) (a % w) δ0 ε0 % w = wz (rgS sh) w (a % w + ε0) := rc_mod u2 u3
  have hq : ad1 w h (rgS sh) (cmS sh) (a / w) (a % w) (stp w h (rgS sh) (a / w) (a % w) δ0 ε0 / w) (stp w h (rgS sh) (a / w) (a % w) δ0 ε0 % w) δ0 ε0 := by
    rw [d1, d2]
    exact ⟨hr, v1, u1⟩
  have hu : ∀ y, (0 ≤ y ∧ y < w * h) → ad1 w h (rgS sh) (cmS sh) (a / w) (a % w) (y / w) (y % w) δ0 ε0 → y = stp w h (rgS sh) (a / w) (a % w) δ0 ε0 := by
    intro y hy q
    obtain ⟨j1, j2, j3, j4⟩ := dm_in (by omega) hy.1 hy.2
    unfold stp
    rw [← wz_of h0 h1 ⟨i1, i2⟩ ⟨j1, j2⟩ q.2.1, ← wz_of w0 h2 ⟨i3, i4⟩ ⟨j3, j4⟩ q.2.2]
    exact dm_rc
  obtain ⟨k, hk, he, hs, hm⟩ := q
  have hnew : ∀ i, 8 * a ≤ i → i < 8 * a + k → cur i ≠ stp w h (rgS sh) (a / w) (a % w) δ0 ε0 := by
    intro i k1 k2 e
    obtain ⟨-, δ, ε, g1, g2, g3, g⟩ := (hm _).mp ⟨i, k1, k2, e⟩
    have e1 := vr_uniq h0 g1 h1 ⟨i1, i2⟩ (by rw [d1]; exact ⟨v2, v3⟩) g.2.1 hq.2.1
    have e2 := vr_uniq w0 g2 h2 ⟨i3, i4⟩ (by rw [d2]; exact ⟨u2, u3⟩) g.2.2 hq.2.2
    omega
  have hnb : stp w h (rgS sh) (a / w) (a % w) δ0 ε0 ∈ NB w h sh a := mem_NB.mpr ⟨hz, adR_iff.mpr ⟨δ0, ε0, h1, h2, hq⟩⟩
  have hlt := LK_le ok ha hk hs hm hnb hnew
  have := wh_le ok
  refine s_addNear (k := k) ⟨ha.1, by omega⟩ ⟨hk, hlt⟩ he hs hnew (fun near' n1 n2 n3 => ?_)
  refine hp near' _ (fun j hj => n1 j (by omega)) (fun b hb => upZ_n _ _ hb) ⟨k + 1, by omega, ?_, ?_, fun y => ?_⟩
  · rw [upZ_s]; omega
  · rw [show 8 * a + (k + 1) = 8 * a + k + 1 by omega]; exact n2
  · rw [show 8 * a + (k + 1) = 8 * a + k + 1 by omega, n3 y, hm y]
    exact (Got_more h1 h2 hz hq hu).symm
theorem s_link {w h sh r c : Int} {near nearEnd : Int → Int} {comb ring : Int} {post : (Int → Int) → (Int → Int) → Prop} (ok : okB w h sh) (hr : 0 ≤ r ∧ r < h) (hc : 0 ≤ c ∧ c < w) (hcomb : comb = cmS sh) (hring : ring = rgS sh)
    (hp : ∀ near' nearEnd', (∀ j, j < 8 * (r * w + c) ∨ 8 * (r * w + c) + 8 ≤ j → near' j = near j) → (∀ b, b ≠ r * w + c → nearEnd' b = nearEnd b) → nearEnd' (r * w + c) = 8 * (r * w + c) + (NB w h sh (r * w + c)).length → seg near' (8 * (r * w + c)) (NB w h sh (r * w + c)).length = NB w h sh (r * w + c) → post near' nearEnd') : P_X3_link post w h near nearEnd r c comb ring := by
  subst hcomb hring
  have ha := rc_lt hr.1 hr.2 hc.1 hc.2
  have hle := wh_le ok
  obtain ⟨w0, w1, h0, h3, s0, s1, s2⟩ := id ok
  have d1 : (r * w + c) / w = r := rc_div (by omega) hc.1 hc.2
  have d2 : (r * w + c) % w = c := rc_mod hc.1 hc.2
  generalize hA : r * w + c = a at *
  unfold P_X3_link
  refine s_cell (by omega) ?_
  rw [hA]
  intro _
  refine ⟨⟨by omega, by omega⟩, by omega, fun ne0 ene0 => ?_⟩
  refine ⟨fun n x6 cur curEnd => n = (2 - x6).toNat ∧ -1 ≤ x6 ∧ x6 ≤ 2 ∧ LK w h sh a cur curEnd x6 (-1) ∧ (∀ j, j < 8 * a ∨ 8 * a + 8 ≤ j → cur j = near j) ∧ (∀ b, b ≠ a → curEnd b = nearEnd b), ⟨_, rfl, by omega, by omega, ⟨0, by omega, by rw [ene0, upZ_s]; omega, fun i j _ _ _ => by omega, fun y => ⟨fun ⟨i, h1, h2, _⟩ => by omega, fun ⟨_, δ, ε, g1, g2, g3, _⟩ => by omega⟩⟩, fun _ _ => rfl, fun b hb => by rw [ene0, upZ_n _ _ hb]⟩, ?_⟩
  rintro n x6 cur curEnd rx6 ⟨rfl, b1, b2, lk, f1, f2⟩
  refine ⟨fun q => ?_, fun q => ?_⟩
  · have e : x6 = 2 := by omega
    subst e
    obtain ⟨g1, g2⟩ := LK_end lk
    exact hp cur curEnd f1 f2 g1 g2
  · refine ⟨fun n x7 cur curEnd => n = (2 - x7).toNat ∧ -1 ≤ x7 ∧ x7 ≤ 2 ∧ LK w h sh a cur curEnd x6 x7 ∧ (∀ j, j < 8 * a ∨ 8 * a + 8 ≤ j → cur j = near j) ∧ (∀ b, b ≠ a → curEnd b = nearEnd b), ⟨_, rfl, by omega, by omega, lk, f1, f2⟩, ?_⟩
    rintro n x7 cur curEnd rx7 ⟨rfl, c1, c2, lk, f1, f2⟩
    refine ⟨fun q7 => ⟨by omega, fun x62 e62 => ⟨_, ?_, rfl, by omega, by omega, ?_, f1, f2⟩⟩, fun q7 => ?_⟩
    · omega
    · have e : x7 = 2 := by omega
      subst e e62
      obtain ⟨k, hk, he, hs, hm⟩ := lk
      exact ⟨k, hk, he, hs, fun y => by rw [hm y, Got_row]⟩
    · have next : ∀ cur2 curEnd2, LK w h sh a cur2 curEnd2 x6 (x7 + 1) → (∀ j, j < 8 * a ∨ 8 * a + 8 ≤ j → cur2 j = near j) → (∀ b, b ≠ a → curEnd2 b = nearEnd b) → (inR (x7 + 1) ∧ ∀ x7_32 : Int, x7_32 = x7 + 1 → ∃ n_33 : Nat, n_33 < (2 - x7).toNat ∧ (n_33 = (2 - x7_32).toNat ∧ -1 ≤ x7_32 ∧ x7_32 ≤ 2 ∧ LK w h sh a cur2 curEnd2 x6 x7_32 ∧ (∀ j, j < 8 * a ∨ 8 * a + 8 ≤ j → cur2 j = near j) ∧ (∀ b, b ≠ a → curEnd2 b = nearEnd b))) := by
        intro cur2 curEnd2 k1 k2 k3
        refine ⟨by omega, fun z ez => ⟨(2 - z).toNat, by omega, rfl, by omega, by omega, ?_, k2, k3⟩⟩
        subst ez
        exact k1
      refine s_reaches hr.1 (fun hre _ => exJ2 ⟨fun _ => ⟨fun hrg => ⟨by omega, by omega, s_has (fun hin _ => ⟨fun z => absurd z (by omega), fun _ => ?_⟩) (fun hout _ => ⟨fun _ => ?_, fun z => absurd rfl z⟩)⟩, fun hrg => ⟨by omega, s_wrap (by omega) (by omega) (fun _ => ⟨by omega, s_wrap (by omega) (by omega) (fun _ => ?_)⟩)⟩⟩, fun z => absurd z (by omega)⟩) (fun hre _ => exJ2 ⟨fun z => absurd rfl z, fun _ => ?_⟩)
      · have g := rc_lt hin.1 hin.2.1 hin.2.2.1 hin.2.2.2
        refine s_cell (by omega) (fun _ => ?_)
        have e : (r + x6) * w + (c + x7) = stp w h (rgS sh) (a / w) (a % w) x6 x7 := by
          unfold stp wz
          rw [if_neg (by omega), if_neg (by omega), d1, d2]
        rw [e]
        exact s_linkAdd ok ha (by omega) (by omega) (by rw [d1]; exact hre) (Or.inr (by rw [d1, d2]; exact hin)) lk (fun cur' curEnd' k1 k2 k3 => next cur' curEnd' k3 (fun j hj => by rw [k1 j hj, f1 j hj]) (fun b hb => by rw [k2 b hb, f2 b hb]))
      · refine next _ _ (LK_skip lk (fun y hy g => hout ?_)) f1 f2
        obtain ⟨j1, j2, j3, j4⟩ := dm_in (by omega) hy.1 hy.2
        rw [d1, d2] at g
        obtain ⟨-, g1, g2⟩ := g
        have g1 : y / w = r + x6 := by
          rcases g1 with g1 | ⟨g1, -⟩
          · exact g1
          · omega
        have g2 : y % w = c + x7 := by
          rcases g2 with g2 | ⟨g2, -⟩
          · exact g2
          · omega
        omega
      · have hrg1 : rgS sh = 1 := by
          have : sh % 2 = 0 ∨ sh % 2 = 1 := Int.emod_two_eq sh
          rcases this with e | e
          · exact absurd e hrg
          · exact e
        obtain ⟨v1, v2, v3⟩ := vr_wz (ring := 1) (δ := x6) (x := r) h0 (by omega) hr (Or.inl rfl)
        obtain ⟨u1, u2, u3⟩ := vr_wz (ring := 1) (δ := x7) (x := c) w0 (by omega) hc (Or.inl rfl)
        have g := rc_lt v2 v3 u2 u3
        refine s_cell (by omega) (fun _ => ?_)
        have e : wz 1 h (r + x6) * w + wz 1 w (c + x7) = stp w h (rgS sh) (a / w) (a % w) x6 x7 := by
          unfold stp
          rw [hrg1, d1, d2]
        rw [e]
        exact s_linkAdd ok ha (by omega) (by omega) (by rw [d1]; exact hre) (Or.inl hrg1) lk (fun cur' curEnd' k1 k2 k3 => next cur' curEnd' k3 (fun j hj => by rw [k1 j hj, f1 j hj]) (fun b hb => by rw [k2 b hb, f2 b hb]))
      · refine next _ _ (LK_skip lk (fun y hy g => hre ?_)) f1 f2
        rw [d1] at g
        exact g.1
/-- the rows of neighbours as the class keeps them -/
def GeoD (w h sh : Int) (near nearEnd : Int → Int) : Prop := ∀ a, 0 ≤ a → a < w * h → nearEnd a = 8 * a + (NB w h sh a).length ∧ seg near (8 * a) (NB w h sh a).length = NB w h sh a
theorem s_lay {w h sh : Int} {gw gh gs : Int} {near nearEnd : Int → Int} {post : Int → Int → Int → (Int → Int) → (Int → Int) → Prop} (ok : okB w h sh) (hp : ∀ near' nearEnd', GeoD w h sh near' nearEnd' → post w h (w * h) near' nearEnd') : P_X3_lay post gw gh gs near nearEnd w h sh := by
  have hle := wh_le ok
  have hge := wh_ge ok
  obtain ⟨w0, w1, h0, h3, s0, s1, s2⟩ := id ok
  unfold P_X3_lay
  refine ⟨by omega, fun sz esz => ?_⟩
  refine ⟨fun z => z = rgS sh, ⟨(sh = 1 ∨ sh = 3), ⟨fun q => Or.inl q, fun q => ⟨fun q2 => ?_, fun q2 => Or.inr q2⟩⟩, fun q => ?_⟩, fun z rz ez => ?_⟩
  · show (0 : Int) = sh % 2
    omega
  · show (1 : Int) = sh % 2
    omega
  · subst ez
    refine ⟨fun n x5 cur curEnd => n = (h - x5).toNat ∧ 0 ≤ x5 ∧ x5 ≤ h ∧ ∀ a, 0 ≤ a → a < x5 * w → curEnd a = 8 * a + (NB w h sh a).length ∧ seg cur (8 * a) (NB w h sh a).length = NB w h sh a, ⟨_, rfl, by omega, by omega, fun a h1 h2 => by omega⟩, ?_⟩
    rintro n x5 cur curEnd r5 ⟨rfl, b1, b2, g⟩
    refine ⟨fun q => ?_, fun q => ?_⟩
    · have e : x5 = h := by omega
      subst e esz
      exact hp cur curEnd (fun a h1 h2 => g a h1 (by rw [Int.mul_comm]; exact h2))
    · refine ⟨fun n x6 cur curEnd => n = (w - x6).toNat ∧ 0 ≤ x6 ∧ x6 ≤ w ∧ ∀ a, 0 ≤ a → a < x5 * w + x6 → curEnd a = 8 * a + (NB w h sh a).length ∧ seg cur (8 * a) (NB w h sh a).length = NB w h sh a, ⟨_, rfl, by omega, by omega, fun a h1 h2 => g a h1 (by omega)⟩, ?_⟩
      rintro n x6 cur curEnd r6 ⟨rfl, c1, c2, g⟩
      refine ⟨fun q6 => ⟨by omega, fun x52 e52 => ⟨(h - x52).toNat, by omega, rfl, by omega, by omega, fun a h1 h2 => g a h1 ?_⟩⟩, fun q6 => ?_⟩
      · subst e52
        rw [Int.add_mul] at h2
        omega
      · refine s_isComb (fun _ => ⟨?_, s_link ok ⟨b1, by omega⟩ ⟨c1, by omega⟩ rfl rfl (fun near' nearEnd' k1 k2 k3 k4 => ⟨by omega, fun x62 e62 => ⟨(w - x62).toNat, by omega, rfl, by omega, by omega, fun a h1 h2 => ?_⟩⟩)⟩)
        · show sh % 2 = 0 ∨ sh % 2 = 1
          omega
        · subst e62
          by_cases ea : a = x5 * w + x6
          · subst ea
            exact ⟨k3, k4⟩
          · obtain ⟨g1, g2⟩ := g a h1 (by omega)
            refine ⟨by rw [k2 a ea]; exact g1, ?_⟩
            have hl := NB_len ok (a := a) ⟨h1, by have := rc_lt (h := h) b1 (by omega) c1 (by omega : x6 < w); omega⟩
            rw [← g2, seg_len]
            exact seg_congr (fun i hi => k1 _ (by omega))
