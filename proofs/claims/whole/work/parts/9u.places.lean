/-! placements, added up -/
theorem bn_le : ∀ {n : Nat} {k : Int}, bn n k ≤ pw2 n := by
  intro n
  induction n with
  | zero => intro k; show (if k = 0 then (1 : Int) else 0) ≤ 1; split <;> omega
  | succ n ih => intro k; show bn n k + bn n (k - 1) ≤ 2 * pw2 n; have := ih (k := k); have := ih (k := k - 1); omega
theorem bn_zero : ∀ {n : Nat}, bn n 0 = 1 := by
  intro n
  induction n with
  | zero => rfl
  | succ n ih => show bn n 0 + bn n (0 - 1) = 1; rw [ih, bn_neg (by omega)]; rfl
theorem pw144 : pw2 144 * 144 * 1000 * 2 < PB 6 := by decide +kernel
def TrmW (f : Int → Int) (left : Int) (n : Nat) (wt : Int → Int) (k : Int) : Int := f k * (wt (left - k) * bn n (left - k))
def WtOk (wt : Int → Int) : Prop := ∀ j, 0 ≤ j → j ≤ 144 → 0 ≤ wt j ∧ wt j ≤ 144
theorem trm_b {f wt : Int → Int} {left k X : Int} {n : Nat} (hf : 0 ≤ f k ∧ f k ≤ X) (hn : n ≤ 144) (hw : WtOk wt) : 0 ≤ TrmW f left n wt k ∧ TrmW f left n wt k ≤ 144 * (X * bn n (left - k)) := by
  unfold TrmW
  have b0 := bn_nn (n := n) (k := left - k)
  by_cases z : 0 ≤ left - k ∧ left - k ≤ 144
  · have w1 := hw _ z.1 z.2
    have m0 : 0 ≤ wt (left - k) * bn n (left - k) := Int.mul_nonneg w1.1 b0
    have m1 : wt (left - k) * bn n (left - k) ≤ 144 * bn n (left - k) := Int.mul_le_mul_of_nonneg_right w1.2 b0
    refine ⟨Int.mul_nonneg hf.1 m0, ?_⟩
    have : f k * (wt (left - k) * bn n (left - k)) ≤ X * (144 * bn n (left - k)) := Int.mul_le_mul hf.2 m1 m0 (by omega)
    rw [show X * (144 * bn n (left - k)) = 144 * (X * bn n (left - k)) by rw [← Int.mul_assoc, Int.mul_comm X, Int.mul_assoc]] at this
    exact this
  · have : bn n (left - k) = 0 := by
      by_cases y : left - k < 0
      · exact bn_neg y
      · exact bn_big (by omega)
    rw [this]
    omega
theorem SUw_b {f wt : Int → Int} {left X : Int} {n : Nat} (hf : ∀ k, 0 ≤ f k ∧ f k ≤ X) (hX : 0 ≤ X) (hn : n ≤ 144) (hw : WtOk wt) : 0 ≤ SUw f left n wt ∧ SUw f left n wt ≤ 144 * (X * pw2 n) := by
  refine ⟨sumL_nn (fun k _ => (trm_b (hf k) hn hw).1), ?_⟩
  have h1 : SUw f left n wt ≤ sumL (cellsL 145) (fun k => 144 * (X * bn n (left - k))) := sumL_lel (fun k _ => (trm_b (hf k) hn hw).2)
  rw [sumL_mul, sumL_mul] at h1
  have h2 := Int.mul_le_mul_of_nonneg_left (bn_sum (n := n) (left := left)) hX
  omega
/-- the sum so far: what has more than left - x on the border -/
def SUx (f : Int → Int) (left : Int) (n : Nat) (wt : Int → Int) (x : Int) : Int := sumL (cellsL 145) (fun k => if left - x < k then TrmW f left n wt k else 0)
theorem SUx_zero {f wt : Int → Int} {left : Int} {n : Nat} : SUx f left n wt 0 = 0 := sumL_z (fun k _ => by
  by_cases z : left - 0 < k
  · rw [if_pos z]; unfold TrmW; rw [bn_neg (by omega), Int.mul_zero, Int.mul_zero]
  · exact if_neg z)
theorem SUx_le {f wt : Int → Int} {left x X : Int} {n : Nat} (hf : ∀ k, 0 ≤ f k ∧ f k ≤ X) (hn : n ≤ 144) (hw : WtOk wt) : 0 ≤ SUx f left n wt x ∧ SUx f left n wt x ≤ SUw f left n wt := by
  refine ⟨sumL_nn (fun k _ => ?_), sumL_lel (fun k _ => ?_)⟩
  · have := (trm_b (left := left) (n := n) (hf k) hn hw).1
    split <;> omega
  · have := (trm_b (left := left) (n := n) (hf k) hn hw).1
    show (if left - x < k then TrmW f left n wt k else 0) ≤ TrmW f left n wt k
    split <;> omega
theorem SUx_in {f wt : Int → Int} {left x : Int} {n : Nat} (h : 0 ≤ left - x ∧ left - x ≤ 144) : SUx f left n wt (x + 1) = SUx f left n wt x + TrmW f left n wt (left - x) := by
  unfold SUx
  rw [← sum_at (n := 145) (k := left - x) (f := TrmW f left n wt) (by omega)]
  refine sumL_add (fun k _ => ?_)
  by_cases e : k = left - x
  · rw [if_pos (by omega), if_neg (by omega), if_pos e]; omega
  · rw [if_neg e]
    by_cases z : left - x < k
    · rw [if_pos z, if_pos (by omega)]; omega
    · rw [if_neg z, if_neg (by omega)]; omega
theorem SUx_out {f wt : Int → Int} {left x : Int} {n : Nat} (h : f (left - x) = 0) : SUx f left n wt (x + 1) = SUx f left n wt x := by
  refine sumL_congr (fun k _ => ?_)
  by_cases e : k = left - x
  · rw [if_pos (by omega), if_neg (by omega)]; unfold TrmW; rw [e, h, Int.zero_mul]
  · by_cases z : left - x < k
    · rw [if_pos z, if_pos (by omega)]
    · rw [if_neg z, if_neg (by omega)]
theorem SUx_end {f wt : Int → Int} {left x : Int} {n : Nat} (h : ∀ k, k ≤ left - x → f k = 0 ∨ bn n (left - k) = 0) : SUx f left n wt x = SUw f left n wt := by
  refine sumL_congr (fun k _ => ?_)
  by_cases z : left - x < k
  · rw [if_pos z]; rfl
  · rw [if_neg z]
    rcases h k (by omega) with q | q
    · rw [q, Int.zero_mul]
    · rw [q, Int.mul_zero, Int.mul_zero]
theorem s_fill55 {post : (Int → Int64) → Prop} {a : Int → Int64} {v : Int64} (hp : ∀ b : Int → Int64, (∀ j, 0 ≤ j → j < 6 → b j = v) → post b) : P_J7_fill_d0a16_55 post a v := s_fill6 hp
theorem s_addScaled53 {post : (Int → Int64) → Prop} {f g : Int → Int64} {v u k : Int} (hf : NW6 f v) (hg : NW6 g u) (hk : 0 ≤ k ∧ k ≤ 65536) (hb : v + u * k < PB 6) (hp : ∀ f', NW6 f' (v + u * k) → post f') : P_X10_addScaled_53_55 post f g 0 k := (s_addScaled6 hf hg hk hb hp : P_X10_addScaled_52_55 post f g 0 k)
theorem s_addPlac {w h sh P lg mines lo hi x3 X : Int} {near nearEnd mined ci st number hit un po rs uk ps cs f wt : Int → Int} {q0 ch0 tm0 lb : Int → Int64} {Ch : Int → Prop} {post : (Int → Int64) → (Int → Int64) → (Int → Int64) → Prop} (D : DE w h sh near nearEnd mined number st ci un hit mines) (cok : ChOk w h sh st Ch) (b : BS w h sh st number hit un Ch P lg po rs uk ps cs) (hn : (FrL w h sh st Ch).length ≤ 144) (hs : SerOK lb lo hi f) (hf : ∀ k, 0 ≤ f k ∧ f k ≤ X) (hX : 0 ≤ X) (hXn : X * pw2 (FrL w h sh st Ch).length ≤ pw2 144) (hq : NW6 q0 0) (hwt : (x3 = 0 ∧ ∀ j, wt j = 1) ∨ (¬ x3 = 0 ∧ ∀ j, wt j = j))
    (hp : ∀ q ch tm, NW6 q (SUw f (mines - ci 3) (FrL w h sh st Ch).length wt) → post q ch tm) : P_X5_addPlacements_9_53 post mines P lo hi ci ps q0 ch0 tm0 lb x3 := by
  have lb' := left_b D
  obtain ⟨⟨s1, s2, s3, s4⟩, s5, s6⟩ := hs
  have p144 := pw144
  have wok : WtOk wt := by
    intro j j0 j1
    rcases hwt with r | r
    · rw [r.2]; omega
    · rw [r.2]; omega
  unfold P_X5_addPlacements_9_53
  refine s_freeD D cok b ?_
  intro _
  refine s_leftD lb' ?_
  intro _
  generalize (FrL w h sh st Ch).length = n at *
  have lbb : -144 ≤ mines - ci 3 ∧ mines - ci 3 ≤ 144 := by omega
  generalize mines - ci 3 = left at *
  have sw := SUw_b (left := left) hf hX hn wok
  have pn := pw2_pos n
  have pn144 : pw2 n ≤ pw2 144 := pw2_le hn
  refine s_set54 (by omega) (by omega) (fun ch1 hc1 => ?_)
  refine ⟨fun m x q ch tm => m = (n + 1 - x).toNat ∧ 0 ≤ x ∧ x ≤ n + 1 ∧ NW6 q (SUx f left n wt x) ∧ NW6 ch (bn n x), ⟨_, rfl, by omega, by omega, by rw [SUx_zero]; exact hq, ?_⟩, ?_⟩
  · rw [bn_zero]; exact hc1
  rintro m x q ch tm rx ⟨rfl, b1, b2, b3, b4⟩
  have fin1 : (n : Int) < x → SUx f left n wt x = SUw f left n wt := fun z => SUx_end (fun k hk => Or.inr (bn_big (by omega)))
  have fin2 : left - lo < x → SUx f left n wt x = SUw f left n wt := fun z => SUx_end (fun k hk => Or.inl (s6 k (by omega)))
  refine ⟨fun z => hp q ch tm (by rw [← fin1 z]; exact b3), fun z => ⟨by omega, fun z2 => hp q ch tm (by rw [← fin2 z2]; exact b3), fun z2 => ⟨by omega, ?_⟩⟩⟩
  have fx := hf (left - x)
  have bx0 := bn_nn (n := n) (k := x)
  have bxl := bn_le (n := n) (k := x)
  have term : 0 ≤ f (left - x) * bn n x ∧ f (left - x) * bn n x ≤ pw2 144 := by
    refine ⟨Int.mul_nonneg fx.1 bx0, ?_⟩
    have : f (left - x) * bn n x ≤ X * pw2 n := Int.mul_le_mul fx.2 bxl bx0 hX
    omega
  have wx := wok x b1 (by omega)
  have sx := SUx_le (left := left) (x := x) hf hn wok
  have sx1 := SUx_le (left := left) (x := x + 1) hf hn wok
  refine ⟨fun q' _ => NW6 q' (SUx f left n wt (x + 1)), ⟨fun y => ?_, fun y => ?_⟩, fun q' tm' hq' => ⟨by omega, ?_⟩⟩
  · rw [SUx_out (s6 _ (by omega))]; exact b3
  · refine s_fill55 (fun tm1 ht1 => ?_)
    refine ⟨by omega, ?_⟩
    have row := rw6_V (st := (left - x) * 6) (s5 (left - x) (by omega) (by omega)) rfl
    refine s_addProduct (NW6.zero ht1) row.1 row.2 b4 (by omega) (by omega) (fun tm2 ht2 => ?_)
    have e1 := SUx_in (f := f) (wt := wt) (left := left) (x := x) (n := n) (by omega)
    have e2 : TrmW f left n wt (left - x) = f (left - x) * bn n x * wt x := by
      unfold TrmW
      rw [show left - (left - x) = x by omega, Int.mul_comm (wt x), Int.mul_assoc]
    refine ⟨fun z => z = wt x, ⟨fun y0 => ?_, fun y0 => ?_⟩, fun z _ hz => ?_⟩
    · rcases hwt with r | r
      · exact (r.2 x).symm
      · exact absurd y0 r.1
    · rcases hwt with r | r
      · exact absurd r.1 y0
      · exact (r.2 x).symm
    · rw [hz]
      rw [Int.zero_add] at ht2
      refine s_addScaled53 b3 ht2 (by omega) (by rw [← e2, ← e1]; omega) (fun q' hq' => ?_)
      rw [e1, e2]
      exact hq'
  · have up := bn_up (n := n) (k := x)
    have cb : bn n x * ((n : Int) - x) ≤ pw2 144 * 144 := Int.mul_le_mul (by omega) (by omega) (by omega) (by omega)
    refine s_scale54 b4 (by omega) (by omega) (fun ch1 hc1 => ?_)
    refine ⟨by omega, ?_⟩
    refine s_shrink54 hc1 (by omega) (fun ch2 hc2 => ?_)
    intro x2 ex2
    refine ⟨_, ?_, rfl, by omega, by omega, by rw [ex2]; exact hq', ?_⟩
    · omega
    · have : bn n x * ((n : Int) - x) / (x + 1) = bn n (x + 1) := by
        rw [Int.mul_comm, ← up, Int.mul_ediv_cancel_left _ (by omega)]
      rw [this] at hc2
      rw [ex2]
      exact hc2
