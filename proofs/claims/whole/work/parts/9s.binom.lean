theorem bn_neg : ∀ {n : Nat} {k : Int}, k < 0 → bn n k = 0 := by
  intro n
  induction n with
  | zero => intro k h; exact if_neg (by omega)
  | succ n ih => intro k h; show bn n k + bn n (k - 1) = 0; rw [ih h, ih (by omega)]; rfl
theorem bn_big : ∀ {n : Nat} {k : Int}, (n : Int) < k → bn n k = 0 := by
  intro n
  induction n with
  | zero => intro k h; exact if_neg (by omega)
  | succ n ih => intro k h; show bn n k + bn n (k - 1) = 0; rw [ih (by omega), ih (by omega)]; rfl
theorem bn_nn : ∀ {n : Nat} {k : Int}, 0 ≤ bn n k := by
  intro n
  induction n with
  | zero => intro k; show 0 ≤ if k = 0 then (1 : Int) else 0; split <;> omega
  | succ n ih => intro k; show 0 ≤ bn n k + bn n (k - 1); have := ih (k := k); have := ih (k := k - 1); omega
theorem bn_up : ∀ {n : Nat} {k : Int}, (k + 1) * bn n (k + 1) = ((n : Int) - k) * bn n k := by
  intro n
  induction n with
  | zero =>
    intro k
    show (k + 1) * (if k + 1 = 0 then (1 : Int) else 0) = (((0 : Nat) : Int) - k) * (if k = 0 then (1 : Int) else 0)
    by_cases h1 : k + 1 = 0
    · rw [if_pos h1, if_neg (by omega), h1]; omega
    · rw [if_neg h1]
      by_cases h2 : k = 0
      · rw [if_pos h2, h2]; rfl
      · rw [if_neg h2]; omega
  | succ n ih =>
    intro k
    show (k + 1) * (bn n (k + 1) + bn n (k + 1 - 1)) = (((n + 1 : Nat) : Int) - k) * (bn n k + bn n (k - 1))
    have h1 := ih (k := k)
    have h2 := ih (k := k - 1)
    rw [show k - 1 + 1 = k by omega, show ((n : Int) - (k - 1)) = ((n + 1 : Nat) : Int) - k by omega] at h2
    rw [show k + 1 - 1 = k by omega, Int.mul_add, Int.mul_add, h1, ← h2, ← Int.add_mul, ← Int.add_mul]
    congr 1
    omega
theorem bn_side {n : Nat} {k : Int} : k * bn (n + 1) k = ((n : Int) + 1) * bn n (k - 1) := by
  show k * (bn n k + bn n (k - 1)) = _
  have h2 := bn_up (n := n) (k := k - 1)
  rw [show k - 1 + 1 = k by omega] at h2
  rw [Int.mul_add, h2, ← Int.add_mul]
  congr 1
  omega
theorem sumL_nn {l : List Int} {f : Int → Int} (h : ∀ x ∈ l, 0 ≤ f x) : 0 ≤ sumL l f := by
  induction l with
  | nil => exact Int.le_refl _
  | cons a l ih =>
    show 0 ≤ f a + sumL l f
    have := h a (by simp)
    have := ih (fun x hx => h x (by simp [hx]))
    omega
theorem sumL_lel {l : List Int} {f g : Int → Int} (h : ∀ x ∈ l, f x ≤ g x) : sumL l f ≤ sumL l g := by
  induction l with
  | nil => exact Int.le_refl _
  | cons a l ih =>
    show f a + sumL l f ≤ g a + sumL l g
    have := h a (by simp)
    have := ih (fun x hx => h x (by simp [hx]))
    omega
theorem sum_at {n k : Int} {f : Int → Int} (hk : 0 ≤ k ∧ k < n) : sumL (cellsL n) (fun i => if i = k then f i else 0) = f k := by
  rw [← sum_single (v := f k) hk]
  refine sumL_congr (fun i _ => ?_)
  by_cases e : i = k
  · rw [if_pos e, if_pos e, e]
  · rw [if_neg e, if_neg e]
theorem sumL_z {l : List Int} {f : Int → Int} (h : ∀ x ∈ l, f x = 0) : sumL l f = 0 := by
  induction l with
  | nil => rfl
  | cons a l ih =>
    show f a + sumL l f = 0
    rw [h a (by simp), ih (fun x hx => h x (by simp [hx]))]
    rfl
theorem bn_sum : ∀ {n : Nat} {left : Int}, sumL (cellsL 145) (fun k => bn n (left - k)) ≤ pw2 n := by
  intro n
  induction n with
  | zero =>
    intro left
    show sumL (cellsL 145) (fun k => if left - k = 0 then (1 : Int) else 0) ≤ 1
    by_cases h : 0 ≤ left ∧ left < 145
    · have : sumL (cellsL 145) (fun k => if left - k = 0 then (1 : Int) else 0) = sumL (cellsL 145) (fun k => if k = left then (1 : Int) else 0) := sumL_congr (fun k _ => by
        by_cases e : k = left
        · rw [if_pos e, if_pos (by omega)]
        · rw [if_neg e, if_neg (by omega)])
      rw [this, sum_single h]
      exact Int.le_refl _
    · rw [sumL_z (fun k hk => if_neg (by have := mem_cells.1 hk; omega))]
      decide
  | succ n ih =>
    intro left
    have h1 := ih (left := left)
    have h2 := ih (left := left - 1)
    have e : sumL (cellsL 145) (fun k => bn (n + 1) (left - k)) = sumL (cellsL 145) (fun k => bn n (left - k)) + sumL (cellsL 145) (fun k => bn n (left - 1 - k)) := sumL_add (fun k _ => by
      show bn n (left - k) + bn n (left - k - 1) = _
      rw [show left - k - 1 = left - 1 - k by omega])
    rw [e]
    show _ ≤ 2 * pw2 n
    omega
/-- placements: on the border f, the rest on n other cells, each way with a weight -/
def SUw (f : Int → Int) (left : Int) (n : Nat) (wt : Int → Int) : Int := sumL (cellsL 145) (fun k => f k * (wt (left - k) * bn n (left - k)))
def SU (f : Int → Int) (left : Int) (n : Nat) : Int := sumL (cellsL 145) (fun k => f k * bn n (left - k))
theorem SUw_one {f : Int → Int} {left : Int} {n : Nat} : SUw f left n (fun _ => 1) = SU f left n := sumL_congr (fun k _ => by rw [Int.one_mul])
theorem SUw_off {f : Int → Int} {left : Int} {n : Nat} : SUw f left (n + 1) (fun j => j) = ((n : Int) + 1) * SU f (left - 1) n := by
  unfold SUw SU
  rw [← sumL_mul]
  refine sumL_congr (fun k _ => ?_)
  rw [bn_side, show left - 1 - k = left - k - 1 by omega, ← Int.mul_assoc, Int.mul_comm (f k), Int.mul_assoc]
theorem SU_nn {f : Int → Int} {left : Int} {n : Nat} (hf : ∀ k, 0 ≤ f k) : 0 ≤ SU f left n := sumL_nn (fun k _ => Int.mul_nonneg (hf k) bn_nn)
theorem SU_side {f : Int → Int} {left : Int} {n : Nat} (hf : ∀ k, 0 ≤ f k) : SU f (left - 1) n ≤ SU f left (n + 1) := sumL_lel (fun k _ => by
  refine Int.mul_le_mul_of_nonneg_left ?_ (hf k)
  show bn n (left - 1 - k) ≤ bn n (left - k) + bn n (left - k - 1)
  rw [show left - 1 - k = left - k - 1 by omega]
  have := bn_nn (n := n) (k := left - k)
  omega)
theorem SU_mono {f g : Int → Int} {left : Int} {n : Nat} (hf : ∀ k, f k ≤ g k) : SU f left n ≤ SU g left n := sumL_lel (fun k _ => Int.mul_le_mul_of_nonneg_right (hf k) bn_nn)
theorem SU_le {f : Int → Int} {left X : Int} {n : Nat} (hf : ∀ k, 0 ≤ f k ∧ f k ≤ X) (hX : 0 ≤ X) : SU f left n ≤ X * pw2 n := by
  have h1 : SU f left n ≤ sumL (cellsL 145) (fun k => X * bn n (left - k)) := sumL_lel (fun k _ => Int.mul_le_mul_of_nonneg_right (hf k).2 bn_nn)
  rw [sumL_mul] at h1
  have := Int.mul_le_mul_of_nonneg_left (bn_sum (n := n) (left := left)) hX
  omega
theorem SU_congr {f g : Int → Int} {left : Int} {n : Nat} (h : ∀ k, f k = g k) : SU f left n = SU g left n := by rw [show f = g from funext h]
/-! bounds of the counts -/
theorem NWe_bd {w h sh k : Int} {st R : Int → Int} {Ch : Int → Prop} {ls : List (List Int)} {e : (Int → Int) → Int} (he : ∀ t, (∀ c, t c = 0 ∨ t c = 1) → 0 ≤ e t ∧ e t ≤ 1) : 0 ≤ NWe w h sh st R Ch ls e k ∧ NWe w h sh st R Ch ls e k ≤ pw2 ls.flatten.length := by
  refine asum_bd (fun t bt => ?_)
  have := he t (fun c => (bt c).1)
  rcases (show iB ((∀ L ∈ ls, SatL w h sh st R Ch L t) ∧ sumL ls.flatten t = k) = 0 ∨ iB ((∀ L ∈ ls, SatL w h sh st R Ch L t) ∧ sumL ls.flatten t = k) = 1 by unfold iB; split <;> simp) with q | q
  · rw [q]; omega
  · rw [q]; omega
theorem NWe_out {w h sh k : Int} {st R : Int → Int} {Ch : Int → Prop} {ls : List (List Int)} {e : (Int → Int) → Int} (hk : k < 0 ∨ (ls.flatten.length : Int) < k) : NWe w h sh st R Ch ls e k = 0 := by
  unfold NWe
  rw [asum_congr (G := fun _ => 0) (fun t bt => ?_), asum_zero]
  have := sum_le_len (l := ls.flatten) (fun c => (bt c).1)
  rw [iB_f (fun q => by omega), Int.zero_mul]
theorem NWe_le {w h sh k : Int} {st R : Int → Int} {Ch : Int → Prop} {ls : List (List Int)} {e f : (Int → Int) → Int} (he : ∀ t, (∀ c, t c = 0 ∨ t c = 1) → e t ≤ f t) : NWe w h sh st R Ch ls e k ≤ NWe w h sh st R Ch ls f k := by
  refine asum_le (fun t bt => ?_)
  exact Int.mul_le_mul_of_nonneg_left (he t (fun c => (bt c).1)) (by unfold iB; split <;> omega)
theorem Te_out {w h sh k : Int} {st R : Int → Int} {Ch : Int → Prop} {L : List Int} {e : (Int → Int) → Int} (hk : k < 0 ∨ (L.length : Int) < k) : Te w h sh st R Ch L e k = 0 := by
  unfold Te
  rw [asum_congr (G := fun _ => 0) (fun t bt => ?_), asum_zero]
  have := sum_le_len (l := L) (fun c => (bt c).1)
  rw [iB_f (fun q => by omega), Int.zero_mul]
theorem NWe_perm {w h sh k : Int} {st R : Int → Int} {Ch : Int → Prop} {ls ms : List (List Int)} {e : (Int → Int) → Int} (cok : ChOk w h sh st Ch) (p : PLs w h sh st Ch ls) (q : PLs w h sh st Ch ms) : NWe w h sh st R Ch ls e k = NWe w h sh st R Ch ms e k := by
  have pm : ls.flatten.Perm ms.flatten := perm_mem p.1 q.1 (fun c => (p.2.2 c).trans (q.2.2 c).symm)
  unfold NWe
  rw [asum_perm pm]
  refine asum_congr (fun t _ => ?_)
  congr 1
  apply iB_congr
  rw [← Sat_all cok p, ← Sat_all cok q, sumL_perm pm]
theorem NWe_len {w h sh : Int} {st : Int → Int} {Ch : Int → Prop} {ls ms : List (List Int)} (p : PLs w h sh st Ch ls) (q : PLs w h sh st Ch ms) : ls.flatten.length = ms.flatten.length := (perm_mem p.1 q.1 (fun c => (p.2.2 c).trans (q.2.2 c).symm)).length_eq
