/-! helpers for the predicates: joins -/
theorem exJ0 {p : Prop} {A : Prop → Prop} (h : A p) : ∃ J : Prop, A J ∧ (J → p) := ⟨p, h, id⟩
theorem exJi {p : Int → Prop} {A : (Int → Prop) → Prop} (h : A (fun z => inR z → p z)) : ∃ J : Int → Prop, A J ∧ ∀ z : Int, inR z → J z → p z := ⟨_, h, fun _ r k => k r⟩
theorem exJ1 {α : Type} {p : α → Prop} {A : (α → Prop) → Prop} (h : A p) : ∃ J : α → Prop, A J ∧ ∀ z : α, J z → p z := ⟨p, h, fun _ k => k⟩
theorem exJ2 {α β : Type} {p : α → β → Prop} {A : (α → β → Prop) → Prop} (h : A p) : ∃ J : α → β → Prop, A J ∧ ∀ (x : α) (y : β), J x y → p x y := ⟨p, h, fun _ _ k => k⟩
theorem exJ3 {α β γ : Type} {p : α → β → γ → Prop} {A : (α → β → γ → Prop) → Prop} (h : A p) : ∃ J : α → β → γ → Prop, A J ∧ ∀ (x : α) (y : β) (z : γ), J x y z → p x y z := ⟨p, h, fun _ _ _ k => k⟩
/-! a stretch of an array as a list -/
def seg (f : Int → Int) (b : Int) (k : Nat) : List Int := (List.range k).map (fun i : Nat => f (b + (i : Int)))
theorem seg_len {f : Int → Int} {b : Int} {k : Nat} : (seg f b k).length = k := by simp [seg]
theorem seg_zero {f : Int → Int} {b : Int} : seg f b 0 = [] := rfl
theorem seg_succ {f : Int → Int} {b : Int} {k : Nat} : seg f b (k + 1) = seg f b k ++ [f (b + (k : Int))] := by simp [seg, List.range_succ]
theorem seg_congr {f g : Int → Int} {b c : Int} {k : Nat} (h : ∀ i : Nat, i < k → f (b + (i : Int)) = g (c + (i : Int))) : seg f b k = seg g c k := by
  unfold seg
  apply List.map_congr_left
  intro i hi
  exact h i (List.mem_range.mp hi)
theorem seg_get {f : Int → Int} {b : Int} {k i : Nat} (h : i < k) : (seg f b k)[i]? = some (f (b + (i : Int))) := by
  simp [seg, List.getElem?_map, List.getElem?_range h]
theorem mem_seg {f : Int → Int} {b x : Int} {k : Nat} : x ∈ seg f b k ↔ ∃ i : Int, b ≤ i ∧ i < b + k ∧ f i = x := by
  unfold seg
  rw [List.mem_map]
  constructor
  · rintro ⟨i, hi, rfl⟩
    have := List.mem_range.mp hi
    exact ⟨b + i, by omega, by omega, rfl⟩
  · rintro ⟨i, h1, h2, rfl⟩
    refine ⟨(i - b).toNat, List.mem_range.mpr (by omega), ?_⟩
    congr 1
    omega
/-- strictly rising on a stretch -/
def Srt (f : Int → Int) (lo hi : Int) : Prop := ∀ i j : Int, lo ≤ i → i < j → j < hi → f i < f j
theorem Srt.pw {f : Int → Int} {b : Int} {k : Nat} (h : Srt f b (b + k)) : (seg f b k).Pairwise (· < ·) := by
  unfold seg
  rw [List.pairwise_map]
  refine List.Pairwise.imp_of_mem (fun {i j} hi hj hij => ?_) List.pairwise_lt_range
  have := List.mem_range.mp hj
  exact h _ _ (by omega) (by omega) (by omega)
theorem pw_eq {l m : List Int} (h1 : l.Pairwise (· < ·)) (h2 : m.Pairwise (· < ·)) (h : ∀ x, x ∈ l ↔ x ∈ m) : l = m := by
  have n1 : l.Nodup := h1.imp (fun {a b} hab => by intro e; subst e; omega)
  have n2 : m.Nodup := h2.imp (fun {a b} hab => by intro e; subst e; omega)
  exact List.Perm.eq_of_pairwise (le := fun a b => a < b) (fun a b _ _ h1 h2 => by omega) h1 h2 ((List.perm_ext_iff_of_nodup n1 n2).mpr h)
/-- the cells 0 .. n - 1 -/
def cellsL (n : Int) : List Int := (List.range n.toNat).map (fun i : Nat => (i : Int))
theorem mem_cells {n x : Int} : x ∈ cellsL n ↔ 0 ≤ x ∧ x < n := by
  unfold cellsL
  rw [List.mem_map]
  constructor
  · rintro ⟨i, hi, rfl⟩
    have := List.mem_range.mp hi
    omega
  · rintro ⟨h1, h2⟩
    exact ⟨x.toNat, List.mem_range.mpr (by omega), by omega⟩
theorem cells_pw {n : Int} : (cellsL n).Pairwise (· < ·) := by
  unfold cellsL
  rw [List.pairwise_map]
  exact List.Pairwise.imp (fun {i j} h => by omega) List.pairwise_lt_range
theorem pw_nodup {l : List Int} (h : l.Pairwise (· < ·)) : l.Nodup := h.imp (fun {a b} hab => by intro e; subst e; omega)
/-- places of rows and columns -/
theorem rc_div {w r c : Int} (hw : 0 < w) (h0 : 0 ≤ c) (h1 : c < w) : (r * w + c) / w = r := by
  rw [Int.add_comm, Int.add_mul_ediv_right _ _ (by omega), Int.ediv_eq_zero_of_lt h0 h1]
  omega
theorem rc_mod {w r c : Int} (h0 : 0 ≤ c) (h1 : c < w) : (r * w + c) % w = c := by
  rw [Int.add_comm, Int.add_mul_emod_self_right, Int.emod_eq_of_lt h0 h1]
theorem rc_lt {w h r c : Int} (h0 : 0 ≤ r) (h1 : r < h) (h2 : 0 ≤ c) (h3 : c < w) : 0 ≤ r * w + c ∧ r * w + c < w * h := by
  have hw : 0 ≤ w := by omega
  have a1 : 0 ≤ r * w := Int.mul_nonneg h0 hw
  have a2 : (r + 1) * w ≤ h * w := Int.mul_le_mul_of_nonneg_right (by omega) hw
  rw [Int.add_mul, Int.one_mul] at a2
  rw [Int.mul_comm w h]
  omega
theorem dm_rc {w a : Int} : a = a / w * w + a % w := by
  have := Int.mul_ediv_add_emod a w
  rw [Int.mul_comm] at this
  omega
theorem dm_in {w h a : Int} (hw : 0 < w) (h0 : 0 ≤ a) (h1 : a < w * h) : 0 ≤ a / w ∧ a / w < h ∧ 0 ≤ a % w ∧ a % w < w := by
  refine ⟨Int.ediv_nonneg h0 (by omega), Int.ediv_lt_of_lt_mul hw (by rw [Int.mul_comm]; exact h1), Int.emod_nonneg a (by omega), Int.emod_lt_of_pos a hw⟩
