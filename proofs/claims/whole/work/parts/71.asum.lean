/-! sums over all ways to put mines on a list of cells -/
def asum : List Int → ((Int → Int) → Int) → Int
  | [], F => F (fun _ => 0)
  | d :: l, F => asum l (fun t => F (upZ t d 0)) + asum l (fun t => F (upZ t d 1))
/-- a way to put mines on the cells of a list -/
def Bn (L : List Int) (t : Int → Int) : Prop := ∀ c, (t c = 0 ∨ t c = 1) ∧ (¬ c ∈ L → t c = 0)
theorem Bn.up {d : Int} {l : List Int} {t : Int → Int} {b : Int} (h : Bn l t) (hb : b = 0 ∨ b = 1) : Bn (d :: l) (upZ t d b) := by
  intro c
  by_cases e : c = d
  · subst e
    rw [upZ_s]
    exact ⟨hb, fun k => absurd List.mem_cons_self k⟩
  · rw [upZ_n t b e]
    exact ⟨(h c).1, fun k => (h c).2 (fun m => k (List.mem_cons_of_mem _ m))⟩
theorem Bn.zero {l : List Int} : Bn l (fun _ => 0) := fun _ => ⟨Or.inl rfl, fun _ => rfl⟩
theorem Bn.split {d : Int} {l : List Int} {t : Int → Int} (h : Bn (d :: l) t) : (∃ s, Bn l s ∧ t = upZ s d (t d)) ∧ (t d = 0 ∨ t d = 1) := by
  refine ⟨?_, (h d).1⟩
  by_cases hd : d ∈ l
  · refine ⟨t, fun c => ⟨(h c).1, fun k => (h c).2 (fun m => ?_)⟩, ?_⟩
    · rcases List.mem_cons.1 m with e | e
      · subst e
        exact k hd
      · exact k e
    · funext c
      by_cases e : c = d
      · subst e
        rw [upZ_s]
      · rw [upZ_n t _ e]
  · refine ⟨upZ t d 0, fun c => ?_, ?_⟩
    · by_cases e : c = d
      · subst e
        rw [upZ_s]
        exact ⟨Or.inl rfl, fun _ => rfl⟩
      · rw [upZ_n t _ e]
        refine ⟨(h c).1, fun k => (h c).2 (fun m => ?_)⟩
        rcases List.mem_cons.1 m with e' | e'
        · exact e e'
        · exact k e'
    · funext c
      by_cases e : c = d
      · subst e
        rw [upZ_s]
      · rw [upZ_n _ _ e, upZ_n t _ e]
theorem asum_congr {L : List Int} : ∀ {F G : (Int → Int) → Int}, (∀ t, Bn L t → F t = G t) → asum L F = asum L G := by
  induction L with
  | nil => intro F G h; exact h _ Bn.zero
  | cons d l ih =>
    intro F G h
    show asum l _ + asum l _ = asum l _ + asum l _
    rw [ih (fun t b => h _ (b.up (Or.inl rfl))), ih (fun t b => h _ (b.up (Or.inr rfl)))]
theorem asum_add {L : List Int} : ∀ {F G : (Int → Int) → Int}, asum L (fun t => F t + G t) = asum L F + asum L G := by
  induction L with
  | nil => intro F G; rfl
  | cons d l ih =>
    intro F G
    show asum l _ + asum l _ = (asum l _ + asum l _) + (asum l _ + asum l _)
    rw [ih, ih]
    omega
theorem asum_zero {L : List Int} : asum L (fun _ => 0) = 0 := by
  induction L with
  | nil => rfl
  | cons d l ih =>
    show asum l (fun _ => 0) + asum l (fun _ => 0) = 0
    rw [ih]
    rfl
theorem asum_mul {L : List Int} {k : Int} : ∀ {F : (Int → Int) → Int}, asum L (fun t => k * F t) = k * asum L F := by
  induction L with
  | nil => intro F; rfl
  | cons d l ih =>
    intro F
    show asum l _ + asum l _ = k * (asum l _ + asum l _)
    rw [ih, ih, Int.mul_add]
theorem asum_sum {L l : List Int} {f : Int → (Int → Int) → Int} : asum L (fun t => sumL l (fun x => f x t)) = sumL l (fun x => asum L (f x)) := by
  induction l with
  | nil => exact asum_zero
  | cons a l ih =>
    rw [sumL_cons, ← ih, ← asum_add]
    exact asum_congr (fun t _ => sumL_cons)
theorem asum_le {L : List Int} : ∀ {F G : (Int → Int) → Int}, (∀ t, Bn L t → F t ≤ G t) → asum L F ≤ asum L G := by
  induction L with
  | nil => intro F G h; exact h _ Bn.zero
  | cons d l ih =>
    intro F G h
    show asum l _ + asum l _ ≤ asum l _ + asum l _
    have h1 := ih (F := fun t => F (upZ t d 0)) (G := fun t => G (upZ t d 0)) (fun t b => h _ (b.up (Or.inl rfl)))
    have h2 := ih (F := fun t => F (upZ t d 1)) (G := fun t => G (upZ t d 1)) (fun t b => h _ (b.up (Or.inr rfl)))
    omega
theorem asum_nn {L : List Int} {F : (Int → Int) → Int} (h : ∀ t, Bn L t → 0 ≤ F t) : 0 ≤ asum L F := by
  have := asum_le (L := L) (F := fun _ => 0) (G := F) h
  rw [asum_zero] at this
  exact this
def pw2 : Nat → Int
  | 0 => 1
  | n + 1 => 2 * pw2 n
theorem pw2_pos (n : Nat) : 0 < pw2 n := by
  induction n with
  | zero => exact Int.one_pos
  | succ n ih => show 0 < 2 * pw2 n; omega
theorem pw2_le {n m : Nat} (h : n ≤ m) : pw2 n ≤ pw2 m := by
  induction h with
  | refl => exact Int.le_refl _
  | step _ ih => show _ ≤ 2 * pw2 _; have := pw2_pos n; omega
theorem asum_one {L : List Int} : asum L (fun _ => 1) = pw2 L.length := by
  induction L with
  | nil => rfl
  | cons d l ih =>
    show asum l (fun _ => 1) + asum l (fun _ => 1) = 2 * pw2 l.length
    rw [ih]
    omega
theorem asum_bd {L : List Int} {F : (Int → Int) → Int} (h : ∀ t, Bn L t → 0 ≤ F t ∧ F t ≤ 1) : 0 ≤ asum L F ∧ asum L F ≤ pw2 L.length := by
  refine ⟨asum_nn (fun t b => (h t b).1), ?_⟩
  rw [← asum_one]
  exact asum_le (fun t b => (h t b).2)
theorem asum_pos {L : List Int} : ∀ {F : (Int → Int) → Int}, (∀ t, Bn L t → 0 ≤ F t) → (0 < asum L F ↔ ∃ t, Bn L t ∧ 0 < F t) := by
  induction L with
  | nil =>
    intro F h
    refine ⟨fun k => ⟨_, Bn.zero, k⟩, ?_⟩
    rintro ⟨t, b, k⟩
    have e : t = fun _ => 0 := by
      funext c
      exact (b c).2 List.not_mem_nil
    show 0 < F _
    rw [← e]
    exact k
  | cons d l ih =>
    intro F h
    have h1 := ih (F := fun t => F (upZ t d 0)) (fun t b => h _ (b.up (Or.inl rfl)))
    have h2 := ih (F := fun t => F (upZ t d 1)) (fun t b => h _ (b.up (Or.inr rfl)))
    have n1 := asum_nn (L := l) (F := fun t => F (upZ t d 0)) (fun t b => h _ (b.up (Or.inl rfl)))
    have n2 := asum_nn (L := l) (F := fun t => F (upZ t d 1)) (fun t b => h _ (b.up (Or.inr rfl)))
    show 0 < asum l _ + asum l _ ↔ _
    constructor
    · intro k
      by_cases k1 : 0 < asum l (fun t => F (upZ t d 0))
      · obtain ⟨t, b, q⟩ := h1.1 k1
        exact ⟨_, b.up (Or.inl rfl), q⟩
      · obtain ⟨t, b, q⟩ := h2.1 (by omega)
        exact ⟨_, b.up (Or.inr rfl), q⟩
    · rintro ⟨t, b, q⟩
      obtain ⟨⟨s, bs, e⟩, k⟩ := b.split
      rcases k with k | k
      · rw [k] at e
        have := h1.2 ⟨s, bs, e ▸ q⟩
        omega
      · rw [k] at e
        have := h2.2 ⟨s, bs, e ▸ q⟩
        omega
theorem upZ_comm {α : Type} {t : Int → α} {d e : Int} {a b : α} (h : d ≠ e) : upZ (upZ t d a) e b = upZ (upZ t e b) d a := by
  funext c
  by_cases e1 : c = d
  · subst e1
    rw [upZ_n _ _ h, upZ_s, upZ_s]
  · by_cases e2 : c = e
    · subst e2
      rw [upZ_s, upZ_n _ _ e1, upZ_s]
    · rw [upZ_n _ _ e2, upZ_n _ _ e1, upZ_n _ _ e1, upZ_n _ _ e2]
theorem asum_perm {L M : List Int} (p : L.Perm M) : ∀ F : (Int → Int) → Int, asum L F = asum M F := by
  induction p with
  | nil => intro F; rfl
  | cons d _ ih =>
    intro F
    show asum _ _ + asum _ _ = asum _ _ + asum _ _
    rw [ih, ih]
  | swap d e l =>
    intro F
    by_cases h : d = e
    · subst h
      rfl
    · have q : ∀ (t : Int → Int) (a b : Int), upZ (upZ t d a) e b = upZ (upZ t e b) d a := fun t a b => upZ_comm h
      show (asum l _ + asum l _) + (asum l _ + asum l _) = (asum l _ + asum l _) + (asum l _ + asum l _)
      simp only [q]
      omega
  | trans _ _ i1 i2 => intro F; rw [i1, i2]
/-- what depends on some cells alone -/
def Dep (L : List Int) (F : (Int → Int) → Int) : Prop := ∀ s t : Int → Int, (∀ c ∈ L, s c = t c) → F s = F t
theorem Dep.mono {L M : List Int} {F : (Int → Int) → Int} (h : Dep L F) (s : ∀ c ∈ L, c ∈ M) : Dep M F := fun a b k => h a b (fun c m => k c (s c m))
theorem Dep.sum {L l : List Int} (h : ∀ c ∈ l, c ∈ L) : Dep L (fun t => sumL l t) := fun _ _ k => sumL_congr (fun x m => k x (h x m))
theorem asum_app {L M : List Int} {g : (Int → Int) → Int} (hg : Dep M g) : ∀ {f : (Int → Int) → Int}, (∀ c ∈ L, ¬ c ∈ M) → Dep L f → asum (L ++ M) (fun t => f t * g t) = asum L f * asum M g := by
  induction L with
  | nil =>
    intro f _ hf
    show asum M (fun t => f t * g t) = f (fun _ => 0) * asum M g
    rw [← asum_mul]
    refine asum_congr (fun t _ => ?_)
    rw [hf t (fun _ => 0) (fun c m => absurd m List.not_mem_nil)]
  | cons d l ih =>
    intro f hd hf
    have hdl : ∀ c ∈ l, ¬ c ∈ M := fun c m => hd c (List.mem_cons_of_mem _ m)
    have gd : ∀ (t : Int → Int) (b : Int), g (upZ t d b) = g t := fun t b => hg _ _ (fun c m => upZ_n t b (fun e => hd d List.mem_cons_self (e ▸ m)))
    have fd : ∀ b : Int, Dep l (fun t => f (upZ t d b)) := fun b s t k => hf _ _ (fun c m => by
      by_cases e : c = d
      · subst e
        rw [upZ_s, upZ_s]
      · rw [upZ_n _ _ e, upZ_n _ _ e]
        rcases List.mem_cons.1 m with m | m
        · exact absurd m e
        · exact k c m)
    show asum (l ++ M) (fun t => f (upZ t d 0) * g (upZ t d 0)) + asum (l ++ M) (fun t => f (upZ t d 1) * g (upZ t d 1)) = (asum l _ + asum l _) * asum M g
    simp only [gd]
    rw [ih hdl (fd 0), ih hdl (fd 1), Int.add_mul]
theorem asum_nodep {L M : List Int} {f : (Int → Int) → Int} (hd : ∀ c ∈ L, ¬ c ∈ M) (hf : Dep L f) : asum (L ++ M) f = asum L f * pw2 M.length := by
  rw [← asum_one, ← asum_app (g := fun _ => 1) (fun _ _ _ => rfl) hd hf]
  exact asum_congr (fun t _ => (Int.mul_one _).symm)
/-- lists with the same elements, each once -/
theorem perm_mem {l m : List Int} (hl : l.Nodup) (hm : m.Nodup) (h : ∀ x, x ∈ l ↔ x ∈ m) : l.Perm m := by
  induction l generalizing m with
  | nil =>
    have e : m = [] := List.eq_nil_iff_forall_not_mem.2 (fun x k => absurd ((h x).2 k) List.not_mem_nil)
    rw [e]
  | cons a l ih =>
    have ha : a ∈ m := (h a).1 List.mem_cons_self
    obtain ⟨p, q, e⟩ := List.append_of_mem ha
    subst e
    have hn := List.nodup_cons.1 hl
    have pm : (p ++ a :: q).Perm (a :: (p ++ q)) := List.perm_middle
    have hm' : (a :: (p ++ q)).Nodup := pm.nodup_iff.1 hm
    have hm2 := List.nodup_cons.1 hm'
    refine List.Perm.trans (List.Perm.cons a (ih hn.2 hm2.2 ?_)) pm.symm
    intro x
    constructor
    · intro k
      have k1 := (h x).1 (List.mem_cons_of_mem _ k)
      have k2 := pm.mem_iff.1 k1
      rcases List.mem_cons.1 k2 with e | e
      · subst e
        exact absurd k hn.1
      · exact e
    · intro k
      have k1 := pm.mem_iff.2 (List.mem_cons_of_mem a k)
      rcases List.mem_cons.1 ((h x).2 k1) with e | e
      · subst e
        exact absurd k hm2.1
      · exact e
theorem sumL_perm {l m : List Int} (p : l.Perm m) (f : Int → Int) : sumL l f = sumL m f := by
  unfold sumL
  induction p with
  | nil => rfl
  | cons x _ ih => simp [ih]
  | swap x y l => simp; omega
  | trans _ _ i1 i2 => rw [i1, i2]
