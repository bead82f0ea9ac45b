/-! cells that are alike, and in how many ways they have so many mines -/
def Gl (L : List Int) (go : Int → Int) (g : Int) : List Int := L.filter (fun c => decide (go c = g))
theorem mem_Gl {L : List Int} {go : Int → Int} {g c : Int} : c ∈ Gl L go g ↔ c ∈ L ∧ go c = g := by
  unfold Gl
  rw [List.mem_filter, decide_eq_true_eq]
theorem Gl_nd {L : List Int} {go : Int → Int} {g : Int} (h : L.Nodup) : (Gl L go g).Nodup := h.sublist List.filter_sublist
def FLg (L : List Int) (go : Int → Int) (k : Nat) : List Int := ((List.range k).map (fun i : Nat => Gl L go (i : Int))).flatten
theorem FLg_succ {L : List Int} {go : Int → Int} {k : Nat} : FLg L go (k + 1) = FLg L go k ++ Gl L go (k : Int) := by
  unfold FLg
  rw [List.range_succ, List.map_append, List.flatten_append]
  simp
theorem mem_FLg {L : List Int} {go : Int → Int} {k : Nat} {c : Int} : c ∈ FLg L go k ↔ c ∈ L ∧ 0 ≤ go c ∧ go c < k := by
  unfold FLg
  rw [List.mem_flatten]
  constructor
  · rintro ⟨l, ml, mc⟩
    obtain ⟨i, mi, ei⟩ := List.mem_map.1 ml
    subst ei
    obtain ⟨m1, m2⟩ := mem_Gl.1 mc
    have := List.mem_range.1 mi
    exact ⟨m1, by omega, by omega⟩
  · rintro ⟨m1, m2, m3⟩
    exact ⟨_, List.mem_map.2 ⟨(go c).toNat, List.mem_range.2 (by omega), rfl⟩, mem_Gl.2 ⟨m1, by omega⟩⟩
theorem FLg_nd {L : List Int} {go : Int → Int} {k : Nat} (h : L.Nodup) : (FLg L go k).Nodup :=
  map_flat_nd List.nodup_range (fun _ _ => Gl_nd h) (fun i _ j _ c hi hj => by
    have := (mem_Gl.1 hi).2
    have := (mem_Gl.1 hj).2
    omega)
theorem FLg_perm {L : List Int} {go : Int → Int} {N : Int} (h : L.Nodup) (hg : ∀ c ∈ L, 0 ≤ go c ∧ go c < N) : L.Perm (FLg L go N.toNat) := by
  refine perm_mem h (FLg_nd h) (fun c => ?_)
  rw [mem_FLg]
  constructor
  · intro m
    have := hg c m
    exact ⟨m, by omega, by omega⟩
  · intro m
    exact m.1
theorem FLg_sum {L : List Int} {go f : Int → Int} : ∀ {k : Nat}, sumL (FLg L go k) f = sumL (cellsL k) (fun i => sumL (Gl L go i) f) := by
  intro k
  induction k with
  | zero => rfl
  | succ k ih =>
    rw [FLg_succ, sumL_append, ih, show ((k + 1 : Nat) : Int) = (k : Int) + 1 by omega, cells_succ (by omega), sumL_snoc]
theorem gsum {L : List Int} {go f : Int → Int} {N : Int} (h : L.Nodup) (hg : ∀ c ∈ L, 0 ≤ go c ∧ go c < N) (hN : 0 ≤ N) : sumL L f = sumL (cellsL N) (fun i => sumL (Gl L go i) f) := by
  rw [sumL_perm (FLg_perm h hg), FLg_sum, show ((N.toNat : Nat) : Int) = N by omega]
/-- in how many ways k of n cells have the mines -/
def bn : Nat → Int → Int
  | 0, k => if k = 0 then 1 else 0
  | n + 1, k => bn n k + bn n (k - 1)
theorem bn_ch : ∀ n : Nat, n < 9 → ∀ k : Nat, k < 9 → chZ (9 * n + k) = bn n k := by decide +kernel
theorem bn_id : ∀ n : Nat, n < 8 → ∀ k : Nat, k < 9 → ((n : Int) + 1) * bn n ((k : Int) - 1) = k * bn (n + 1) k := by decide +kernel
theorem asum_bin {G : List Int} (nd : G.Nodup) : ∀ {k : Int}, asum G (fun t => iB (sumL G t = k)) = bn G.length k := by
  induction G with
  | nil =>
    intro k
    show iB ((0 : Int) = k) = if k = 0 then 1 else 0
    by_cases e : k = 0
    · rw [if_pos e, iB_t e.symm]
    · rw [if_neg e, iB_f (fun y => e y.symm)]
  | cons d l ih =>
    intro k
    have nd' := List.nodup_cons.1 nd
    have e : ∀ (t : Int → Int) (b : Int), sumL (d :: l) (upZ t d b) = b + sumL l t := by
      intro t b
      rw [sumL_cons, upZ_s, sumL_congr (g := t) (fun x m => upZ_n t b (show x ≠ d from fun e => nd'.1 (e ▸ m)))]
    show asum l (fun t => iB (sumL (d :: l) (upZ t d 0) = k)) + asum l (fun t => iB (sumL (d :: l) (upZ t d 1) = k)) = bn l.length k + bn l.length (k - 1)
    rw [← ih nd'.2, ← ih nd'.2]
    rw [asum_congr (F := fun t => iB (sumL (d :: l) (upZ t d 0) = k)) (G := fun t => iB (sumL l t = k)) (fun t _ => iB_iff (by rw [e]; omega)), asum_congr (F := fun t => iB (sumL (d :: l) (upZ t d 1) = k)) (G := fun t => iB (sumL l t = k - 1)) (fun t _ => iB_iff (by rw [e]; omega))]
theorem asum_binc {G : List Int} {c k : Int} (nd : G.Nodup) (hc : c ∈ G) (hl : G.length ≤ 8) (hk : 0 ≤ k ∧ k ≤ 8) : (G.length : Int) * asum G (fun t => iB (sumL G t = k) * t c) = k * bn G.length k := by
  obtain ⟨a, b, e⟩ := List.append_of_mem hc
  have pm : G.Perm (c :: (a ++ b)) := by
    rw [e]
    exact List.perm_middle
  have nd' := List.nodup_cons.1 (pm.nodup_iff.1 nd)
  have hlen : G.length = (a ++ b).length + 1 := by rw [pm.length_eq, List.length_cons]
  have e1 : asum G (fun t => iB (sumL G t = k) * t c) = bn (a ++ b).length (k - 1) := by
    rw [asum_perm pm, ← asum_bin nd'.2]
    show asum (a ++ b) (fun t => iB (sumL G (upZ t c 0) = k) * upZ t c 0 c) + asum (a ++ b) (fun t => iB (sumL G (upZ t c 1) = k) * upZ t c 1 c) = _
    rw [asum_congr (F := fun t => iB (sumL G (upZ t c 0) = k) * upZ t c 0 c) (G := fun _ => 0) (fun t _ => by rw [upZ_s]; omega), asum_zero]
    rw [asum_congr (F := fun t => iB (sumL G (upZ t c 1) = k) * upZ t c 1 c) (G := fun t => iB (sumL (a ++ b) t = k - 1)) (fun t _ => ?_)]
    · omega
    · rw [upZ_s, Int.mul_one]
      refine iB_iff ?_
      rw [sumL_perm pm, sumL_cons, upZ_s, sumL_congr (g := t) (fun x m => upZ_n t 1 (show x ≠ c from fun e => nd'.1 (e ▸ m)))]
      omega
  rw [e1, hlen]
  have := bn_id (a ++ b).length (by omega) k.toNat (by omega)
  rw [show ((k.toNat : Nat) : Int) = k by omega] at this
  rw [← this]
  rw [show (((a ++ b).length + 1 : Nat) : Int) = ((a ++ b).length : Int) + 1 by omega]
/-- ways with so many mines in each group -/
def PV (L : List Int) (go pk : Int → Int) : Nat → Int
  | 0 => 1
  | k + 1 => PV L go pk k * bn (Gl L go (k : Int)).length (pk (k : Int))
theorem PV_congr {L : List Int} {go pk pk' : Int → Int} : ∀ {k : Nat}, (∀ i : Int, 0 ≤ i → i < k → pk i = pk' i) → PV L go pk k = PV L go pk' k := by
  intro k
  induction k with
  | zero => intro _; rfl
  | succ k ih =>
    intro h
    show PV L go pk k * bn _ (pk (k : Int)) = PV L go pk' k * bn _ (pk' (k : Int))
    rw [ih (fun i h0 h1 => h i h0 (by omega)), h k (by omega) (by omega)]
theorem iB_and {p q : Prop} : iB (p ∧ q) = iB p * iB q := by
  by_cases hp : p
  · by_cases hq : q
    · rw [iB_t ⟨hp, hq⟩, iB_t hp, iB_t hq]; rfl
    · rw [iB_f (fun y => hq y.2), iB_f hq]; omega
  · rw [iB_f (fun y => hp y.1), iB_f hp]; omega
def GY (L : List Int) (go pk : Int → Int) (k : Int) (t : Int → Int) : Prop := ∀ i : Int, 0 ≤ i → i < k → sumL (Gl L go i) t = pk i
theorem GY_succ {L : List Int} {go pk t : Int → Int} {k : Int} (hk : 0 ≤ k) : GY L go pk (k + 1) t ↔ GY L go pk k t ∧ sumL (Gl L go k) t = pk k := by
  constructor
  · intro h
    exact ⟨fun i h0 h1 => h i h0 (by omega), h k hk (by omega)⟩
  · rintro ⟨h1, h2⟩ i i0 i1
    by_cases e : i = k
    · rw [e]; exact h2
    · exact h1 i i0 (by omega)
theorem GY_dep {L : List Int} {go pk : Int → Int} {k : Nat} : Dep (FLg L go k) (fun t => iB (GY L go pk k t)) := by
  intro s t h
  refine iB_iff ?_
  have e : ∀ i : Int, 0 ≤ i → i < k → sumL (Gl L go i) s = sumL (Gl L go i) t := fun i h0 h1 => sumL_congr (fun x m => h x (mem_FLg.2 ⟨(mem_Gl.1 m).1, by rw [(mem_Gl.1 m).2]; exact ⟨h0, h1⟩⟩))
  exact ⟨fun q i h0 h1 => by rw [← e i h0 h1]; exact q i h0 h1, fun q i h0 h1 => by rw [e i h0 h1]; exact q i h0 h1⟩
theorem FLg_apart {L : List Int} {go : Int → Int} {k : Nat} : ∀ c ∈ FLg L go k, ¬ c ∈ Gl L go (k : Int) := fun c m m' => by
  have := (mem_FLg.1 m).2
  have := (mem_Gl.1 m').2
  omega
theorem cnt_all {L : List Int} {go pk : Int → Int} (nd : L.Nodup) : ∀ {k : Nat}, asum (FLg L go k) (fun t => iB (GY L go pk k t)) = PV L go pk k := by
  intro k
  induction k with
  | zero => exact iB_t (fun i h0 h1 => by omega)
  | succ k ih =>
    show _ = PV L go pk k * bn (Gl L go (k : Int)).length (pk (k : Int))
    rw [← ih, ← asum_bin (Gl_nd nd), FLg_succ, ← asum_app (Dep.mono (L := Gl L go (k : Int)) (fun s t h => iB_iff (by rw [sumL_congr h])) (fun c m => m)) FLg_apart GY_dep]
    refine asum_congr (fun t _ => ?_)
    rw [← iB_and]
    exact iB_iff (by rw [show ((k + 1 : Nat) : Int) = (k : Int) + 1 by omega]; exact GY_succ (by omega))
theorem cnt_one {L : List Int} {go pk : Int → Int} {c : Int} (nd : L.Nodup) (hc : c ∈ L) (hg : 0 ≤ go c) (hl : (Gl L go (go c)).length ≤ 8) (hk : 0 ≤ pk (go c) ∧ pk (go c) ≤ 8) : ∀ {k : Nat}, go c < k → ((Gl L go (go c)).length : Int) * asum (FLg L go k) (fun t => iB (GY L go pk k t) * t c) = pk (go c) * PV L go pk k := by
  intro k
  induction k with
  | zero => intro h; omega
  | succ k ih =>
    intro h
    have dG : ∀ x : Int, Dep (Gl L go (k : Int)) (fun t => iB (sumL (Gl L go (k : Int)) t = x)) := fun x s t h => iB_iff (by rw [sumL_congr h])
    have GYs : ∀ t, iB (GY L go pk ((k + 1 : Nat) : Int) t) = iB (GY L go pk k t ∧ sumL (Gl L go (k : Int)) t = pk (k : Int)) := fun t => iB_iff (by rw [show ((k + 1 : Nat) : Int) = (k : Int) + 1 by omega]; exact GY_succ (by omega))
    show _ = pk (go c) * (PV L go pk k * bn (Gl L go (k : Int)).length (pk (k : Int)))
    by_cases e : go c = k
    · have mc : c ∈ Gl L go (k : Int) := mem_Gl.2 ⟨hc, e⟩
      have e1 : asum (FLg L go (k + 1)) (fun t => iB (GY L go pk ((k + 1 : Nat) : Int) t) * t c) = asum (FLg L go k) (fun t => iB (GY L go pk k t)) * asum (Gl L go (k : Int)) (fun t => iB (sumL (Gl L go (k : Int)) t = pk (k : Int)) * t c) := by
        rw [FLg_succ, ← asum_app (fun s t h => congr (congrArg HMul.hMul (dG _ s t h)) (h c mc)) FLg_apart GY_dep]
        refine asum_congr (fun t _ => ?_)
        rw [← Int.mul_assoc, ← iB_and]
        rw [GYs]
      rw [e1, cnt_all nd]
      rw [e] at hl hk ⊢
      have b := asum_binc (k := pk (k : Int)) (Gl_nd nd) mc hl hk
      rw [← Int.mul_assoc, Int.mul_comm _ (PV L go pk k), Int.mul_assoc, b, ← Int.mul_assoc, ← Int.mul_assoc, Int.mul_comm (PV L go pk k)]
    · have mc : c ∈ FLg L go k := mem_FLg.2 ⟨hc, hg, by omega⟩
      have e1 : asum (FLg L go (k + 1)) (fun t => iB (GY L go pk ((k + 1 : Nat) : Int) t) * t c) = asum (FLg L go k) (fun t => iB (GY L go pk k t) * t c) * asum (Gl L go (k : Int)) (fun t => iB (sumL (Gl L go (k : Int)) t = pk (k : Int))) := by
        rw [FLg_succ, ← asum_app (dG _) FLg_apart (fun s t h => congr (congrArg HMul.hMul (GY_dep s t h)) (h c mc))]
        refine asum_congr (fun t _ => ?_)
        rw [Int.mul_assoc, Int.mul_comm (t c), ← Int.mul_assoc, ← iB_and]
        rw [GYs]
      rw [e1, asum_bin (Gl_nd nd), ← Int.mul_assoc, ih (by omega), Int.mul_assoc]
