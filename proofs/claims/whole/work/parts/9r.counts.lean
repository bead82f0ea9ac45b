/-! counting the ways of many parts together -/
noncomputable def Te (w h sh : Int) (st R : Int → Int) (Ch : Int → Prop) (L : List Int) (e : (Int → Int) → Int) (m : Int) : Int := asum L (fun t => iB (SatL w h sh st R Ch L t ∧ sumL L t = m) * e t)
noncomputable def NWe (w h sh : Int) (st R : Int → Int) (Ch : Int → Prop) (ls : List (List Int)) (e : (Int → Int) → Int) (k : Int) : Int := asum ls.flatten (fun t => iB ((∀ L ∈ ls, SatL w h sh st R Ch L t) ∧ sumL ls.flatten t = k) * e t)
theorem Te_one {w h sh m : Int} {st R : Int → Int} {Ch : Int → Prop} {L : List Int} : Te w h sh st R Ch L (fun _ => 1) m = Tw w h sh st R Ch L m := asum_congr (fun t _ => Int.mul_one _)
theorem Te_c {w h sh m c : Int} {st R : Int → Int} {Ch : Int → Prop} {L : List Int} : Te w h sh st R Ch L (fun t => t c) m = Ww w h sh st R Ch L c m := rfl
theorem NWe_nil {w h sh k : Int} {st R : Int → Int} {Ch : Int → Prop} : NWe w h sh st R Ch [] (fun _ => 1) k = if k = 0 then 1 else 0 := by
  show iB ((∀ L ∈ [], SatL w h sh st R Ch L (fun _ => 0)) ∧ (0 : Int) = k) * 1 = _
  by_cases z : k = 0
  · rw [if_pos z, iB_t ⟨fun L hL => (List.not_mem_nil hL).elim, z.symm⟩]; rfl
  · rw [if_neg z, iB_f (fun q => z q.2.symm)]; rfl
theorem iB_congr {p q : Prop} (h : p ↔ q) : iB p = iB q := by rw [propext h]
theorem sum_pick {n s : Int} {p : Prop} (hs : 0 ≤ s ∧ s < n) (f : Int → Prop) : iB (f s ∧ p) = sumL (cellsL n) (fun m => iB (f m) * iB (p ∧ s = m)) := by
  have : sumL (cellsL n) (fun m => iB (f m) * iB (p ∧ s = m)) = sumL (cellsL n) (fun m => if m = s then iB (f s ∧ p) else 0) := by
    refine sumL_congr (fun m _ => ?_)
    by_cases e : m = s
    · subst e
      rw [if_pos rfl, ← iB_and]
      exact iB_congr ⟨fun q => ⟨q.1, q.2.1⟩, fun q => ⟨q.1, q.2, rfl⟩⟩
    · rw [if_neg e, iB_f (p := p ∧ s = m) (fun q => e q.2.symm)]
      exact Int.mul_zero _
  rw [this, sum_single hs]
theorem NWe_snoc {w h sh k : Int} {st R : Int → Int} {Ch : Int → Prop} {ls : List (List Int)} {L : List Int} {e1 e2 : (Int → Int) → Int} (nd : (ls ++ [L]).flatten.Nodup) (cl : ∀ M ∈ ls ++ [L], Cl w h sh st Ch M) (d1 : Dep ls.flatten e1) (d2 : Dep L e2) :
    NWe w h sh st R Ch (ls ++ [L]) (fun t => e1 t * e2 t) k = sumL (cellsL ((L.length : Int) + 1)) (fun m => NWe w h sh st R Ch ls e1 (k - m) * Te w h sh st R Ch L e2 m) := by
  have fl : (ls ++ [L]).flatten = ls.flatten ++ L := by rw [List.flatten_append]; simp
  have ap : ∀ c ∈ ls.flatten, ¬ c ∈ L := by
    rw [fl] at nd
    intro c h1 h2
    exact (List.nodup_append.1 nd).2.2 c h1 c h2 rfl
  have step : ∀ m : Int, NWe w h sh st R Ch ls e1 (k - m) * Te w h sh st R Ch L e2 m = asum (ls.flatten ++ L) (fun t => (iB ((∀ M ∈ ls, SatL w h sh st R Ch M t) ∧ sumL ls.flatten t = k - m) * e1 t) * (iB (SatL w h sh st R Ch L t ∧ sumL L t = m) * e2 t)) := by
    intro m
    refine (asum_app ?_ ap ?_).symm
    · intro s t he
      have q : SatL w h sh st R Ch L s ↔ SatL w h sh st R Ch L t := ⟨SatL.cong (cl L (by simp)) he, SatL.cong (cl L (by simp)) (fun c hc => (he c hc).symm)⟩
      have sm : sumL L s = sumL L t := sumL_congr (fun c hc => he c hc)
      show iB (SatL w h sh st R Ch L s ∧ sumL L s = m) * e2 s = iB (SatL w h sh st R Ch L t ∧ sumL L t = m) * e2 t
      rw [sm, d2 s t he]
      congr 1
      exact iB_congr ⟨fun z => ⟨q.1 z.1, z.2⟩, fun z => ⟨q.2 z.1, z.2⟩⟩
    · intro s t he
      have hM : ∀ M ∈ ls, ∀ c ∈ M, s c = t c := fun M hM c hc => he c (List.mem_flatten.2 ⟨M, hM, hc⟩)
      have q : (∀ M ∈ ls, SatL w h sh st R Ch M s) ↔ ∀ M ∈ ls, SatL w h sh st R Ch M t := ⟨fun z M h1 => SatL.cong (cl M (by simp [h1])) (hM M h1) (z M h1), fun z M h1 => SatL.cong (cl M (by simp [h1])) (fun c hc => (hM M h1 c hc).symm) (z M h1)⟩
      have sm : sumL ls.flatten s = sumL ls.flatten t := sumL_congr (fun c hc => he c hc)
      show iB ((∀ M ∈ ls, SatL w h sh st R Ch M s) ∧ sumL ls.flatten s = k - m) * e1 s = iB ((∀ M ∈ ls, SatL w h sh st R Ch M t) ∧ sumL ls.flatten t = k - m) * e1 t
      rw [sm, d1 s t he]
      congr 1
      exact iB_congr ⟨fun z => ⟨q.1 z.1, z.2⟩, fun z => ⟨q.2 z.1, z.2⟩⟩
  rw [sumL_congr (fun m _ => step m), ← asum_sum]
  unfold NWe
  rw [fl]
  refine asum_congr (fun t bt => ?_)
  have sb := sum_le_len (l := L) (fun c => (bt c).1)
  have e : iB ((∀ M ∈ ls ++ [L], SatL w h sh st R Ch M t) ∧ sumL (ls.flatten ++ L) t = k) = iB (((∀ M ∈ ls, SatL w h sh st R Ch M t) ∧ sumL ls.flatten t = k - sumL L t) ∧ SatL w h sh st R Ch L t) := by
    apply iB_congr
    rw [sumL_append]
    constructor
    · rintro ⟨a, b⟩
      exact ⟨⟨fun M hM => a M (by simp [hM]), by omega⟩, a L (by simp)⟩
    · rintro ⟨⟨a, b⟩, c⟩
      refine ⟨fun M hM => ?_, by omega⟩
      rcases List.mem_append.1 hM with h | h
      · exact a M h
      · rw [List.mem_singleton.1 h]; exact c
  rw [e, sum_pick (n := (L.length : Int) + 1) (s := sumL L t) (p := SatL w h sh st R Ch L t) (by omega) (fun m => (∀ M ∈ ls, SatL w h sh st R Ch M t) ∧ sumL ls.flatten t = k - m)]
  rw [Int.mul_comm, ← sumL_mul]
  refine sumL_congr (fun m _ => ?_)
  show e1 t * e2 t * (iB _ * iB _) = iB _ * e1 t * (iB _ * e2 t)
  rw [Int.mul_comm, Int.mul_assoc, Int.mul_assoc]
  congr 1
  rw [← Int.mul_assoc, Int.mul_comm (iB _) (e1 t), Int.mul_assoc]
