/-! the class weighs -/
theorem fl_sub {r s : List (List Int)} (q : r.Sublist s) : r.flatten.Sublist s.flatten := by
  induction q with
  | slnil => exact List.Sublist.refl _
  | cons a _ ih => rw [List.flatten_cons]; exact ih.trans (List.sublist_append_right _ _)
  | cons_cons a _ ih => rw [List.flatten_cons, List.flatten_cons]; exact List.Sublist.append (List.Sublist.refl _) ih
theorem Lb_sub {x P but : Int} {f : Int → List Int} (h : x ≤ P) : (Lb f x but).Sublist ((List.range P.toNat).map (fun i : Nat => f (i : Int))) := by
  refine List.Sublist.trans (List.Sublist.map _ List.filter_sublist) (List.Sublist.map _ ?_)
  exact List.range_sublist.2 (by omega)
theorem PLs_mid {w h sh : Int} {st : Int → Int} {Ch : Int → Prop} {a b : List (List Int)} {L : List Int} (p : PLs w h sh st Ch (a ++ L :: b)) : PLs w h sh st Ch (a ++ b ++ [L]) := by
  have fl : (a ++ b ++ [L]).flatten = (a ++ b).flatten ++ L := by rw [List.flatten_append]; simp
  have pm : (a ++ L :: b).flatten.Perm (a ++ b ++ [L]).flatten := by
    rw [fl]
    exact flat_mid.trans List.perm_append_comm
  refine ⟨pm.nodup_iff.1 p.1, fun M hM => p.2.1 M ?_, fun c => (pm.mem_iff).symm.trans (p.2.2 c)⟩
  simp at hM ⊢
  rcases hM with h | h | h
  · exact Or.inl h
  · exact Or.inr (Or.inr h)
  · exact Or.inr (Or.inl h)
theorem NWe_one_snoc {w h sh k : Int} {st R : Int → Int} {Ch : Int → Prop} {ls : List (List Int)} {L : List Int} {e2 : (Int → Int) → Int} (nd : (ls ++ [L]).flatten.Nodup) (cl : ∀ M ∈ ls ++ [L], Cl w h sh st Ch M) (d2 : Dep L e2) : cvF (NWe w h sh st R Ch ls (fun _ => 1)) (Te w h sh st R Ch L e2) L.length k = NWe w h sh st R Ch (ls ++ [L]) e2 k := by
  have := NWe_snoc (R := R) (k := k) (e1 := fun _ => 1) (e2 := e2) nd cl (fun _ _ _ => rfl) d2
  unfold cvF
  rw [← this]
  refine asum_congr (fun t _ => ?_)
  show iB _ * (1 * e2 t) = iB _ * e2 t
  rw [Int.one_mul]
/-- what weighing tells -/
def WG (w h sh : Int) (st R : Int → Int) (Ch : Int → Prop) (ls : List (List Int)) (left : Int) (n : Nat) (c M A : Int) : Prop :=
  (c = -1 → A = SU (NWe w h sh st R Ch ls (fun _ => 1)) left n) ∧ (Bd w h sh st Ch c → M = SU (NWe w h sh st R Ch ls (fun t => t c)) left n ∧ A = SU (NWe w h sh st R Ch ls (fun _ => 1)) left n) ∧ (¬ c = -1 → ¬ Bd w h sh st Ch c → ∃ m : Nat, n = m + 1 ∧ M = ((m : Int) + 1) * SU (NWe w h sh st R Ch ls (fun _ => 1)) (left - 1) m ∧ A = SU (NWe w h sh st R Ch ls (fun _ => 1)) left n * ((m : Int) + 1))
theorem Dep_c {L : List Int} {c : Int} (h : c ∈ L) : Dep L (fun t => t c) := fun _ _ e => e c h
theorem c01 {c : Int} : ∀ t : Int → Int, (∀ c, t c = 0 ∨ t c = 1) → 0 ≤ (fun t : Int → Int => t c) t ∧ (fun t : Int → Int => t c) t ≤ 1 := fun t h => by have := h c; show 0 ≤ t c ∧ t c ≤ 1; omega
theorem o01 : ∀ t : Int → Int, (∀ c, t c = 0 ∨ t c = 1) → 0 ≤ (fun _ : Int → Int => (1 : Int)) t ∧ (fun _ : Int → Int => (1 : Int)) t ≤ 1 := fun _ _ => by show (0 : Int) ≤ 1 ∧ (1 : Int) ≤ 1; omega
theorem s_addPlac52 {w h sh P lg mines lo hi x3 X : Int} {near nearEnd mined ci st number hit un po rs uk ps cs f wt : Int → Int} {q0 ch0 tm0 lb : Int → Int64} {Ch : Int → Prop} {post : (Int → Int64) → (Int → Int64) → (Int → Int64) → Prop} (D : DE w h sh near nearEnd mined number st ci un hit mines) (cok : ChOk w h sh st Ch) (b : BS w h sh st number hit un Ch P lg po rs uk ps cs) (hn : (FrL w h sh st Ch).length ≤ 144) (hs : SerOK lb lo hi f) (hf : ∀ k, 0 ≤ f k ∧ f k ≤ X) (hX : 0 ≤ X) (hXn : X * pw2 (FrL w h sh st Ch).length ≤ pw2 144) (hq : NW6 q0 0) (hwt : (x3 = 0 ∧ ∀ j, wt j = 1) ∨ (¬ x3 = 0 ∧ ∀ j, wt j = j))
    (hp : ∀ q ch tm, NW6 q (SUw f (mines - ci 3) (FrL w h sh st Ch).length wt) → post q ch tm) : P_X5_addPlacements_9_52 post mines P lo hi ci ps q0 ch0 tm0 lb x3 := (s_addPlac D cok b hn hs hf hX hXn hq hwt hp : P_X5_addPlacements_9_53 post mines P lo hi ci ps q0 ch0 tm0 lb x3)
theorem s_addPlacY {w h sh P lg mines lo hi x3 X : Int} {near nearEnd mined ci st number hit un po rs uk ps cs f wt : Int → Int} {q0 ch0 tm0 lb : Int → Int64} {Ch : Int → Prop} {post : (Int → Int64) → (Int → Int64) → (Int → Int64) → Prop} (D : DE w h sh near nearEnd mined number st ci un hit mines) (cok : ChOk w h sh st Ch) (b : BS w h sh st number hit un Ch P lg po rs uk ps cs) (hn : (FrL w h sh st Ch).length ≤ 144) (hs : SerOK lb lo hi f) (hf : ∀ k, 0 ≤ f k ∧ f k ≤ X) (hX : 0 ≤ X) (hXn : X * pw2 (FrL w h sh st Ch).length ≤ pw2 144) (hq : NW6 q0 0) (hwt : (x3 = 0 ∧ ∀ j, wt j = 1) ∨ (¬ x3 = 0 ∧ ∀ j, wt j = j))
    (hp : ∀ q ch tm, NW6 q (SUw f (mines - ci 3) (FrL w h sh st Ch).length wt) → post q ch tm) : P_X5_addPlacements_10_52 post mines P lo hi ci ps q0 ch0 tm0 lb x3 := (s_addPlac D cok b hn hs hf hX hXn hq hwt hp : P_X5_addPlacements_9_53 post mines P lo hi ci ps q0 ch0 tm0 lb x3)
theorem s_fill52 {post : (Int → Int64) → Prop} {a : Int → Int64} {v : Int64} (hp : ∀ b : Int → Int64, (∀ j, 0 ≤ j → j < 6 → b j = v) → post b) : P_J7_fill_d0a16_52 post a v := (s_fill6 hp : P_J7_fill_d0a16_55 post a v)
theorem s_fill53 {post : (Int → Int64) → Prop} {a : Int → Int64} {v : Int64} (hp : ∀ b : Int → Int64, (∀ j, 0 ≤ j → j < 6 → b j = v) → post b) : P_J7_fill_d0a16_53 post a v := (s_fill6 hp : P_J7_fill_d0a16_55 post a v)
theorem s_tallyStart {ps : Int → Int} {p : Int} {post : Int → Prop} (h0 : 0 ≤ p ∧ p < 145) (h1 : 0 ≤ ps p ∧ ps p ≤ 144) (hp : post (ps p + p)) : P_X9_tallyStart post ps p := by
  unfold P_X9_tallyStart
  refine ⟨by omega, fun v e _ => ⟨by omega, ?_⟩⟩
  rw [e]
  exact hp
/-- the free cells, weighed -/
theorem s_weighFree {w h sh P lg mines lo hi x1 X : Int} {near nearEnd mined ci st number hit un po rs uk ps cs f : Int → Int} {m0 q0 ch0 tm0 lb : Int → Int64} {Ch : Int → Prop} {post : (Int → Int64) → (Int → Int64) → (Int → Int64) → (Int → Int64) → Prop} (D : DE w h sh near nearEnd mined number st ci un hit mines) (cok : ChOk w h sh st Ch) (b : BS w h sh st number hit un Ch P lg po rs uk ps cs) (hn : (FrL w h sh st Ch).length ≤ 144) (hs : SerOK lb lo hi f) (hf : ∀ k, 0 ≤ f k ∧ f k ≤ X) (hX : 0 ≤ X) (hXn : X * pw2 (FrL w h sh st Ch).length ≤ pw2 144) (hm : NW6 m0 0) (hq : NW6 q0 0)
    (hp : ∀ m q ch tm (M A : Int), NW6 m M → NW6 q A → (x1 = 0 → A = SU f (mines - ci 3) (FrL w h sh st Ch).length) → (¬ x1 = 0 → M = SUw f (mines - ci 3) (FrL w h sh st Ch).length (fun j => j) ∧ A = SU f (mines - ci 3) (FrL w h sh st Ch).length * (FrL w h sh st Ch).length) → post m q ch tm) : P_X5_weighFree post mines P lo hi ci ps m0 q0 ch0 tm0 lb x1 := by
  have p144 := pw144
  unfold P_X5_weighFree
  refine s_addPlac (wt := fun _ => 1) D cok b hn hs hf hX hXn hq (Or.inl ⟨rfl, fun _ => rfl⟩) (fun q1 ch1 tm1 hq1 => ?_)
  rw [SUw_one] at hq1
  refine ⟨fun z => hp _ _ _ _ _ _ hm hq1 (fun _ => rfl) (fun y => absurd z y), fun z => ?_⟩
  refine s_addPlac52 (wt := fun j => j) D cok b hn hs hf hX hXn hm (Or.inr ⟨by decide, fun _ => rfl⟩) (fun m1 ch2 tm2 hm1 => ?_)
  refine s_freeD D cok b ?_
  intro _
  have le := SU_le (left := mines - ci 3) (n := (FrL w h sh st Ch).length) hf hX
  have nn := SU_nn (left := mines - ci 3) (n := (FrL w h sh st Ch).length) (fun k => (hf k).1)
  refine s_scale53 hq1 (by omega) ?_ (fun q2 hq2 => hp _ _ _ _ _ _ hm1 hq2 (fun y => absurd y z) (fun _ => ⟨rfl, rfl⟩))
  have : SU f (mines - ci 3) (FrL w h sh st Ch).length * ((FrL w h sh st Ch).length : Int) ≤ pw2 144 * 144 := Int.mul_le_mul (by omega) (by omega) (by omega) (by have := pw2_pos 144; omega)
  omega
