/-! what the numbers leave open: ways on parts, and on the whole board -/
def Sat1 (w h sh : Int) (st R : Int → Int) (n : Int) (t : Int → Int) : Prop := sumL (NB w h sh n) (fun d => iU (st d) * t d) = R n
def SatL (w h sh : Int) (st R : Int → Int) (Ch : Int → Prop) (L : List Int) (t : Int → Int) : Prop := ∀ n, Ch n → (∃ d ∈ NB w h sh n, d ∈ L) → Sat1 w h sh st R n t
def Cl (w h sh : Int) (st : Int → Int) (Ch : Int → Prop) (L : List Int) : Prop := ∀ n, Ch n → (∃ d ∈ NB w h sh n, d ∈ L) → ∀ e ∈ NB w h sh n, st e ≤ 1 → e ∈ L
def PLs (w h sh : Int) (st : Int → Int) (Ch : Int → Prop) (ls : List (List Int)) : Prop := ls.flatten.Nodup ∧ (∀ L ∈ ls, Cl w h sh st Ch L) ∧ (∀ c, c ∈ ls.flatten ↔ Bd w h sh st Ch c)
theorem Sat1.cong {w h sh n : Int} {st R s t : Int → Int} (he : ∀ d ∈ NB w h sh n, st d ≤ 1 → s d = t d) (q : Sat1 w h sh st R n s) : Sat1 w h sh st R n t := by
  unfold Sat1 at q ⊢
  rw [← q]
  refine sumL_congr (fun d m => ?_)
  by_cases k : st d ≤ 1
  · rw [he d m k]
  · rw [show iU (st d) = 0 from if_neg k]
    omega
theorem SatL.cong {w h sh : Int} {st R s t : Int → Int} {Ch : Int → Prop} {L : List Int} (cl : Cl w h sh st Ch L) (e : ∀ c ∈ L, s c = t c) (q : SatL w h sh st R Ch L s) : SatL w h sh st R Ch L t :=
  fun n hn hd => (q n hn hd).cong (fun d m u => e d (cl n hn hd d m u))
theorem SatL.mem {w h sh : Int} {st R t : Int → Int} {Ch : Int → Prop} {L M : List Int} (e : ∀ c, c ∈ L ↔ c ∈ M) : SatL w h sh st R Ch L t ↔ SatL w h sh st R Ch M t :=
  ⟨fun q n hn ⟨d, m, k⟩ => q n hn ⟨d, m, (e d).2 k⟩, fun q n hn ⟨d, m, k⟩ => q n hn ⟨d, m, (e d).1 k⟩⟩
def mS (w h sh : Int) (st R : Int → Int) (Ch : Int → Prop) (L : List Int) (m : Int) : Prop := ∃ t, Bn L t ∧ SatL w h sh st R Ch L t ∧ sumL L t = m
def mSc (w h sh : Int) (st R : Int → Int) (Ch : Int → Prop) (L : List Int) (c b m : Int) : Prop := ∃ t, Bn L t ∧ SatL w h sh st R Ch L t ∧ sumL L t = m ∧ t c = b
noncomputable def Tw (w h sh : Int) (st R : Int → Int) (Ch : Int → Prop) (L : List Int) (m : Int) : Int := asum L (fun t => iB (SatL w h sh st R Ch L t ∧ sumL L t = m))
noncomputable def Ww (w h sh : Int) (st R : Int → Int) (Ch : Int → Prop) (L : List Int) (c m : Int) : Int := asum L (fun t => iB (SatL w h sh st R Ch L t ∧ sumL L t = m) * t c)
theorem iB_pos {p : Prop} : 0 < iB p ↔ p := by
  by_cases h : p
  · rw [iB_t h]; exact ⟨fun _ => h, fun _ => Int.one_pos⟩
  · rw [iB_f h]; exact ⟨fun k => absurd k (Int.lt_irrefl _), fun k => absurd k h⟩
theorem Tw_pos {w h sh m : Int} {st R : Int → Int} {Ch : Int → Prop} {L : List Int} : 0 < Tw w h sh st R Ch L m ↔ mS w h sh st R Ch L m := by
  unfold Tw mS
  rw [asum_pos (fun t _ => (iB_b _).1)]
  constructor
  · rintro ⟨t, b, k⟩
    exact ⟨t, b, iB_pos.1 k⟩
  · rintro ⟨t, b, k⟩
    exact ⟨t, b, iB_pos.2 k⟩
theorem Ww_pos {w h sh c m : Int} {st R : Int → Int} {Ch : Int → Prop} {L : List Int} : 0 < Ww w h sh st R Ch L c m ↔ mSc w h sh st R Ch L c 1 m := by
  unfold Ww mSc
  have nn : ∀ t, Bn L t → 0 ≤ iB (SatL w h sh st R Ch L t ∧ sumL L t = m) * t c := fun t b => Int.mul_nonneg (iB_b _).1 (by rcases (b c).1 with e | e <;> omega)
  rw [asum_pos nn]
  constructor
  · rintro ⟨t, b, k⟩
    rcases (b c).1 with e | e
    · rw [e] at k; omega
    · rw [e, Int.mul_one] at k
      exact ⟨t, b, (iB_pos.1 k).1, (iB_pos.1 k).2, e⟩
  · rintro ⟨t, b, k1, k2, e⟩
    refine ⟨t, b, ?_⟩
    rw [e, iB_t ⟨k1, k2⟩]
    decide
theorem TW_sub {w h sh c m : Int} {st R : Int → Int} {Ch : Int → Prop} {L : List Int} : Tw w h sh st R Ch L m - Ww w h sh st R Ch L c m = asum L (fun t => iB (SatL w h sh st R Ch L t ∧ sumL L t = m ∧ t c = 0)) := by
  have : Tw w h sh st R Ch L m = Ww w h sh st R Ch L c m + asum L (fun t => iB (SatL w h sh st R Ch L t ∧ sumL L t = m ∧ t c = 0)) := by
    unfold Tw Ww
    rw [← asum_add]
    refine asum_congr (fun t b => ?_)
    rcases (b c).1 with e | e
    · rw [e]
      by_cases q : SatL w h sh st R Ch L t ∧ sumL L t = m
      · rw [iB_t q, iB_t ⟨q.1, q.2, rfl⟩]; rfl
      · rw [iB_f q, iB_f (fun k => q ⟨k.1, k.2.1⟩)]; rfl
    · rw [e]
      have z : iB (SatL w h sh st R Ch L t ∧ sumL L t = m ∧ (1 : Int) = 0) = 0 := iB_f (fun k => absurd k.2.2 (by decide))
      rw [z]
      omega
  omega
theorem TW_pos {w h sh c m : Int} {st R : Int → Int} {Ch : Int → Prop} {L : List Int} : 0 < Tw w h sh st R Ch L m - Ww w h sh st R Ch L c m ↔ mSc w h sh st R Ch L c 0 m := by
  rw [TW_sub, asum_pos (fun t _ => (iB_b _).1)]
  constructor
  · rintro ⟨t, b, k⟩
    exact ⟨t, b, iB_pos.1 k⟩
  · rintro ⟨t, b, k⟩
    exact ⟨t, b, iB_pos.2 k⟩
theorem Tw_bd {w h sh m : Int} {st R : Int → Int} {Ch : Int → Prop} {L : List Int} : 0 ≤ Tw w h sh st R Ch L m ∧ Tw w h sh st R Ch L m ≤ pw2 L.length := asum_bd (fun _ _ => iB_b _)
theorem Ww_bd {w h sh c m : Int} {st R : Int → Int} {Ch : Int → Prop} {L : List Int} : 0 ≤ Ww w h sh st R Ch L c m ∧ Ww w h sh st R Ch L c m ≤ Tw w h sh st R Ch L m := by
  have : 0 ≤ Tw w h sh st R Ch L m - Ww w h sh st R Ch L c m := by
    rw [TW_sub]
    exact asum_nn (fun _ _ => (iB_b _).1)
  refine ⟨asum_nn (fun t b => Int.mul_nonneg (iB_b _).1 (by rcases (b c).1 with e | e <;> omega)), by omega⟩
theorem Tw_perm {w h sh m : Int} {st R : Int → Int} {Ch : Int → Prop} {L M : List Int} (p : L.Perm M) : Tw w h sh st R Ch L m = Tw w h sh st R Ch M m := by
  unfold Tw
  rw [asum_perm p]
  refine asum_congr (fun t _ => iB_iff ?_)
  rw [SatL.mem (fun c => p.mem_iff), sumL_perm p]
theorem Ww_perm {w h sh c m : Int} {st R : Int → Int} {Ch : Int → Prop} {L M : List Int} (p : L.Perm M) : Ww w h sh st R Ch L c m = Ww w h sh st R Ch M c m := by
  unfold Ww
  rw [asum_perm p]
  refine asum_congr (fun t _ => ?_)
  rw [iB_iff (show (SatL w h sh st R Ch L t ∧ sumL L t = m) ↔ (SatL w h sh st R Ch M t ∧ sumL M t = m) by rw [SatL.mem (fun c => p.mem_iff), sumL_perm p])]
/-- sums that parts can have together -/
def RS (w h sh : Int) (st R : Int → Int) (Ch : Int → Prop) : List (List Int) → Int → Prop
  | [], k => k = 0
  | L :: ls, k => ∃ m j, mS w h sh st R Ch L m ∧ RS w h sh st R Ch ls j ∧ k = m + j
theorem RS.app {w h sh : Int} {st R : Int → Int} {Ch : Int → Prop} {a b : List (List Int)} : ∀ {k : Int}, RS w h sh st R Ch (a ++ b) k ↔ ∃ i j, RS w h sh st R Ch a i ∧ RS w h sh st R Ch b j ∧ k = i + j := by
  induction a with
  | nil =>
    intro k
    constructor
    · intro h
      exact ⟨0, k, rfl, h, by omega⟩
    · rintro ⟨i, j, h1, h2, e⟩
      have : i = 0 := h1
      have e2 : k = j := by omega
      rw [e2]
      exact h2
  | cons L a ih =>
    intro k
    constructor
    · rintro ⟨m, j, h1, h2, e⟩
      obtain ⟨i, j', h3, h4, e'⟩ := ih.1 h2
      exact ⟨m + i, j', ⟨m, i, h1, h3, rfl⟩, h4, by omega⟩
    · rintro ⟨i, j, ⟨m, i', h1, h3, e'⟩, h4, e⟩
      exact ⟨m, i' + j, h1, ih.2 ⟨i', j, h3, h4, rfl⟩, by omega⟩
theorem RS.snoc {w h sh k : Int} {st R : Int → Int} {Ch : Int → Prop} {a : List (List Int)} {L : List Int} : RS w h sh st R Ch (a ++ [L]) k ↔ ∃ i m, RS w h sh st R Ch a i ∧ mS w h sh st R Ch L m ∧ k = i + m := by
  rw [RS.app]
  constructor
  · rintro ⟨i, j, h1, ⟨m, z, h2, h3, e'⟩, e⟩
    have : z = 0 := h3
    exact ⟨i, m, h1, h2, by omega⟩
  · rintro ⟨i, m, h1, h2, e⟩
    exact ⟨i, m, h1, ⟨m, 0, h2, rfl, by omega⟩, e⟩
/-- a way, on some cells alone -/
def rst (L : List Int) (t : Int → Int) : Int → Int := fun c => if c ∈ L then t c else 0
theorem rst_in {L : List Int} {t : Int → Int} {c : Int} (h : c ∈ L) : rst L t c = t c := if_pos h
theorem rst_out {L : List Int} {t : Int → Int} {c : Int} (h : ¬ c ∈ L) : rst L t c = 0 := if_neg h
theorem rst_bn {L : List Int} {t : Int → Int} (h : ∀ c, t c = 0 ∨ t c = 1) : Bn L (rst L t) := by
  intro c
  by_cases k : c ∈ L
  · rw [rst_in k]
    exact ⟨h c, fun q => absurd k q⟩
  · rw [rst_out k]
    exact ⟨Or.inl rfl, fun _ => rfl⟩
theorem mS_rst {w h sh : Int} {st R t : Int → Int} {Ch : Int → Prop} {L : List Int} (cl : Cl w h sh st Ch L) (h01 : ∀ c, t c = 0 ∨ t c = 1) (q : SatL w h sh st R Ch L t) : mS w h sh st R Ch L (sumL L t) :=
  ⟨rst L t, rst_bn h01, q.cong cl (fun c m => (rst_in m).symm), sumL_congr (fun c m => rst_in m)⟩
theorem RS_rst {w h sh : Int} {st R t : Int → Int} {Ch : Int → Prop} (h01 : ∀ c, t c = 0 ∨ t c = 1) : ∀ {ls : List (List Int)}, (∀ L ∈ ls, Cl w h sh st Ch L ∧ SatL w h sh st R Ch L t) → RS w h sh st R Ch ls (sumL ls.flatten t) := by
  intro ls
  induction ls with
  | nil => intro _; rfl
  | cons L ls ih =>
    intro hq
    refine ⟨sumL L t, sumL ls.flatten t, mS_rst (hq L List.mem_cons_self).1 h01 (hq L List.mem_cons_self).2, ih (fun M m => hq M (List.mem_cons_of_mem _ m)), ?_⟩
    rw [List.flatten_cons, sumL_append]
/-- two ways on cells apart, as one -/
theorem bn_add {A B : List Int} {s t : Int → Int} (ha : Bn A s) (hb : Bn B t) (hd : ∀ c ∈ A, ¬ c ∈ B) : Bn (A ++ B) (fun c => s c + t c) ∧ (∀ c ∈ A, s c + t c = s c) ∧ (∀ c ∈ B, s c + t c = t c) := by
  refine ⟨fun c => ?_, fun c m => ?_, fun c m => ?_⟩
  · by_cases k : c ∈ A
    · have := (hb c).2 (hd c k)
      refine ⟨?_, fun q => absurd (List.mem_append.2 (Or.inl k)) q⟩
      rcases (ha c).1 with e | e
      · exact Or.inl (by show s c + t c = 0; omega)
      · exact Or.inr (by show s c + t c = 1; omega)
    · have := (ha c).2 k
      refine ⟨?_, fun q => ?_⟩
      · rcases (hb c).1 with e | e
        · exact Or.inl (by show s c + t c = 0; omega)
        · exact Or.inr (by show s c + t c = 1; omega)
      · have := (hb c).2 (fun m => q (List.mem_append.2 (Or.inr m)))
        show s c + t c = 0
        omega
  · have := (hb c).2 (hd c m)
    omega
  · have := (ha c).2 (fun q => hd c q m)
    omega
theorem RS_way {w h sh : Int} {st R : Int → Int} {Ch : Int → Prop} : ∀ {ls : List (List Int)} {k : Int}, ls.flatten.Nodup → (∀ L ∈ ls, Cl w h sh st Ch L) → RS w h sh st R Ch ls k → ∃ t, Bn ls.flatten t ∧ (∀ L ∈ ls, SatL w h sh st R Ch L t) ∧ sumL ls.flatten t = k := by
  intro ls
  induction ls with
  | nil =>
    intro k _ _ q
    have : k = 0 := q
    exact ⟨_, Bn.zero, fun L m => absurd m List.not_mem_nil, this.symm⟩
  | cons L ls ih =>
    rintro k nd cl ⟨m, j, ⟨s, bs, ss, es⟩, q, e⟩
    rw [List.flatten_cons] at nd ⊢
    have nd' := List.nodup_append.1 nd
    obtain ⟨t, bt, st', et⟩ := ih nd'.2.1 (fun M m => cl M (List.mem_cons_of_mem _ m)) q
    have hd : ∀ c ∈ L, ¬ c ∈ ls.flatten := fun c m m' => nd'.2.2 c m c m' rfl
    obtain ⟨b1, b2, b3⟩ := bn_add bs bt hd
    refine ⟨_, b1, fun M mM => ?_, ?_⟩
    · rcases List.mem_cons.1 mM with e' | e'
      · subst e'
        exact ss.cong (cl _ List.mem_cons_self) (fun c m => (b2 c m).symm)
      · exact (st' M e').cong (cl M (List.mem_cons_of_mem _ e')) (fun c m => (b3 c (List.mem_flatten.2 ⟨M, e', m⟩)).symm)
    · rw [sumL_append, sumL_congr b2, sumL_congr b3]
      omega
/-- any number of mines on cells that no number speaks of -/
theorem bn_any {L : List Int} (nd : L.Nodup) : ∀ {k : Int}, 0 ≤ k → k ≤ L.length → ∃ t, Bn L t ∧ sumL L t = k := by
  induction L with
  | nil =>
    intro k h0 h1
    have : k ≤ 0 := by simpa using h1
    exact ⟨_, Bn.zero, by show (0 : Int) = k; omega⟩
  | cons d l ih =>
    intro k h0 h1
    have nd' := List.nodup_cons.1 nd
    have hl : ((d :: l).length : Int) = l.length + 1 := by simp
    have eq : ∀ (t : Int → Int) (b : Int), sumL l (upZ t d b) = sumL l t := fun t b => sumL_congr (fun x m => upZ_n t b (fun e => nd'.1 (e ▸ m)))
    by_cases q : k = 0
    · subst q
      exact ⟨_, Bn.zero, sumL_const (k := 0) (fun _ _ => rfl) |>.trans (by omega)⟩
    · obtain ⟨t, bt, et⟩ := ih nd'.2 (k := k - 1) (by omega) (by omega)
      refine ⟨upZ t d 1, bt.up (Or.inr rfl), ?_⟩
      rw [sumL_cons, upZ_s, eq]
      omega
