/-! parts of the border: numbers that are chosen, cells that they tie together -/
/-- a set of cells that no chosen number cuts -/
def Cls (w h sh : Int) (st : Int → Int) (Ch : Int → Prop) (S : Int → Prop) : Prop := ∀ n, Ch n → ∀ d ∈ NB w h sh n, st d ≤ 1 → S d → ∀ e ∈ NB w h sh n, st e ≤ 1 → S e
def Cn (w h sh : Int) (st : Int → Int) (Ch : Int → Prop) (a b : Int) : Prop := ∀ S : Int → Prop, Cls w h sh st Ch S → S a → S b
theorem Cn.refl {w h sh a : Int} {st : Int → Int} {Ch : Int → Prop} : Cn w h sh st Ch a a := fun _ _ q => q
theorem Cn.trans {w h sh a b c : Int} {st : Int → Int} {Ch : Int → Prop} (p : Cn w h sh st Ch a b) (q : Cn w h sh st Ch b c) : Cn w h sh st Ch a c := fun S hS s => q S hS (p S hS s)
theorem Cn.symm {w h sh a b : Int} {st : Int → Int} {Ch : Int → Prop} (p : Cn w h sh st Ch a b) : Cn w h sh st Ch b a := by
  intro S hS sb
  refine Classical.byContradiction (fun na => p (fun x => ¬ S x) (fun n hn d hd hu hs e he hue hse => hs (hS n hn e he hue hse d hd hu)) na sb)
theorem Cn.one {w h sh n d e : Int} {st : Int → Int} {Ch : Int → Prop} (hn : Ch n) (hd : d ∈ NB w h sh n) (ud : st d ≤ 1) (he : e ∈ NB w h sh n) (ue : st e ≤ 1) : Cn w h sh st Ch d e := fun _ hS s => hS n hn d hd ud s e he ue
def ChOk (w h sh : Int) (st : Int → Int) (Ch : Int → Prop) : Prop := ∀ n, Ch n → (0 ≤ n ∧ n < w * h) ∧ st n = 2 ∧ ∃ d ∈ NB w h sh n, st d ≤ 1
/-- what the class holds of the parts: p done, and the next one from ps p to e -/
def BI (w h sh : Int) (st : Int → Int) (Ch : Int → Prop) (p e : Int) (po ps cs : Int → Int) : Prop :=
  (0 ≤ p ∧ ps 0 = 0 ∧ (∀ q, 0 ≤ q → q < p → ps q < ps (q + 1)) ∧ ps p ≤ e) ∧
  (∀ i, 0 ≤ i → i < e → (0 ≤ cs i ∧ cs i < w * h) ∧ st (cs i) ≤ 1 ∧ ∃ n, Ch n ∧ cs i ∈ NB w h sh n) ∧
  (∀ i j, 0 ≤ i → i < j → j < e → cs i ≠ cs j) ∧
  ((∀ q i, 0 ≤ q → q < p → ps q ≤ i → i < ps (q + 1) → po (cs i) = q) ∧ (∀ i, ps p ≤ i → i < e → po (cs i) = p)) ∧
  (∀ c, 0 ≤ c → c < w * h → po c = -1 ∨ ((0 ≤ po c ∧ po c ≤ p) ∧ (Ch c ∨ (st c ≤ 1 ∧ ∃ i, 0 ≤ i ∧ i < e ∧ cs i = c)))) ∧
  (∀ d, 0 ≤ d → d < w * h → st d ≤ 1 → 0 ≤ po d → po d < p → ∀ n, Ch n → d ∈ NB w h sh n → po n = po d) ∧
  (∀ i j, 0 ≤ i → i < e → 0 ≤ j → j < e → po (cs i) = po (cs j) → Cn w h sh st Ch (cs i) (cs j))
/-- the numbers that are admitted, but for one -/
def NF (w h sh : Int) (st number hi un : Int → Int) (Ch : Int → Prop) (X : Int) (po rs uk : Int → Int) : Prop := ∀ n, Ch n → n ≠ X → ¬ po n = -1 → (∀ d ∈ NB w h sh n, st d ≤ 1 → po d = po n) ∧ rs n = number n - hi n ∧ uk n = un n
theorem ps_mono {p : Int} {ps : Int → Int} (h0 : ps 0 = 0) (hs : ∀ q, 0 ≤ q → q < p → ps q < ps (q + 1)) : ∀ (k : Nat) (q : Int), 0 ≤ q → q + k ≤ p → ps q + k ≤ ps (q + k) := by
  intro k
  induction k with
  | zero => intro q _ _; show ps q + ((0 : Nat) : Int) ≤ ps (q + ((0 : Nat) : Int)); rw [show q + ((0 : Nat) : Int) = q by omega]; omega
  | succ k ih =>
    intro q q0 q1
    have a := ih q q0 (by omega)
    have b := hs (q + k) (by omega) (by omega)
    rw [show q + ((k + 1 : Nat) : Int) = q + k + 1 by omega]
    omega
theorem BI.mono {w h sh p e : Int} {st po ps cs : Int → Int} {Ch : Int → Prop} (b : BI w h sh st Ch p e po ps cs) {q r : Int} (h0 : 0 ≤ q) (h1 : q ≤ r) (h2 : r ≤ p) : ps q + (r - q) ≤ ps r := by
  have := ps_mono b.1.2.1 b.1.2.2.1 (r - q).toNat q h0 (by omega)
  rw [show q + (((r - q).toNat : Nat) : Int) = r by omega] at this
  omega
/-- distinct cells are no more than the board has -/
theorem inj_le {n e : Int} {cs : Int → Int} (hn : 0 ≤ n) (he : 0 ≤ e) (hc : ∀ i, 0 ≤ i → i < e → 0 ≤ cs i ∧ cs i < n) (hi : ∀ i j, 0 ≤ i → i < j → j < e → cs i ≠ cs j) : e ≤ n := by
  have nd : (seg cs 0 e.toNat).Nodup := by
    unfold seg
    rw [List.nodup_iff_pairwise_ne, List.pairwise_map]
    refine List.Pairwise.imp_of_mem (fun {i j} h1 h2 hij => ?_) List.pairwise_lt_range
    have := List.mem_range.mp h2
    exact hi _ _ (by omega) (by omega) (by omega)
  have sub : seg cs 0 e.toNat ⊆ cellsL n := by
    intro x hx
    obtain ⟨i, i0, i1, i2⟩ := mem_seg.mp hx
    have := hc i i0 (by omega)
    rw [← i2]
    exact mem_cells.mpr this
  have := nd.length_le_of_subset sub
  rw [seg_len] at this
  have := cells_len hn
  omega
theorem BI.assigned {w h sh p e i : Int} {st po ps cs : Int → Int} {Ch : Int → Prop} (b : BI w h sh st Ch p e po ps cs) (i0 : 0 ≤ i) (i1 : i < e) : (∃ q, 0 ≤ q ∧ q < p ∧ ps q ≤ i ∧ i < ps (q + 1) ∧ po (cs i) = q) ∨ (ps p ≤ i ∧ po (cs i) = p) := by
  by_cases z : ps p ≤ i
  · exact Or.inr ⟨z, b.2.2.2.1.2 i z i1⟩
  · have find : ∀ k : Nat, (k : Int) ≤ p → i < ps k → ∃ q, 0 ≤ q ∧ q < p ∧ ps q ≤ i ∧ i < ps (q + 1) := by
      intro k
      induction k with
      | zero => intro _ hk; have h2 := b.1.2.1; exfalso; have : i < ps 0 := hk; omega
      | succ k ih =>
        intro h1 h2
        by_cases z2 : i < ps k
        · exact ih (by omega) z2
        · exact ⟨k, by omega, by omega, by omega, by rw [show (k : Int) + 1 = ((k + 1 : Nat) : Int) by omega]; exact h2⟩
    have pp := b.1.1
    obtain ⟨q, q0, q1, q2, q3⟩ := find p.toNat (by omega) (by rw [show ((p.toNat : Nat) : Int) = p by omega]; omega)
    exact Or.inl ⟨q, q0, q1, q2, q3, b.2.2.2.1.1 q i q0 q1 q2 q3⟩
theorem BI.po_ne {w h sh p e i : Int} {st po ps cs : Int → Int} {Ch : Int → Prop} (b : BI w h sh st Ch p e po ps cs) (i0 : 0 ≤ i) (i1 : i < e) : ¬ po (cs i) = -1 := by
  have := b.1.1
  rcases b.assigned i0 i1 with ⟨q, q0, -, -, -, q4⟩ | ⟨-, q⟩ <;> omega
theorem BI.lt {w h sh p e c : Int} {st po ps cs : Int → Int} {Ch : Int → Prop} (hn : 0 ≤ w * h) (he : 0 ≤ e) (b : BI w h sh st Ch p e po ps cs) (hc : 0 ≤ c ∧ c < w * h) (hf : po c = -1) : e < w * h := by
  have key : ∀ i, 0 ≤ i → i < e → cs i ≠ c := fun i i0 i1 ec => b.po_ne i0 i1 (by rw [ec]; exact hf)
  have := inj_le (n := w * h) (e := e + 1) (cs := upZ cs e c) hn (by omega) (fun i i0 i1 => by
    by_cases z : i = e
    · rw [z, upZ_s]; exact hc
    · rw [upZ_n _ _ z]; exact (b.2.1 i i0 (by omega)).1) (fun i j i0 ij j1 => by
    by_cases z : j = e
    · rw [z, upZ_s, upZ_n _ _ (by omega)]; exact key i i0 (by omega)
    · rw [upZ_n _ _ z, upZ_n _ _ (by omega)]; exact b.2.2.1 i j i0 ij (by omega))
  omega
/-- a cell more in the part that grows -/
theorem BI.cell {w h sh p e c n : Int} {st po ps cs : Int → Int} {Ch : Int → Prop} (cok : ChOk w h sh st Ch) (b : BI w h sh st Ch p e po ps cs) (he : 0 ≤ e) (hn : Ch n) (hc : c ∈ NB w h sh n) (hu : st c ≤ 1) (hf : po c = -1) (hi : ps p < e → ∃ i, ps p ≤ i ∧ i < e ∧ cs i ∈ NB w h sh n) : BI w h sh st Ch p (e + 1) (upZ po c p) ps (upZ cs e c) := by
  obtain ⟨⟨a1, a2, a3, a4⟩, b2, b3, ⟨b4, b4'⟩, b5, b6, b7⟩ := id b
  have cc := nb_cell hc
  have old : ∀ i, 0 ≤ i → i < e → cs i ≠ c := fun i i0 i1 ec => b.po_ne i0 i1 (by rw [ec]; exact hf)
  have psp : 0 ≤ ps p := by have := b.mono (q := 0) (r := p) (by omega) a1 (by omega); omega
  refine ⟨⟨a1, a2, a3, by omega⟩, fun i i0 i1 => ?_, fun i j i0 ij j1 => ?_, ⟨fun q i q0 q1 i0 i1 => ?_, fun i i0 i1 => ?_⟩, fun x x0 x1 => ?_, fun d d0 d1 ud p0 p1 m hm hd => ?_, fun i j i0 i1 j0 j1 hij => ?_⟩
  · by_cases z : i = e
    · rw [z, upZ_s]; exact ⟨cc, hu, n, hn, hc⟩
    · rw [upZ_n _ _ z]; exact b2 i i0 (by omega)
  · by_cases z : j = e
    · rw [z, upZ_s, upZ_n _ _ (by omega)]; exact old i i0 (by omega)
    · rw [upZ_n _ _ z, upZ_n _ _ (by omega)]; exact b3 i j i0 ij (by omega)
  · have h1 := b.mono (q := q + 1) (r := p) (by omega) (by omega) (by omega)
    have h2 := b.mono (q := 0) (r := q) (by omega) (by omega) (by omega)
    rw [upZ_n cs _ (show i ≠ e by omega), upZ_n _ _ (old i (by omega) (by omega))]
    exact b4 q i q0 q1 i0 i1
  · by_cases z : i = e
    · rw [z, upZ_s, upZ_s]
    · rw [upZ_n _ _ z, upZ_n _ _ (old i (by omega) (by omega))]; exact b4' i i0 (by omega)
  · by_cases z : x = c
    · rw [z, upZ_s]; exact Or.inr ⟨by omega, Or.inr ⟨hu, e, he, by omega, by rw [upZ_s]⟩⟩
    · rw [upZ_n _ _ z]
      rcases b5 x x0 x1 with y | ⟨y1, y2⟩
      · exact Or.inl y
      · refine Or.inr ⟨y1, ?_⟩
        rcases y2 with y2 | ⟨y2, i, i0, i1, i2⟩
        · exact Or.inl y2
        · exact Or.inr ⟨y2, i, i0, by omega, by rw [upZ_n _ _ (by omega)]; exact i2⟩
  · have mne : m ≠ c := fun z => by have := (cok m hm).2.1; rw [z] at this; omega
    by_cases z : d = c
    · rw [z, upZ_s] at p1; omega
    · rw [upZ_n _ _ z] at p0 p1 ⊢
      rw [upZ_n _ _ mne]
      exact b6 d d0 d1 ud p0 p1 m hm hd
  · -- the new one is tied to all of its part
    have tie : ∀ i, 0 ≤ i → i < e → po (cs i) = p → Cn w h sh st Ch (cs i) c := by
      intro i i0 i1 ep
      have : ps p ≤ i := by
        rcases b.assigned i0 i1 with ⟨q, -, q1, -, -, q4⟩ | ⟨q, -⟩
        · omega
        · exact q
      obtain ⟨k, k0, k1, k2⟩ := hi (by omega)
      exact (b7 i k i0 i1 (by omega) k1 (by rw [ep, b4' k k0 k1])).trans (Cn.one hn k2 (b2 k (by omega) k1).2.1 hc hu)
    by_cases zi : i = e
    · by_cases zj : j = e
      · rw [zi, zj]; exact Cn.refl
      · rw [zi, upZ_s, upZ_s, upZ_n _ _ zj, upZ_n _ _ (old j j0 (by omega))] at hij
        rw [zi, upZ_s, upZ_n _ _ zj]
        exact (tie j j0 (by omega) hij.symm).symm
    · by_cases zj : j = e
      · rw [zj, upZ_s, upZ_s, upZ_n _ _ zi, upZ_n _ _ (old i i0 (by omega))] at hij
        rw [zj, upZ_s, upZ_n _ _ zi]
        exact tie i i0 (by omega) hij
      · rw [upZ_n _ _ zi, upZ_n _ _ zj, upZ_n _ _ (old i i0 (by omega)), upZ_n _ _ (old j j0 (by omega))] at hij
        rw [upZ_n _ _ zi, upZ_n _ _ zj]
        exact b7 i j i0 (by omega) j0 (by omega) hij
/-- a number more -/
theorem BI.num {w h sh p e n : Int} {st po ps cs : Int → Int} {Ch : Int → Prop} (cok : ChOk w h sh st Ch) (b : BI w h sh st Ch p e po ps cs) (hn : Ch n) (hf : po n = -1) : BI w h sh st Ch p e (upZ po n p) ps cs := by
  obtain ⟨⟨a1, a2, a3, a4⟩, b2, b3, ⟨b4, b4'⟩, b5, b6, b7⟩ := id b
  have psp : 0 ≤ ps p := by have := b.mono (q := 0) (r := p) (by omega) a1 (by omega); omega
  have old : ∀ i, 0 ≤ i → i < e → cs i ≠ n := fun i i0 i1 ec => b.po_ne i0 i1 (by rw [ec]; exact hf)
  refine ⟨⟨a1, a2, a3, a4⟩, b2, b3, ⟨fun q i q0 q1 i0 i1 => ?_, fun i i0 i1 => ?_⟩, fun x x0 x1 => ?_, fun d d0 d1 ud p0 p1 m hm hd => ?_, fun i j i0 i1 j0 j1 hij => ?_⟩
  · have h1 := b.mono (q := q + 1) (r := p) (by omega) (by omega) (by omega)
    have h2 := b.mono (q := 0) (r := q) (by omega) (by omega) (by omega)
    rw [upZ_n _ _ (old i (by omega) (by omega))]; exact b4 q i q0 q1 i0 i1
  · rw [upZ_n _ _ (old i (by omega) i1)]; exact b4' i i0 i1
  · by_cases z : x = n
    · rw [z, upZ_s]; exact Or.inr ⟨by omega, Or.inl hn⟩
    · rw [upZ_n _ _ z]; exact b5 x x0 x1
  · have dne : d ≠ n := fun z => by have := (cok n hn).2.1; rw [← z] at this; omega
    rw [upZ_n _ _ dne] at p0 p1 ⊢
    have := b6 d d0 d1 ud p0 p1 m hm hd
    by_cases z : m = n
    · rw [z] at this; omega
    · rw [upZ_n _ _ z]; exact this
  · rw [upZ_n _ _ (old i i0 i1), upZ_n _ _ (old j j0 j1)] at hij
    exact b7 i j i0 i1 j0 j1 hij
theorem s_admit {w h sh p e n mines : Int} {mined st ci number hi un po rs uk ps cs near nearEnd : Int → Int} {Ch : Int → Prop} {post : Int → (Int → Int) → (Int → Int) → (Int → Int) → (Int → Int) → Prop} (ok : okB w h sh) (g : GeoD w h sh near nearEnd) (dm : DMi w h sh mined number mines) (ds : DSt w h sh st ci un hi) (cok : ChOk w h sh st Ch) (b : BI w h sh st Ch p e po ps cs) (nf : NF w h sh st number hi un Ch (-1) po rs uk) (he : 0 ≤ e) (hn : Ch n) (hf : po n = -1) (hi0 : ps p < e → ∃ i, ps p ≤ i ∧ i < e ∧ cs i ∈ NB w h sh n) (hp4 : p < 144)
    (hp : ∀ (e' : Int) (po' rs' uk' cs' : Int → Int), BI w h sh st Ch p e' po' ps cs' → NF w h sh st number hi un Ch (-1) po' rs' uk' → po' n = p → e ≤ e' → ps p < e' → (∀ i, i < e → cs' i = cs i) → (∀ c, ¬ po c = -1 → po' c = po c) → post e' po' rs' uk' cs') : P_X1_admit post p number st un hi near nearEnd po rs uk cs n e := by
  obtain ⟨nc, sn, d0, hd0, ud0⟩ := cok n hn
  have hle := wh_le ok
  have hge := wh_ge ok
  have hl := NB_len ok nc
  have ge := (g n nc.1 nc.2).1
  have ub := ds.unk_b ok nc.1 nc.2
  have hb := ds.hit_b ok nc.1 nc.2
  have nb := dm.num_b ok nc.1 nc.2
  have p0 := b.1.1
  -- none of its unknowns lies in a part that is done, and those that lie in one lie in this one
  have around : ∀ d ∈ NB w h sh n, st d ≤ 1 → po d = -1 ∨ po d = p := by
    intro d hd ud
    have dc := nb_cell hd
    rcases b.2.2.2.2.1 d dc.1 dc.2 with y | ⟨y, -⟩
    · exact Or.inl y
    · by_cases z : po d = p
      · exact Or.inr z
      · have := b.2.2.2.2.2.1 d dc.1 dc.2 ud y.1 (by omega) n hn hd
        omega
  unfold P_X1_admit
  refine ⟨by omega, fun po1 epo => ⟨by omega, fun v5 e5 r5 => ⟨by omega, fun v7 e7 r7 => ⟨by omega, by omega, fun rs1 ers => ⟨by omega, fun v12 e12 r12 => ⟨by omega, fun uk1 euk => ⟨by omega, fun x4 ex4 => ?_⟩⟩⟩⟩⟩⟩⟩
  have b1 : BI w h sh st Ch p e po1 ps cs := by rw [epo]; exact b.num cok hn hf
  have nf1 : NF w h sh st number hi un Ch n po1 rs1 uk1 := by
    intro m hm hmn hpm
    rw [epo, upZ_n _ _ hmn] at hpm ⊢
    obtain ⟨k1, k2, k3⟩ := nf m hm (by have := (cok m hm).1; omega) hpm
    refine ⟨fun d hd ud => ?_, by rw [ers, upZ_n _ _ hmn]; exact k2, by rw [euk, upZ_n _ _ hmn]; exact k3⟩
    rw [upZ_n _ _ (fun z => by rw [z] at ud; omega)]
    exact k1 d hd ud
  have pn : po1 n = p := by rw [epo, upZ_s]
  have keep1 : ∀ c, ¬ po c = -1 → po1 c = po c := fun c hc => by rw [epo, upZ_n _ _ (fun z => hc (by rw [z]; exact hf))]
  refine ⟨fun k e' x po' cs' => k = (nearEnd n - x).toNat ∧ 8 * n ≤ x ∧ x ≤ nearEnd n ∧ e ≤ e' ∧ BI w h sh st Ch p e' po' ps cs' ∧ NF w h sh st number hi un Ch n po' rs1 uk1 ∧ po' n = p ∧ (∀ d ∈ (NB w h sh n).take (x - 8 * n).toNat, st d ≤ 1 → po' d = p) ∧ (ps p < e' → ∃ i, ps p ≤ i ∧ i < e' ∧ cs' i ∈ NB w h sh n) ∧ (∀ i, i < e → cs' i = cs i) ∧ (∀ c, ¬ po c = -1 → po' c = po c) ∧ (∀ d ∈ NB w h sh n, st d ≤ 1 → po' d = -1 ∨ po' d = p), ⟨_, rfl, by omega, by omega, by omega, b1, nf1, pn, fun d hd => by rw [ex4, show (n * 8 - 8 * n).toNat = 0 by omega] at hd; simp at hd, hi0, fun _ _ => rfl, keep1, fun d hd ud => ?_⟩, ?_⟩
  · rw [epo, upZ_n _ _ (fun z => by rw [z] at ud; omega)]; exact around d hd ud
  rintro k e' x po' cs' re rx ⟨rfl, c1, c2, c3, c4, c5, c6, c7, c8, c9, c10, c11⟩
  refine ⟨by omega, fun v ev rv => ⟨fun q => ?_, fun q => ?_⟩⟩
  · rw [row_end g nc (by omega)] at c7
    refine hp e' po' rs1 uk1 cs' c4 (fun m hm _ hpm => ?_) c6 c3 ?_ c9 c10
    · by_cases z : m = n
      · rw [z, c6]
        exact ⟨c7, by rw [ers, upZ_s]; omega, by rw [euk, upZ_s]; omega⟩
      · exact c5 m hm z hpm
    · have h0 := c7 d0 hd0 ud0
      have dc := nb_cell hd0
      rcases c4.2.2.2.2.1 d0 dc.1 dc.2 with y | ⟨-, y | ⟨-, i, i0, i1, i2⟩⟩
      · omega
      · have := (cok d0 y).2.1; omega
      · rcases c4.assigned i0 i1 with ⟨q2, -, q1, -, -, q4⟩ | ⟨q2, -⟩
        · rw [i2] at q4; omega
        · omega
  · obtain ⟨m, tk, nm⟩ := row_at g nc c1 (by omega)
    have mc := nb_cell m
    refine ⟨by omega, fun v2 ev2 rv2 => ?_⟩
    subst ev2
    have skip : (st (near x) ≤ 1 → po' (near x) = p) → ∃ k : Nat, k < (nearEnd n - x).toNat ∧ (k = (nearEnd n - (x + 1)).toNat ∧ 8 * n ≤ x + 1 ∧ x + 1 ≤ nearEnd n ∧ e ≤ e' ∧ BI w h sh st Ch p e' po' ps cs' ∧ NF w h sh st number hi un Ch n po' rs1 uk1 ∧ po' n = p ∧ (∀ d ∈ (NB w h sh n).take (x + 1 - 8 * n).toNat, st d ≤ 1 → po' d = p) ∧ (ps p < e' → ∃ i, ps p ≤ i ∧ i < e' ∧ cs' i ∈ NB w h sh n) ∧ (∀ i, i < e → cs' i = cs i) ∧ (∀ c, ¬ po c = -1 → po' c = po c) ∧ (∀ d ∈ NB w h sh n, st d ≤ 1 → po' d = -1 ∨ po' d = p)) := by
      intro hx
      refine ⟨_, ?_, rfl, by omega, by omega, c3, c4, c5, c6, fun d hd ud => ?_, c8, c9, c10, c11⟩
      · omega
      · rw [show (x + 1 - 8 * n).toNat = (x - 8 * n).toNat + 1 by omega, tk] at hd
        rcases List.mem_append.mp hd with hd | hd
        · exact c7 d hd ud
        · rw [List.mem_singleton.mp hd] at ud ⊢; exact hx ud
    refine s_isUnknownC (by omega) (fun u hu iu _ => exJ3i ⟨fun z _ => nx (by omega) (skip (fun y => by have := iu.mpr y; omega)), fun z => ⟨by omega, fun v3 ev3 rv3 => ⟨fun z2 _ => nx (by omega) (skip (fun y => ?_)), fun z2 => ?_⟩⟩⟩)
    · rcases c11 _ m y with y2 | y2
      · omega
      · exact y2
    · have ux := iu.mp (by omega)
      have fx : po' (near x) = -1 := by omega
      have lt := c4.lt (by omega) (by omega) mc fx
      refine ⟨fun z3 => absurd z3 (by omega), fun z3 => ⟨by omega, fun po2 ep2 => ⟨by omega, fun cs2 ec2 => ⟨by omega, fun e2 ee2 _ => nx (by omega) ?_⟩⟩⟩⟩
      subst ep2 ec2 ee2
      have nn : n ≠ near x := fun z4 => by rw [← z4] at ux; omega
      refine ⟨_, ?_, rfl, by omega, by omega, by omega, c4.cell cok (by omega) hn m ux fx c8, fun m2 hm2 hmn hpm => ?_, by rw [upZ_n _ _ nn]; exact c6, fun d hd ud => ?_, fun _ => ⟨e', c4.1.2.2.2, by omega, by rw [upZ_s]; exact m⟩, fun i hi2 => by rw [upZ_n _ _ (by omega)]; exact c9 i hi2, fun c hc => ?_, fun d hd ud => ?_⟩
      · omega
      · have m2n : m2 ≠ near x := fun z4 => by have := (cok m2 hm2).2.1; rw [z4] at this; omega
        rw [upZ_n _ _ m2n] at hpm ⊢
        obtain ⟨k1, k2, k3⟩ := c5 m2 hm2 hmn hpm
        refine ⟨fun d hd ud => ?_, k2, k3⟩
        by_cases z4 : d = near x
        · have := k1 d hd ud
          rw [z4] at this; omega
        · rw [upZ_n _ _ z4]; exact k1 d hd ud
      · by_cases z4 : d = near x
        · rw [z4, upZ_s]
        · rw [upZ_n _ _ z4]
          rw [show (x + 1 - 8 * n).toNat = (x - 8 * n).toNat + 1 by omega, tk] at hd
          rcases List.mem_append.mp hd with hd | hd
          · exact c7 d hd ud
          · exact absurd (List.mem_singleton.mp hd) z4
      · rw [upZ_n _ _ (fun z4 => by rw [← z4, c10 c hc] at fx; exact hc fx)]
        exact c10 c hc
      · by_cases z4 : d = near x
        · rw [z4, upZ_s]; exact Or.inr rfl
        · rw [upZ_n _ _ z4]; exact c11 d hd ud
