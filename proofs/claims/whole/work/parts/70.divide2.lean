/-! numbering the parts in the reference -/
/-- the reference's border, divided -/
def DV (w h sh : Int) (st : Int → Int) (Ch : Int → Prop) (fits q : Int) (po pl sz : Int → Int) : Prop :=
  (fits = 0 ∨ fits = 1) ∧ (0 ≤ q ∧ q ≤ 72) ∧ (∀ c, 0 ≤ c → c < w * h → (Bd w h sh st Ch c → 0 ≤ po c ∧ po c < q) ∧ (¬ Bd w h sh st Ch c → po c = -1)) ∧
  (∀ c e, Bd w h sh st Ch c → Bd w h sh st Ch e → (po c = po e ↔ Cn w h sh st Ch c e)) ∧
  (∀ c, Bd w h sh st Ch c → pl c = sumL (cellsL c) (fun e => iK (po c) (po e))) ∧
  (∀ p, 0 ≤ p → p < q → sz p = sumL (cellsL (w * h)) (fun e => iK p (po e)) ∧ ∃ c, Bd w h sh st Ch c ∧ po c = p) ∧
  (fits = 1 ↔ ∀ p, 0 ≤ p → p < q → sz p ≤ 16)
theorem exJ5j {α β γ δ : Type} {p : Int → α → β → γ → δ → Prop} {A : (Int → α → β → γ → δ → Prop) → Prop} (h : A (fun x a b c d => inR x → p x a b c d)) : ∃ J : Int → α → β → γ → δ → Prop, A J ∧ ∀ (x : Int) (a : α) (b : β) (c : γ) (d : δ), inR x → J x a b c d → p x a b c d := ⟨_, h, fun _ _ _ _ _ r k => k r⟩
/-- numbering, cells below x done: labels po0 before -/
def NM (w h sh : Int) (st : Int → Int) (Ch : Int → Prop) (po0 : Int → Int) (x fits q : Int) (po pl sz : Int → Int) : Prop :=
  (fits = 0 ∨ fits = 1) ∧ 0 ≤ q ∧
  (∀ c, 0 ≤ c → c < w * h → (po0 c = -1 → po c = -1) ∧ (¬ po0 c = -1 → (0 ≤ po c ∧ po c < q) ∨ (po c = po0 c ∧ x ≤ c))) ∧
  (∀ c e, (0 ≤ c ∧ c < w * h) → (0 ≤ e ∧ e < w * h) → ¬ po0 c = -1 → (po c = po e ↔ po0 c = po0 e)) ∧
  (∀ c, 0 ≤ c → c < w * h → 0 ≤ po c → po c < q → pl c = sumL (cellsL c) (fun e => iK (po0 c) (po0 e))) ∧
  (∀ p, 0 ≤ p → p < q → ∃ c, (0 ≤ c ∧ c < w * h) ∧ ¬ po0 c = -1 ∧ po c = p ∧ sz p = sumL (cellsL (w * h)) (fun e => iK (po0 c) (po0 e))) ∧
  (fits = 1 ↔ ∀ p, 0 ≤ p → p < q → sz p ≤ 16)
theorem NM.le {w h sh x fits q : Int} {st po0 po pl sz : Int → Int} {Ch : Int → Prop} (hn : 0 ≤ w * h) (cok : ChOk w h sh st Ch) (j : JL w h sh st Ch (w * h) po0) (m : NM w h sh st Ch po0 x fits q po pl sz) (hx : 0 ≤ x ∧ x < w * h) (hl : 1000 ≤ po x) (h144 : w * h ≤ 144) : 2 * (q + 1) ≤ w * h := by
  obtain ⟨m1, m2, m3, m4, m5, m6, m7⟩ := m
  have nx0 : ¬ po0 x = -1 := fun y => by have := (m3 x hx.1 hx.2).1 y; omega
  -- a cell and a number for each part, and for the one that is found
  have rep : ∀ p, ∃ c, 0 ≤ p → p ≤ q → (0 ≤ c ∧ c < w * h) ∧ ¬ po0 c = -1 ∧ (p < q → po c = p) ∧ (p = q → c = x) := by
    intro p
    by_cases y : 0 ≤ p ∧ p < q
    · obtain ⟨c, c1, c2, c3, -⟩ := m6 p y.1 y.2
      exact ⟨c, fun _ _ => ⟨c1, c2, fun _ => c3, fun z => by omega⟩⟩
    · exact ⟨x, fun _ _ => ⟨hx, nx0, fun z => by omega, fun _ => rfl⟩⟩
  let rp : Int → Int := fun p => Classical.choose (rep p)
  have hr : ∀ p, 0 ≤ p → p ≤ q → (0 ≤ rp p ∧ rp p < w * h) ∧ ¬ po0 (rp p) = -1 ∧ (p < q → po (rp p) = p) ∧ (p = q → rp p = x) := fun p => Classical.choose_spec (rep p)
  have lab : ∀ p, 0 ≤ p → p ≤ q → Ch (po0 (rp p) - 1000) ∧ st (rp p) ≤ 1 := by
    intro p p0 p1
    obtain ⟨r1, r2, -, -⟩ := hr p p0 p1
    rcases j.1 _ r1.1 r1.2 with z | z
    · exact absurd z r2
    · exact ⟨z.2.2.1, z.2.2.2.2.1⟩
  have pq : q < 1000 := by
    -- the parts have distinct cells
    have := inj_le (n := w * h) (e := q) (cs := rp) hn m2 (fun i i0 i1 => (hr i i0 (by omega)).1) (fun i j2 i0 ij j1 z => by
      have a := (hr i i0 (by omega)).2.2.1 (by omega)
      have b := (hr j2 (by omega) (by omega)).2.2.1 (by omega)
      rw [z] at a; omega)
    have l := (j.1 x hx.1 hx.2)
    rcases (m3 x hx.1 hx.2).2 nx0 with z | z
    · omega
    · rcases l with l | l
      · exact absurd l nx0
      · have := (cok _ l.2.2.1).1; have := l.2.1; have := hx.2
        by_cases y : q < 1000
        · exact y
        · exfalso
          have : w * h < 1000 ∨ 1000 ≤ w * h := by omega
          rcases this with y2 | y2
          · omega
          · omega
  have dist : ∀ i k, 0 ≤ i → i < k → k ≤ q → rp i ≠ rp k ∧ po0 (rp i) ≠ po0 (rp k) := by
    intro i k i0 ik kq
    obtain ⟨a1, a2, a3, a4⟩ := hr i i0 (by omega)
    obtain ⟨b1, b2, b3, b4⟩ := hr k (by omega) kq
    have ne : po (rp i) ≠ po (rp k) := by
      rw [a3 (by omega)]
      by_cases y : k = q
      · rw [b4 y]; omega
      · rw [b3 (by omega)]; omega
    exact ⟨fun z => ne (by rw [z]), fun z => ne ((m4 _ _ a1 b1 a2).mpr z)⟩
  have := inj_le (n := w * h) (e := 2 * (q + 1)) (cs := fun i => if i ≤ q then rp i else po0 (rp (i - (q + 1))) - 1000) hn (by omega) (fun i i0 i1 => by
    by_cases y : i ≤ q
    · simp only [if_pos y]; exact (hr i i0 y).1
    · simp only [if_neg y]
      exact (cok _ (lab (i - (q + 1)) (by omega) (by omega)).1).1) (fun i k i0 ik k1 => by
    by_cases y : k ≤ q
    · simp only [if_pos y, if_pos (show i ≤ q by omega)]; exact (dist i k i0 ik y).1
    · simp only [if_neg y]
      by_cases y2 : i ≤ q
      · simp only [if_pos y2]
        intro z
        have a := (lab i i0 y2).2
        have b := (cok _ (lab (k - (q + 1)) (by omega) (by omega)).1).2.1
        rw [z] at a; omega
      · simp only [if_neg y2]
        have := (dist (i - (q + 1)) (k - (q + 1)) (by omega) (by omega) (by omega)).2
        omega)
  exact this
theorem cnt_le {n L : Int} {po0 : Int → Int} {d : Int} (h0 : 0 ≤ d) (h1 : d ≤ n) (hn : n ≤ 144) : 0 ≤ sumL (cellsL d) (fun e => iK L (po0 e)) ∧ sumL (cellsL d) (fun e => iK L (po0 e)) ≤ 144 := cellsB ⟨h0, h1⟩ hn (fun c _ _ => iK_b _ _)
theorem cnt_skip {L a b : Int} {po0 : Int → Int} (ha : 0 ≤ a) (hab : a ≤ b) (h : ∀ e, 0 ≤ e → e < a → ¬ po0 e = L) : sumL (cellsL a) (fun e => iK L (po0 e)) = 0 := by
  rw [sumL_const (k := 0)]
  · omega
  · intro x hx
    have := mem_cells.mp hx
    exact if_neg (h x this.1 this.2)
theorem s_divideM {w h sh q : Int} {near degree mine M mined number st us po pl sz : Int → Int} {Ch : Int → Prop} {post : Int → Int → (Int → Int) → (Int → Int) → (Int → Int) → Prop} (E : ME w h sh near degree mine M mined number st) (uk : UsOk w h sh st us Ch) (cok : ChOk w h sh st Ch)
    (hp : ∀ (fits q' : Int) (po' pl' sz' : Int → Int), DV w h sh st Ch fits q' po' pl' sz' → post fits q' po' pl' sz') : P_X12_divide post (w * h) q near degree M us po pl sz := by
  have ok := E.1
  have hle := wh_le ok
  have hge := wh_ge ok
  unfold P_X12_divide
  refine ⟨fun k x po1 => k = (w * h - x).toNat ∧ 0 ≤ x ∧ x ≤ w * h ∧ ∀ c, 0 ≤ c → c < x → po1 c = -1, ⟨_, rfl, by omega, by omega, fun c _ _ => by omega⟩, ?_⟩
  rintro k x po1 rx ⟨rfl, b1, b2, b3⟩
  refine ⟨fun z => ?_, fun z => ⟨by omega, fun po2 ep2 => nx (by omega) ⟨_, ?_, rfl, by omega, by omega, fun c c0 c1 => ?_⟩⟩⟩
  · have jl0 : JL w h sh st Ch 0 po1 := ⟨fun c c0 c1 => Or.inl (b3 c c0 (by omega)), fun n hn h0 => by have := (cok n hn).1; omega, fun d e hd he hne => absurd (b3 d hd.1 (by omega)) hne⟩
    refine ⟨fun k x po2 => k = (w * h - x).toNat ∧ 0 ≤ x ∧ x ≤ w * h ∧ JL w h sh st Ch x po2, ⟨_, rfl, by omega, by omega, jl0⟩, ?_⟩
    rintro k x po2 rx2 ⟨rfl, c1, c2, c3⟩
    refine ⟨fun z2 => ?_, fun z2 => ?_⟩
    · have ex : x = w * h := by omega
      subst ex
      have lab : ∀ c, 0 ≤ c → c < w * h → ¬ po2 c = -1 → 1000 ≤ po2 c := fun c c0 c1 y => by
        rcases c3.1 c c0 c1 with z | z
        · exact absurd z y
        · exact z.1
      have nm0 : NM w h sh st Ch po2 0 1 0 po2 pl sz := ⟨Or.inr rfl, by omega, fun c c0 c1 => ⟨fun y => y, fun _ => Or.inr ⟨rfl, c0⟩⟩, fun c e _ _ _ => Iff.rfl, fun c _ _ _ _ => by omega, fun p _ _ => by omega, ⟨fun _ p _ _ => by omega, fun _ => rfl⟩⟩
      refine ⟨fun k fits y q1 po3 pl3 sz3 => k = (w * h - y).toNat ∧ 0 ≤ y ∧ y ≤ w * h ∧ NM w h sh st Ch po2 y fits q1 po3 pl3 sz3 ∧ q1 ≤ 72, ⟨_, rfl, by omega, by omega, nm0, by omega⟩, ?_⟩
      rintro k fits y q1 po3 pl3 sz3 rf ry ⟨rfl, d1, d2, d3, d6⟩
      obtain ⟨m1, m2, m3, m4, m5, m6, m7⟩ := id d3
      refine ⟨fun z3 => ⟨m1, ?_⟩, fun z3 => ?_⟩
      · have bdi : ∀ c, 0 ≤ c → c < w * h → (Bd w h sh st Ch c ↔ ¬ po2 c = -1) := by
          intro c e0 e1
          constructor
          · rintro ⟨-, uc, n, hn, hc⟩
            exact (c3.2.1 n hn (by have := (cok n hn).1; omega) c hc uc).1
          · intro hne
            rcases c3.1 c e0 e1 with z | z
            · exact absurd z hne
            · exact z.2.2.2
        have inq : ∀ c, 0 ≤ c → c < w * h → ¬ po2 c = -1 → 0 ≤ po3 c ∧ po3 c < q1 := by
          intro c e0 e1 hne
          rcases (m3 c e0 e1).2 hne with z | z
          · exact z
          · omega
        have same : ∀ c e, (0 ≤ c ∧ c < w * h) → (0 ≤ e ∧ e < w * h) → ¬ po2 c = -1 → iK (po2 c) (po2 e) = iK (po3 c) (po3 e) := by
          intro c e hc he hne
          have := m4 c e hc he hne
          by_cases y2 : po2 c = po2 e
          · rw [show iK (po2 c) (po2 e) = 1 from if_pos y2.symm, show iK (po3 c) (po3 e) = 1 from if_pos (this.mpr y2).symm]
          · rw [show iK (po2 c) (po2 e) = 0 from if_neg (fun z => y2 z.symm), show iK (po3 c) (po3 e) = 0 from if_neg (fun z => y2 (this.mp z.symm))]
        refine hp fits q1 po3 pl3 sz3 ⟨m1, ⟨m2, d6⟩, fun c e0 e1 => ⟨fun hb => inq c e0 e1 ((bdi c e0 e1).mp hb), fun hb => (m3 c e0 e1).1 (Classical.byContradiction (fun z => hb ((bdi c e0 e1).mpr z)))⟩, fun c e hc he => ?_, fun c hc => ?_, fun p p0 p1 => ?_, m7⟩
        · have nc := (bdi c hc.1.1 hc.1.2).mp hc
          rw [m4 c e hc.1 he.1 nc]
          refine ⟨fun z => c3.2.2 c e hc.1 he.1 nc z, fun z => ?_⟩
          have := z (fun x => (0 ≤ x ∧ x < w * h) ∧ po2 c = po2 x) (fun n hn a ha ua sa b hb ub => ⟨nb_cell hb, by rw [sa.2]; exact (c3.2.1 n hn (by have := (cok n hn).1; omega) a ha ua).2 b hb ub⟩) ⟨hc.1, rfl⟩
          exact this.2
        · have nc := (bdi c hc.1.1 hc.1.2).mp hc
          have iq := inq c hc.1.1 hc.1.2 nc
          rw [m5 c hc.1.1 hc.1.2 iq.1 iq.2]
          refine sumL_congr (fun e he => ?_)
          have ec := mem_cells.mp he
          exact same c e hc.1 ⟨ec.1, by have := hc.1.2; omega⟩ nc
        · obtain ⟨c, hc, nc, pc, sc⟩ := m6 p p0 p1
          refine ⟨?_, c, (bdi c hc.1 hc.2).mpr nc, pc⟩
          rw [sc]
          refine sumL_congr (fun e he => ?_)
          rw [same c e hc (mem_cells.mp he) nc, pc]
      · have hy : 0 ≤ y ∧ y < w * h := ⟨d1, by omega⟩
        refine ⟨by omega, fun v ev rv => exJ5j ⟨fun z4 _ => nx (by omega) ⟨_, ?_, rfl, by omega, by omega, ⟨m1, m2, fun c e0 e1 => ⟨(m3 c e0 e1).1, fun hne => ?_⟩, m4, m5, m6, m7⟩, d6⟩, fun z4 => ⟨by omega, fun L eL rL => ?_⟩⟩⟩
        · omega
        · rcases (m3 c e0 e1).2 hne with z5 | z5
          · exact Or.inl z5
          · by_cases ec : c = y
            · exfalso
              have := lab c e0 e1 hne
              rw [← z5.1, ec] at this; omega
            · exact Or.inr ⟨z5.1, by omega⟩
        · have ly : 1000 ≤ po3 y := by omega
          have q72 := d3.le (by omega) cok c3 hy ly hle
          have ny : ¬ po2 y = -1 := fun z5 => by have := (m3 y hy.1 hy.2).1 z5; omega
          have ey : po3 y = po2 y := by
            rcases (m3 y hy.1 hy.2).2 ny with z5 | z5
            · omega
            · exact z5.1
          have eL2 : L = po2 y := by omega
          have low : ∀ e, 0 ≤ e → e < y → ¬ po2 e = L := by
            intro e e0 e1 ee
            have ne : ¬ po2 e = -1 := by rw [ee, eL2]; exact ny
            rcases (m3 e e0 (by omega)).2 ne with z5 | z5
            · have := (m4 e y ⟨e0, by omega⟩ hy ne).mpr (by omega)
              omega
            · omega
          have isL : ∀ e, 0 ≤ e → e < w * h → (po3 e = L ↔ po2 e = L) := by
            intro e e0 e1
            have := m4 y e hy ⟨e0, e1⟩ ny
            constructor
            · intro z5; have := this.mp (by omega); omega
            · intro z5; have := this.mpr (by omega); omega
          -- the inner turn over the cells from y on
          refine ⟨fun k s d po4 pl4 => k = (w * h - d).toNat ∧ y ≤ d ∧ d ≤ w * h ∧ s = sumL (cellsL d) (fun e => iK L (po2 e)) ∧ (∀ e, 0 ≤ e → e < w * h → po4 e = (if e < d ∧ po2 e = L then q1 else po3 e)) ∧ (∀ e, 0 ≤ e → e < w * h → pl4 e = (if e < d ∧ po2 e = L then sumL (cellsL e) (fun e' => iK L (po2 e')) else pl3 e)), ⟨_, rfl, by omega, by omega, (cnt_skip d1 (Int.le_refl y) low).symm, fun e e0 e1 => (if_neg (fun z5 => low e e0 z5.1 z5.2)).symm, fun e e0 e1 => (if_neg (fun z5 => low e e0 z5.1 z5.2)).symm⟩, ?_⟩
          rintro k s d po4 pl4 rs rd ⟨rfl, e1, e2, e3, e4, e5⟩
          have sb := cnt_le (L := L) (po0 := po2) (n := w * h) (d := d) (by omega) e2 hle
          refine ⟨fun z5 => ?_, fun z5 => ?_⟩
          · have ed : d = w * h := by omega
            subst ed
            have p4 : ∀ e, 0 ≤ e → e < w * h → po4 e = (if po2 e = L then q1 else po3 e) := fun e e0 e1 => by
              rw [e4 e e0 e1]
              by_cases z6 : po2 e = L
              · rw [if_pos z6, if_pos ⟨e1, z6⟩]
              · rw [if_neg z6, if_neg (fun z7 => z6 z7.2)]
            have l4 : ∀ e, 0 ≤ e → e < w * h → pl4 e = (if po2 e = L then sumL (cellsL e) (fun e' => iK L (po2 e')) else pl3 e) := fun e e0 e1 => by
              rw [e5 e e0 e1]
              by_cases z6 : po2 e = L
              · rw [if_pos z6, if_pos ⟨e1, z6⟩]
              · rw [if_neg z6, if_neg (fun z7 => z6 z7.2)]
            refine ⟨fun sz4 => sz4 = upZ sz3 q1 s, ⟨fun z6 => absurd z6 (by omega), fun z6 => ⟨by omega, fun sz4 es4 => es4⟩⟩, fun sz4 es4 => ?_⟩
            have next : ∀ f2 : Int, (f2 = 0 ∨ f2 = 1) → (f2 = 1 ↔ (fits = 1 ∧ s ≤ 16)) → ∃ k : Nat, k < (w * h - y).toNat ∧ (k = (w * h - (y + 1)).toNat ∧ 0 ≤ y + 1 ∧ y + 1 ≤ w * h ∧ NM w h sh st Ch po2 (y + 1) f2 (q1 + 1) po4 pl4 sz4 ∧ q1 + 1 ≤ 72) := by
              intro f2 hf2 if2
              refine ⟨_, ?_, rfl, by omega, by omega, ⟨hf2, by omega, fun c c0 c1 => ⟨fun hne => ?_, fun hne => ?_⟩, fun c e hc he hne => ?_, fun c c0 c1 p0 p1 => ?_, fun p p0 p1 => ?_, ?_⟩, by omega⟩
              · omega
              · rw [p4 c c0 c1, if_neg (by omega)]; exact (m3 c c0 c1).1 hne
              · rw [p4 c c0 c1]
                by_cases z6 : po2 c = L
                · rw [if_pos z6]; exact Or.inl (by omega)
                · rw [if_neg z6]
                  rcases (m3 c c0 c1).2 hne with z7 | z7
                  · exact Or.inl (by omega)
                  · refine Or.inr ⟨z7.1, ?_⟩
                    by_cases ec : c = y
                    · rw [ec] at z6; omega
                    · omega
              · rw [p4 c hc.1 hc.2, p4 e he.1 he.2]
                have mm := m4 c e hc he hne
                have bnd : ∀ x, 0 ≤ x → x < w * h → ¬ po3 x = q1 := by
                  intro x x0 x1 z6
                  by_cases nx2 : po2 x = -1
                  · have := (m3 x x0 x1).1 nx2; omega
                  · rcases (m3 x x0 x1).2 nx2 with z7 | z7
                    · omega
                    · have := lab x x0 x1 nx2; omega
                by_cases z6 : po2 c = L
                · rw [if_pos z6]
                  by_cases z7 : po2 e = L
                  · rw [if_pos z7]; exact ⟨fun _ => by omega, fun _ => rfl⟩
                  · rw [if_neg z7]; exact ⟨fun z8 => absurd z8.symm (bnd e he.1 he.2), fun z8 => by omega⟩
                · rw [if_neg z6]
                  by_cases z7 : po2 e = L
                  · rw [if_pos z7]; exact ⟨fun z8 => absurd z8 (bnd c hc.1 hc.2), fun z8 => by omega⟩
                  · rw [if_neg z7]; exact mm
              · rw [p4 c c0 c1] at p0 p1
                rw [l4 c c0 c1]
                by_cases z6 : po2 c = L
                · rw [if_pos z6, z6]
                · rw [if_neg z6] at p0 p1 ⊢
                  have : po3 c < q1 := by
                    by_cases nc : po2 c = -1
                    · have := (m3 c c0 c1).1 nc; omega
                    · rcases (m3 c c0 c1).2 nc with z7 | z7
                      · exact z7.2
                      · have := lab c c0 c1 nc; omega
                  exact m5 c c0 c1 p0 this
              · rw [es4]
                by_cases z6 : p = q1
                · exact ⟨y, hy, ny, by rw [p4 y hy.1 hy.2, if_pos eL2.symm, z6], by rw [z6, upZ_s, e3, eL2]⟩
                · obtain ⟨c, hc, nc, pc, sc⟩ := m6 p p0 (by omega)
                  refine ⟨c, hc, nc, ?_, by rw [upZ_n _ _ z6]; exact sc⟩
                  rw [p4 c hc.1 hc.2, if_neg]
                  · exact pc
                  · intro z7
                    have := (isL c hc.1 hc.2).mpr z7
                    omega
              · rw [if2, m7, es4]
                constructor
                · rintro ⟨a1, a2⟩ p p0 p1
                  by_cases z6 : p = q1
                  · rw [z6, upZ_s]; exact a2
                  · rw [upZ_n _ _ z6]; exact a1 p p0 (by omega)
                · intro a
                  refine ⟨fun p p0 p1 => ?_, ?_⟩
                  · have := a p p0 (by omega)
                    rw [upZ_n _ _ (by omega)] at this; exact this
                  · have := a q1 m2 (by omega)
                    rw [upZ_s] at this; exact this
            refine exJi ⟨¬ (fits = 1 ∧ s ≤ 16), ⟨fun z6 => by omega, fun z6 => ⟨fun z7 => by omega, fun z7 => ⟨fun z8 => absurd z8 (by omega), fun _ _ => ⟨by omega, fun q2 eq2 _ => nx (by omega) ?_⟩⟩⟩⟩, fun z6 _ => ⟨by omega, fun q2 eq2 _ => nx (by omega) ?_⟩⟩
            · rw [eq2]; exact next 1 (Or.inr rfl) ⟨fun _ => by omega, fun _ => rfl⟩
            · rw [eq2]; exact next 0 (Or.inl rfl) ⟨fun z7 => absurd z7 (by omega), fun z7 => absurd z7 z6⟩
          · have hd : 0 ≤ d ∧ d < w * h := ⟨by omega, by omega⟩
            have pd : po4 d = po3 d := by rw [e4 d hd.1 hd.2, if_neg (by omega)]
            refine ⟨by omega, fun v2 ev2 rv2 => exJ3i ⟨fun z6 _ => nx (by omega) ⟨_, ?_, rfl, by omega, by omega, ?_, fun e e0 e1 => ?_, fun e e0 e1 => ?_⟩, fun z6 => ⟨by omega, fun po5 ep5 => ⟨by omega, fun pl5 el5 => ⟨by omega, fun s2 es2 _ => nx (by omega) ⟨_, ?_, rfl, by omega, by omega, ?_, fun e e0 e1 => ?_, fun e e0 e1 => ?_⟩⟩⟩⟩⟩⟩
            · omega
            · have nd : ¬ po2 d = L := fun z7 => z6 (by rw [ev2, pd]; exact (isL d hd.1 hd.2).mpr z7)
              rw [cells_succ hd.1, sumL_snoc, e3, show iK L (po2 d) = 0 from if_neg nd]; omega
            · have nd : ¬ po2 d = L := fun z7 => z6 (by rw [ev2, pd]; exact (isL d hd.1 hd.2).mpr z7)
              rw [e4 e e0 e1]
              by_cases z7 : e < d ∧ po2 e = L
              · rw [if_pos z7, if_pos ⟨by omega, z7.2⟩]
              · rw [if_neg z7, if_neg (fun z8 => z7 ⟨by
                  by_cases ee : e = d
                  · rw [ee] at z8; exact absurd z8.2 nd
                  · omega, z8.2⟩)]
            · have nd : ¬ po2 d = L := fun z7 => z6 (by rw [ev2, pd]; exact (isL d hd.1 hd.2).mpr z7)
              rw [e5 e e0 e1]
              by_cases z7 : e < d ∧ po2 e = L
              · rw [if_pos z7, if_pos ⟨by omega, z7.2⟩]
              · rw [if_neg z7, if_neg (fun z8 => z7 ⟨by
                  by_cases ee : e = d
                  · rw [ee] at z8; exact absurd z8.2 nd
                  · omega, z8.2⟩)]
            · omega
            · have yd : po2 d = L := (isL d hd.1 hd.2).mp (by omega)
              rw [cells_succ hd.1, sumL_snoc, es2, e3, show iK L (po2 d) = 1 from if_pos yd]
            · have yd : po2 d = L := (isL d hd.1 hd.2).mp (by omega)
              rw [ep5]
              by_cases ee : e = d
              · rw [ee, upZ_s, if_pos ⟨by omega, yd⟩]
              · rw [upZ_n _ _ ee, e4 e e0 e1]
                by_cases z7 : e < d ∧ po2 e = L
                · rw [if_pos z7, if_pos ⟨by omega, z7.2⟩]
                · rw [if_neg z7, if_neg (fun z8 => z7 ⟨by omega, z8.2⟩)]
            · have yd : po2 d = L := (isL d hd.1 hd.2).mp (by omega)
              rw [el5]
              by_cases ee : e = d
              · rw [ee, upZ_s, if_pos ⟨by omega, yd⟩]; exact e3
              · rw [upZ_n _ _ ee, e5 e e0 e1]
                by_cases z7 : e < d ∧ po2 e = L
                · rw [if_pos z7, if_pos ⟨by omega, z7.2⟩]
                · rw [if_neg z7, if_neg (fun z8 => z7 ⟨by omega, z8.2⟩)]
    · have hx : 0 ≤ x ∧ x < w * h := ⟨c1, by omega⟩
      have ux := uk x hx.1 hx.2
      refine ⟨by omega, fun v ev rv => exJ1 ⟨fun z3 => nx (by omega) ⟨_, ?_, rfl, by omega, by omega, ⟨fun c e0 e1 => ?_, fun n hn hnx d hd ud => c3.2.1 n hn ?_ d hd ud, c3.2.2⟩⟩, fun z3 => ?_⟩⟩
      · omega
      · rcases c3.1 c e0 e1 with y | y
        · exact Or.inl y
        · exact Or.inr ⟨y.1, by omega, y.2.2⟩
      · by_cases en : n = x
        · rw [en] at hn
          have := (ux.2.2.mp hn).1
          omega
        · omega
      · refine s_joinAround E hx (fun c e0 e1 => ?_) (fun c e0 e1 => ?_) (fun po3 ja => nx (by omega) ⟨_, ?_, rfl, by omega, by omega, c3.step hx (by omega) uk cok ja⟩)
        · rcases c3.1 c e0 e1 with y | y <;> omega
        · rcases c3.1 c e0 e1 with y | y <;> omega
        · omega
  · omega
  · rw [ep2]
    by_cases ec : c = x
    · rw [ec, upZ_s]
    · rw [upZ_n _ _ ec]; exact b3 c c0 (by omega)
