/-! the reference counts the ways of a part -/
theorem sum_single {n k v : Int} (hk : 0 ≤ k ∧ k < n) : sumL (cellsL n) (fun i => if i = k then v else 0) = v := by
  have := sumL_change (f := fun _ => 0) (g := fun i => if i = k then v else 0) (x := k) (l := cellsL n) cells_nd (fun y _ hy => if_neg hy)
  rw [this, if_pos (mem_cells.2 hk), if_pos rfl, sumL_const (k := 0) (fun _ _ => rfl)]
  omega
theorem mask_sum {cond P : Int → Prop} {pl : Int → Int} : ∀ {N : List Int}, N.Nodup → (∀ d ∈ N, ∀ e ∈ N, cond d → cond e → pl d = pl e → d = e) → (∀ d ∈ N, cond d → 0 ≤ pl d ∧ pl d < 16) → sumL (cellsL 16) (fun i => iB (P i ∧ ∃ d ∈ N, cond d ∧ pl d = i)) = sumL N (fun d => iB (cond d ∧ P (pl d))) := by
  intro N
  induction N with
  | nil =>
    intro _ _ _
    rw [sumL_congr (g := fun _ => 0) (fun i _ => iB_f (fun q => by obtain ⟨-, d, md, -⟩ := q; exact absurd md List.not_mem_nil))]
    rfl
  | cons a N ih =>
    intro nd inj rng
    have nd' := List.nodup_cons.1 nd
    rw [sumL_cons, ← ih nd'.2 (fun d md e me => inj d (List.mem_cons_of_mem _ md) e (List.mem_cons_of_mem _ me)) (fun d md => rng d (List.mem_cons_of_mem _ md))]
    by_cases ca : cond a
    · have ra := rng a List.mem_cons_self ca
      rw [← sum_single (n := 16) (k := pl a) (v := iB (cond a ∧ P (pl a))) ra]
      refine sumL_add (fun i mi => ?_)
      by_cases e : i = pl a
      · rw [if_pos e]
        subst e
        have n2 : ¬ (P (pl a) ∧ ∃ d ∈ N, cond d ∧ pl d = pl a) := by
          rintro ⟨-, d, md, cd, ed⟩
          have := inj d (List.mem_cons_of_mem _ md) a List.mem_cons_self cd ca ed
          exact nd'.1 (this ▸ md)
        rw [iB_f n2, iB_iff (q := cond a ∧ P (pl a)) ⟨fun q => ⟨ca, q.1⟩, fun q => ⟨q.2, a, List.mem_cons_self, ca, rfl⟩⟩]
        omega
      · rw [if_neg e, iB_iff (q := P i ∧ ∃ d ∈ N, cond d ∧ pl d = i)]
        · omega
        · constructor
          · rintro ⟨q, d, md, cd, ed⟩
            rcases List.mem_cons.1 md with e' | md
            · subst e'
              exact absurd ed.symm e
            · exact ⟨q, d, md, cd, ed⟩
          · rintro ⟨q, d, md, cd, ed⟩
            exact ⟨q, d, List.mem_cons_of_mem _ md, cd, ed⟩
    · rw [iB_f (fun q => ca q.1)]
      have : sumL (cellsL 16) (fun i => iB (P i ∧ ∃ d ∈ a :: N, cond d ∧ pl d = i)) = sumL (cellsL 16) (fun i => iB (P i ∧ ∃ d ∈ N, cond d ∧ pl d = i)) := sumL_congr (fun i _ => iB_iff ⟨fun ⟨q, d, md, cd, ed⟩ => by
          rcases List.mem_cons.1 md with e' | md
          · subst e'
            exact absurd cd ca
          · exact ⟨q, d, md, cd, ed⟩, fun ⟨q, d, md, cd, ed⟩ => ⟨q, d, List.mem_cons_of_mem _ md, cd, ed⟩⟩)
      rw [this]
      omega
theorem BT.decs {bt : Int → Int} (h : BT bt) : ∀ {L : List Int}, L.Nodup → L.length ≤ 16 → ∀ {z : Int}, 0 ≤ z → z < pw2 L.length → bt z = sumL L (dec L z) := by
  intro L
  induction L with
  | nil =>
    intro _ _ z h0 h1
    have : z < 1 := h1
    have e : z = 0 := by omega
    subst e
    exact h.1
  | cons d l ih =>
    intro nd hl z h0 h1
    have nd' := List.nodup_cons.1 nd
    have hl' : l.length + 1 ≤ 16 := hl
    have h1' : z < 2 * pw2 l.length := h1
    have hp : pw2 l.length ≤ pw2 15 := pw2_le (by omega)
    have hp2 : pw2 15 = 32768 := rfl
    have e1 : sumL (d :: l) (dec (d :: l) z) = z % 2 + sumL l (dec l (z / 2)) := by
      rw [sumL_cons]
      show upZ _ d _ d + _ = _
      rw [upZ_s]
      have : sumL l (dec (d :: l) z) = sumL l (dec l (z / 2)) := sumL_congr (fun x m => upZ_n _ _ (show x ≠ d from fun e => nd'.1 (e ▸ m)))
      rw [this]
    rw [e1, ← ih nd'.2 (by omega) (z := z / 2) (by omega) (by omega)]
    by_cases q : z = 0
    · subst q
      have e0 : (0 : Int) / 2 = 0 := rfl
      rw [e0, h.1]
      rfl
    · have := h.2 z (by omega) (by omega)
      omega
/-- places of the cells of a part -/
def PlOk (n : Int) (st po pl : Int → Int) (p : Int) : Prop := ∀ d, 0 ≤ d → d < n → po d = p → st d ≤ 1 ∧ pl d = sumL (cellsL d) (fun e => iK p (po e)) ∧ 0 ≤ pl d ∧ pl d ≤ 15
theorem mask_bits {w h sh p n z s : Int} {st po pl bt : Int → Int} (bt_ok : BT bt) (po_ok : PlOk (w * h) st po pl p) (mk : MkO w h sh st po pl p n z) (s0 : 0 ≤ s) (s1 : s < 65536) : (0 ≤ andI s z ∧ andI s z < 65536) ∧ bt (andI s z) = sumL (NB w h sh n) (fun d => iU (st d) * dec (Lp (w * h) po p) s d) := by
  have ss : sm s := ⟨s0, by omega⟩
  have sa := and_sm ss mk.1
  have lt : andI s z < 65536 := tb_bd (k := 16) sa (fun i i0 hi => tb_lt (k := 16) ss s1 ((tb_and ss mk.1).1 hi).1 i0)
  refine ⟨⟨sa.1, lt⟩, ?_⟩
  rw [bt_ok.sum 16 (Nat.le_refl _) _ sa.1 lt]
  have e1 : sumL (cellsL ((16 : Nat) : Int)) (fun i => iB (tb (andI s z) i)) = sumL (cellsL 16) (fun i => iB (tb s i ∧ ∃ d ∈ NB w h sh n, (st d ≤ 1 ∧ po d = p) ∧ pl d = i)) := by
    refine sumL_congr (fun i mi => iB_iff ?_)
    rw [tb_and ss mk.1, mk.2.2 i (mem_cells.1 mi).1]
    constructor
    · rintro ⟨q, d, md, r1, r2, r3⟩
      exact ⟨q, d, md, ⟨r1, r2⟩, r3⟩
    · rintro ⟨q, d, md, ⟨r1, r2⟩, r3⟩
      exact ⟨q, d, md, r1, r2, r3⟩
  have get : ∀ d ∈ NB w h sh n, po d = p → (Lp (w * h) po p)[(pl d).toNat]? = some d := by
    intro d md pd
    have hd := (mem_NB.1 md).1
    rw [(po_ok d hd.1 hd.2 pd).2.1]
    exact Lp_get hd pd
  rw [e1, mask_sum (pw_nodup NB_pw)]
  · refine sumL_congr (fun d md => ?_)
    have hd := (mem_NB.1 md).1
    by_cases q : po d = p
    · obtain ⟨a1, a2, a3, a4⟩ := po_ok d hd.1 hd.2 q
      rw [dec_get Lp_nd (i := (pl d).toNat) s0 (get d md q), show iU (st d) = 1 from if_pos a1, Int.one_mul, show (((pl d).toNat : Nat) : Int) = pl d by omega]
      exact iB_iff ⟨fun r => r.2, fun r => ⟨⟨a1, q⟩, r⟩⟩
    · rw [iB_f (fun r => q r.1.2), (dec_bn d).2 (fun m => q (mem_Lp.1 m).2)]
      omega
  · rintro d md e me ⟨-, pd⟩ ⟨-, pe⟩ ee
    have h1 := get d md pd
    have h2 := get e me pe
    rw [ee, h2] at h1
    exact (Option.some.inj h1).symm
  · rintro d md ⟨-, pd⟩
    have hd := (mem_NB.1 md).1
    obtain ⟨a1, a2, a3, a4⟩ := po_ok d hd.1 hd.2 pd
    exact ⟨a3, by omega⟩
theorem s_isRightM {w h sh p N s : Int} {st po pl R ms rs bt : Int → Int} {Ch : Int → Prop} {post : Int → Prop} (cok : ChOk w h sh st Ch) (h144 : w * h ≤ 144) (bt_ok : BT bt) (po_ok : PlOk (w * h) st po pl p) (gm : GM w h sh st po pl R Ch p (w * h) N ms rs) (s0 : 0 ≤ s) (s1 : s < 65536)
    (hp : ∀ v : Int, (v = 0 ∨ v = 1) → (v = 1 ↔ SatL w h sh st R Ch (Lp (w * h) po p) (dec (Lp (w * h) po p) s)) → post v) : P_X12_isRight post N ms rs bt s := by
  have gN := gm.1
  unfold P_X12_isRight
  refine ⟨fun k v x => k = (N - x).toNat ∧ 0 ≤ x ∧ x ≤ N ∧ (v = 0 ∨ v = 1) ∧ (v = 1 ↔ ∀ k, 0 ≤ k → k < x → bt (andI s (ms k)) = rs k), ⟨_, rfl, by omega, by omega, Or.inr rfl, ⟨fun _ k _ _ => by omega, fun _ => rfl⟩⟩, ?_⟩
  rintro k v x rv rx ⟨rfl, b1, b2, b3, b4⟩
  have fin : (v = 0 ∨ x = N) → post v := by
    intro q
    refine hp v b3 ?_
    constructor
    · intro v1 n hn ⟨d, md, ml⟩
      have e : x = N := by omega
      have hd := (mem_NB.1 md).1
      have pd := (mem_Lp.1 ml).2
      obtain ⟨k, k0, k1, k2, k3⟩ := gm.2.2 n (cok n hn).1.2 hn ⟨d, md, (po_ok d hd.1 hd.2 pd).1, pd⟩
      have := b4.1 v1 k k0 (by omega)
      rw [(mask_bits bt_ok po_ok k2 s0 s1).2, k3] at this
      exact this
    · intro sat
      refine b4.2 (fun k k0 k1 => ?_)
      obtain ⟨n, hn, ⟨d, md, ud, pd⟩, k2, k3⟩ := gm.2.1 k k0 (by omega)
      rw [(mask_bits bt_ok po_ok k2 s0 s1).2, k3]
      exact sat n hn ⟨d, md, mem_Lp.2 ⟨(mem_NB.1 md).1, pd⟩⟩
  refine ⟨fun q => ⟨b3, fin (Or.inr (by omega))⟩, fun q => ⟨fun q2 => ⟨b3, fin (Or.inl q2)⟩, fun q2 => ⟨by omega, fun v1 e1 r1 => ?_⟩⟩⟩
  obtain ⟨n, hn, -, k2, k3⟩ := gm.2.1 x b1 (by omega)
  have mb := mask_bits bt_ok po_ok k2 s0 s1
  rw [← e1] at mb
  refine ⟨mb.1, fun v2 e2 r2 => ⟨by omega, fun v3 e3 r3 => exJi ⟨fun q3 _ => nx (by omega) ⟨_, ?_, rfl, by omega, by omega, Or.inl rfl, ?_⟩, fun q3 _ => nx (by omega) ⟨_, ?_, rfl, by omega, by omega, Or.inr rfl, ?_⟩⟩⟩⟩
  · omega
  · refine ⟨fun q4 => by omega, fun q4 => absurd ?_ q3⟩
    have := q4 x b1 (by omega)
    rw [e2, e3, e1]
    exact this
  · omega
  · refine ⟨fun _ k k0 k1 => ?_, fun _ => rfl⟩
    by_cases e : k = x
    · subst e
      rw [← e1, ← e2, ← e3]
      exact q3
    · exact b4.1 (by omega) k k0 (by omega)
