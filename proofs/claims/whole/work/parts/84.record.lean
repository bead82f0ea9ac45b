/-! recording one choice of mine numbers, group by group -/
theorem bn_pos : ∀ {n : Nat} {k : Int}, 0 ≤ k → k ≤ n → 0 < bn n k := by
  have nn : ∀ (n : Nat) (k : Int), 0 ≤ bn n k := by
    intro n
    induction n with
    | zero => intro k; show 0 ≤ if k = 0 then (1 : Int) else 0; split <;> decide
    | succ n ih => intro k; show 0 ≤ bn n k + bn n (k - 1); have := ih k; have := ih (k - 1); omega
  intro n
  induction n with
  | zero =>
    intro k h0 h1
    have : k = 0 := by omega
    subst this
    decide
  | succ n ih =>
    intro k h0 h1
    show 0 < bn n k + bn n (k - 1)
    by_cases e : k = 0
    · have := ih (k := k) h0 (by omega)
      have := nn n (k - 1)
      omega
    · have := ih (k := k - 1) (by omega) (by omega)
      have := nn n k
      omega
theorem PV_pos {L : List Int} {go pk : Int → Int} : ∀ {k : Nat}, (∀ i : Int, 0 ≤ i → i < k → 0 ≤ pk i ∧ pk i ≤ (Gl L go i).length) → 0 < PV L go pk k := by
  intro k
  induction k with
  | zero => intro _; exact Int.one_pos
  | succ k ih =>
    intro h
    have h1 := h k (by omega) (by omega)
    exact Int.mul_pos (ih (fun i h0 h2 => h i h0 (by omega))) (bn_pos h1.1 h1.2)
theorem PV_le {L : List Int} {go pk : Int → Int} {k : Nat} (nd : L.Nodup) (hl : L.length ≤ 16) : 0 ≤ PV L go pk k ∧ PV L go pk k ≤ 65536 := by
  rw [← cnt_all nd]
  have b := asum_bd (L := FLg L go k) (F := fun t => iB (GY L go pk k t)) (fun t _ => iB_b _)
  have l1 : (FLg L go k).length ≤ L.length := nd_sub_len (FLg_nd nd) (fun x m => (mem_FLg.1 m).1)
  have : pw2 (FLg L go k).length ≤ pw2 16 := pw2_le (by omega)
  have e : pw2 16 = 65536 := rfl
  omega
/-- all groups settled: this is one choice -/
def Leaf (w h sh : Int) (st R : Int → Int) (Ch : Int → Prop) (L : List Int) (N : Int) (go gz pk : Int → Int) (mines v ag c : Int) : Prop :=
  (∀ t, Bn L t → GY L go pk N t → SatL w h sh st R Ch L t ∧ sumL L t = mines) ∧ v = asum L (fun t => iB (GY L go pk N t)) ∧ (∃ t, Bn L t ∧ GY L go pk N t) ∧ (ag = -1 ∨ ((0 ≤ ag ∧ ag < N) ∧ (0 ≤ pk ag ∧ pk ag ≤ 8) ∧ (1 ≤ gz ag ∧ gz ag ≤ 8) ∧ v * pk ag = gz ag * asum L (fun t => iB (GY L go pk N t) * t c)))
theorem Leaf.cn {w h sh N mines v ag c m : Int} {st R go gz pk : Int → Int} {Ch : Int → Prop} {L : List Int} (l : Leaf w h sh st R Ch L N go gz pk mines v ag c) : CNy w h sh st R Ch L (GY L go pk N) m = if m = mines then v else 0 := by
  unfold CNy
  by_cases e : m = mines
  · rw [if_pos e, l.2.1]
    exact asum_congr (fun t b => iB_iff ⟨fun q => q.2.2, fun q => ⟨(l.1 t b q).1, by rw [e]; exact (l.1 t b q).2, q⟩⟩)
  · rw [if_neg e, asum_congr (G := fun _ => 0) (fun t b => iB_f (fun q => e (by rw [← q.2.1]; exact (l.1 t b q.2.2).2))), asum_zero]
theorem Leaf.cc {w h sh N mines v ag c m : Int} {st R go gz pk : Int → Int} {Ch : Int → Prop} {L : List Int} (l : Leaf w h sh st R Ch L N go gz pk mines v ag c) : CNc w h sh st R Ch L c (GY L go pk N) m = if m = mines then asum L (fun t => iB (GY L go pk N t) * t c) else 0 := by
  unfold CNc
  by_cases e : m = mines
  · rw [if_pos e]
    exact asum_congr (fun t b => by rw [iB_iff (show (SatL w h sh st R Ch L t ∧ sumL L t = m ∧ GY L go pk N t) ↔ GY L go pk N t from ⟨fun q => q.2.2, fun q => ⟨(l.1 t b q).1, by rw [e]; exact (l.1 t b q).2, q⟩⟩)])
  · rw [if_neg e, asum_congr (G := fun _ => 0) (fun t b => by rw [iB_f (fun q => e (by rw [← q.2.1]; exact (l.1 t b q.2.2).2))]; omega), asum_zero]
theorem Leaf.ex {w h sh N mines v ag c m : Int} {st R go gz pk : Int → Int} {Ch : Int → Prop} {L : List Int} {X : (Int → Int) → Prop} {P : Prop} (l : Leaf w h sh st R Ch L N go gz pk mines v ag c) (hX : ∀ t, GY L go pk N t → (X t ↔ P)) : EXy w h sh st R Ch L (fun t => GY L go pk N t ∧ X t) m ↔ m = mines ∧ P := by
  constructor
  · rintro ⟨t, b, s, e, y, x⟩
    exact ⟨by rw [← e]; exact (l.1 t b y).2, (hX t y).1 x⟩
  · rintro ⟨e, hp⟩
    obtain ⟨t, b, y⟩ := l.2.2.1
    exact ⟨t, b, (l.1 t b y).1, by rw [e]; exact (l.1 t b y).2, y, (hX t y).2 hp⟩
theorem s_record {w h sh N p sz ag c mines v : Int} {st R go gz pk ps pS ta as gm gs : Int → Int} {Ch : Int → Prop} {L : List Int} {post : (Int → Int) → (Int → Int) → (Int → Int) → (Int → Int) → (Int → Int) → Prop} (l : Leaf w h sh st R Ch L N go gz pk mines v ag c) (hN : 0 ≤ N ∧ N ≤ 16) (hp0 : 0 ≤ p ∧ p < 144) (hps : 0 ≤ ps p ∧ ps p + p + sz < 288) (hsz : sz ≤ 16) (hm : 0 ≤ mines ∧ mines ≤ sz) (hv : 0 ≤ v ∧ v ≤ 65536)
    (hpk : ∀ i, 0 ≤ i → i < N → 0 ≤ pk i ∧ pk i ≤ gz i) (bta : ∀ m, 0 ≤ m → m ≤ sz → 0 ≤ ta (ps p + p + m) ∧ ta (ps p + p + m) + CNy w h sh st R Ch L (GY L go pk N) m ≤ 65536) (bas : ag = -1 ∨ ∀ m, 0 ≤ m → m ≤ sz → 0 ≤ as m ∧ as m + CNc w h sh st R Ch L c (GY L go pk N) m ≤ 65536) (s1 : sm (pS p)) (s2 : ∀ i, 0 ≤ i → i < N → sm (gm i) ∧ sm (gs i))
    (hp : ∀ pS' ta' as' gm' gs' : Int → Int, Adds w h sh st R Ch L N go gz p (ps p + p) sz ag c (GY L go pk N) pS ta as gm gs pS' ta' as' gm' gs' → post pS' ta' as' gm' gs') : P_X9_record post N ag p ps pS ta as gz pk gm gs mines v := by
  unfold P_X9_record
  have hsh := shl_sm (k := mines) hm.1 (by omega)
  have hcn := l.cn (m := mines)
  rw [if_pos rfl] at hcn
  have btm := bta mines hm.1 hm.2
  rw [hcn] at btm
  rintro bit rfl
  unfold P_X9_tallyStart
  refine ⟨by omega, fun a ea ra => ⟨by omega, fun _ => ⟨by omega, fun vt et rt => ⟨by omega, ?_⟩⟩⟩⟩
  have evt : vt = ta (ps p + p + mines) := by rw [et, ea]
  refine ⟨by omega, fun ta' eta => ⟨by omega, fun vp evp rvp => ⟨by omega, fun pS' epS => ?_⟩⟩⟩
  -- the parts that are the same for both ends
  have f1 : ∀ m, 0 ≤ m → m ≤ sz → ta' (ps p + p + m) = ta (ps p + p + m) + CNy w h sh st R Ch L (GY L go pk N) m := by
    intro m m0 m1
    rw [l.cn, eta, ea]
    by_cases e : m = mines
    · rw [e, upZ_s, if_pos rfl, evt]
    · rw [upZ_n _ _ (by omega), if_neg e]; omega
  have f2 : ∀ j, j < ps p + p ∨ ps p + p + sz < j → ta' j = ta j := fun j hj => by rw [eta, upZ_n _ _ (by omega)]
  have f3 : ∀ q, q ≠ p → pS' q = pS q := fun q hq => by rw [epS, upZ_n _ _ hq]
  have ex0 : ∀ m, EXy w h sh st R Ch L (GY L go pk N) m ↔ m = mines := fun m => (EXy_congr (fun t _ _ => (and_true _).symm.to_iff)).trans ((l.ex (X := fun _ => True) (P := True) (fun _ _ => Iff.rfl)).trans (and_true _).to_iff)
  have f4 : sm (pS' p) ∧ ∀ m, 0 ≤ m → (tb (pS' p) m ↔ tb (pS p) m ∨ EXy w h sh st R Ch L (GY L go pk N) m) := by
    rw [epS, upZ_s, evp]
    refine ⟨or_sm s1 hsh.1, fun m m0 => ?_⟩
    rw [tb_or s1 hsh.1, tb_shl hm.1 (by omega) m0, ex0]
  refine ⟨fun n x gm' gs' => n = (N - x).toNat ∧ 0 ≤ x ∧ x ≤ N ∧ ∀ i, 0 ≤ i → i < N → (sm (gm' i) ∧ sm (gs' i)) ∧ ∀ m, 0 ≤ m → ((tb (gm' i) m ↔ tb (gm i) m ∨ (i < x ∧ m = mines ∧ 0 < pk i)) ∧ (tb (gs' i) m ↔ tb (gs i) m ∨ (i < x ∧ m = mines ∧ pk i < gz i))), ⟨_, rfl, by omega, by omega, fun i i0 i1 => ⟨s2 i i0 i1, fun m _ => ⟨⟨Or.inl, fun y => y.elim id (fun y => by omega)⟩, ⟨Or.inl, fun y => y.elim id (fun y => by omega)⟩⟩⟩⟩, ?_⟩
  rintro n x gm' gs' rx ⟨rfl, b1, b2, b3⟩
  refine ⟨fun z => ?_, fun z => ?_⟩
  · have f5 : ∀ i, 0 ≤ i → i < N → (sm (gm' i) ∧ sm (gs' i)) ∧ ∀ m, 0 ≤ m → ((tb (gm' i) m ↔ tb (gm i) m ∨ EXy w h sh st R Ch L (fun t => GY L go pk N t ∧ 0 < sumL (Gl L go i) t) m) ∧ (tb (gs' i) m ↔ tb (gs i) m ∨ EXy w h sh st R Ch L (fun t => GY L go pk N t ∧ sumL (Gl L go i) t < gz i) m)) := by
      intro i i0 i1
      refine ⟨(b3 i i0 i1).1, fun m m0 => ?_⟩
      obtain ⟨c1, c2⟩ := (b3 i i0 i1).2 m m0
      rw [c1, c2, l.ex (P := 0 < pk i) (fun t y => by rw [y i i0 i1]), l.ex (P := pk i < gz i) (fun t y => by rw [y i i0 i1])]
      exact ⟨or_congr Iff.rfl ⟨fun y => y.2, fun y => ⟨by omega, y⟩⟩, or_congr Iff.rfl ⟨fun y => y.2, fun y => ⟨by omega, y⟩⟩⟩
    refine ⟨fun z1 => hp _ _ _ _ _ ⟨f1, f2, f3, f4, f5, Or.inl z1⟩, fun z1 => ?_⟩
    rcases l.2.2.2 with e | ⟨g1, g2, g3, g4⟩
    · exact absurd e z1
    have bam := (bas.resolve_left z1) mines hm.1 hm.2
    rw [l.cc, if_pos rfl] at bam
    have vb : 0 ≤ v * pk ag ∧ v * pk ag ≤ 65536 * 8 := ⟨Int.mul_nonneg hv.1 g2.1, Int.mul_le_mul hv.2 g2.2 g2.1 (by decide)⟩
    have nn : 0 ≤ asum L (fun t => iB (GY L go pk N t) * t c) := asum_nn (fun t b => Int.mul_nonneg (iB_b _).1 (by rcases (b c).1 with q | q <;> omega))
    refine ⟨by omega, fun v1 e1 r1 => ⟨fun z2 => by omega, fun z2 => ⟨by omega, fun v2 e2 r2 => ⟨by omega, fun v3 e3 r3 => ⟨by omega, fun v4 e4 r4 => ?_⟩⟩⟩⟩⟩
    subst e3
    have ediv : (v * pk ag).tdiv v4 = asum L (fun t => iB (GY L go pk N t) * t c) := by
      rw [g4, ← e4]
      exact Int.mul_tdiv_cancel_left _ (by omega)
    refine ⟨by omega, by omega, by omega, by rw [ediv]; omega, fun as' eas => hp _ _ _ _ _ ⟨f1, f2, f3, f4, f5, Or.inr (fun m m0 m1 => ?_)⟩⟩
    rw [l.cc, eas, ediv]
    by_cases e : m = mines
    · rw [e, upZ_s, if_pos rfl, e2]
    · rw [upZ_n _ _ e, if_neg e]; omega
  · have px := hpk x b1 (by omega)
    have smx := (b3 x b1 (by omega)).1
    refine ⟨by omega, fun v1 e1 r1 => ?_⟩
    have second : ∀ gm2 : Int → Int, (∀ i, i ≠ x → gm2 i = gm' i) → (sm (gm2 x) ∧ ∀ m, 0 ≤ m → (tb (gm2 x) m ↔ tb (gm' x) m ∨ (m = mines ∧ 0 < pk x))) → ((0 ≤ x ∧ x < 16) ∧ (∀ v_49 : Int, v_49 = pk x → inR v_49 → ((0 ≤ x ∧ x < 17) ∧ (∀ v_51 : Int, v_51 = gz x → inR v_51 → (∃ J_52 : (Int → Int) → Prop, ((v_51 ≤ v_49 → (J_52 gs')) ∧ (¬ v_51 ≤ v_49 → ((0 ≤ x ∧ x < 16) ∧ (∀ v_60 : Int, v_60 = gs' x → inR v_60 → ((0 ≤ x ∧ x < 16) ∧ (∀ S_groupSafeSet_62 : Int → Int, S_groupSafeSet_62 = upZ gs' x (orI v_60 (shlI 1 mines)) → (J_52 S_groupSafeSet_62))))))) ∧ (∀ (S_groupSafeSet_54 : Int → Int), J_52 S_groupSafeSet_54 → (inR (x + 1) ∧ (∀ x4_56 : Int, x4_56 = (x + 1) → (∃ n_57 : Nat, n_57 < (N - x).toNat ∧ (n_57 = (N - x4_56).toNat ∧ 0 ≤ x4_56 ∧ x4_56 ≤ N ∧ ∀ i, 0 ≤ i → i < N → (sm (gm2 i) ∧ sm (S_groupSafeSet_54 i)) ∧ ∀ m, 0 ≤ m → ((tb (gm2 i) m ↔ tb (gm i) m ∨ (i < x4_56 ∧ m = mines ∧ 0 < pk i)) ∧ (tb (S_groupSafeSet_54 i) m ↔ tb (gs i) m ∨ (i < x4_56 ∧ m = mines ∧ pk i < gz i))))))))))))) := by
      intro gm2 k1 k2
      refine ⟨by omega, fun v2 e2 r2 => ⟨by omega, fun v3 e3 r3 => ?_⟩⟩
      have fin : ∀ gs2 : Int → Int, (∀ i, i ≠ x → gs2 i = gs' i) → (sm (gs2 x) ∧ ∀ m, 0 ≤ m → (tb (gs2 x) m ↔ tb (gs' x) m ∨ (m = mines ∧ pk x < gz x))) → (inR (x + 1) ∧ (∀ x4_56 : Int, x4_56 = (x + 1) → (∃ n_57 : Nat, n_57 < (N - x).toNat ∧ (n_57 = (N - x4_56).toNat ∧ 0 ≤ x4_56 ∧ x4_56 ≤ N ∧ ∀ i, 0 ≤ i → i < N → (sm (gm2 i) ∧ sm (gs2 i)) ∧ ∀ m, 0 ≤ m → ((tb (gm2 i) m ↔ tb (gm i) m ∨ (i < x4_56 ∧ m = mines ∧ 0 < pk i)) ∧ (tb (gs2 i) m ↔ tb (gs i) m ∨ (i < x4_56 ∧ m = mines ∧ pk i < gz i))))))) := by
        intro gs2 k3 k4
        refine nx (by omega) ⟨_, ?_, rfl, by omega, by omega, fun i i0 i1 => ?_⟩
        · omega
        · obtain ⟨d1, d2⟩ := b3 i i0 i1
          by_cases e : i = x
          · subst e
            refine ⟨⟨k2.1, k4.1⟩, fun m m0 => ?_⟩
            obtain ⟨d3, d4⟩ := d2 m m0
            rw [k2.2 m m0, k4.2 m m0, d3, d4]
            exact ⟨⟨fun y => by rcases y with (y | y) | y; exact Or.inl y; omega; exact Or.inr ⟨by omega, y⟩, fun y => by rcases y with y | y; exact Or.inl (Or.inl y); exact Or.inr y.2⟩, ⟨fun y => by rcases y with (y | y) | y; exact Or.inl y; omega; exact Or.inr ⟨by omega, y⟩, fun y => by rcases y with y | y; exact Or.inl (Or.inl y); exact Or.inr y.2⟩⟩
          · rw [k1 i e, k3 i e]
            refine ⟨d1, fun m m0 => ?_⟩
            obtain ⟨d3, d4⟩ := d2 m m0
            rw [d3, d4]
            exact ⟨or_congr Iff.rfl ⟨fun y => ⟨by omega, y.2⟩, fun y => ⟨by omega, y.2⟩⟩, or_congr Iff.rfl ⟨fun y => ⟨by omega, y.2⟩, fun y => ⟨by omega, y.2⟩⟩⟩
      refine ⟨_, ⟨fun z2 => fin gs' (fun _ _ => rfl) ⟨smx.2, fun m _ => ⟨Or.inl, fun y => y.elim id (fun y => by omega)⟩⟩, fun z2 => ⟨by omega, fun v4 e4 r4 => ⟨by omega, fun gs2 eg2 => fin gs2 (fun i hi => by rw [eg2, upZ_n _ _ hi]) ?_⟩⟩⟩, fun _ jj => jj⟩
      rw [eg2, upZ_s, e4]
      refine ⟨or_sm smx.2 hsh.1, fun m m0 => ?_⟩
      rw [tb_or smx.2 hsh.1, tb_shl hm.1 (by omega) m0]
      exact or_congr Iff.rfl ⟨fun y => ⟨y, by omega⟩, fun y => y.1⟩
    refine ⟨_, ⟨fun z2 => second gm' (fun _ _ => rfl) ⟨smx.1, fun m _ => ⟨Or.inl, fun y => y.elim id (fun y => by omega)⟩⟩, fun z2 => ⟨by omega, fun v4 e4 r4 => ⟨by omega, fun gm2 eg2 => second gm2 (fun i hi => by rw [eg2, upZ_n _ _ hi]) ?_⟩⟩⟩, fun _ jj => jj⟩
    rw [eg2, upZ_s, e4]
    refine ⟨or_sm smx.1 hsh.1, fun m m0 => ?_⟩
    rw [tb_or smx.1 hsh.1, tb_shl hm.1 (by omega) m0]
    exact or_congr Iff.rfl ⟨fun y => ⟨y, by omega⟩, fun y => y.1⟩
