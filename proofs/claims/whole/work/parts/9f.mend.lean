/-! the reference shifts a mine -/
theorem M_open {w h sh c : Int} {near degree mine M mined number st : Int → Int} (E : ME w h sh near degree mine M mined number st) (hc : 0 ≤ c ∧ c < w * h) : M c = 1 ↔ st c = 2 := by
  have e1 := E.2.2.2.2.2.1 c hc.1 hc.2
  constructor
  · intro k
    rw [k] at e1
    have := tr_tr (st c)
    rw [← e1] at this
    exact this.symm
  · intro k
    rw [e1, k]
    decide
theorem s_isNextM {w h sh c : Int} {near degree mine M mined number st : Int → Int} {post : Int → Prop} (E : ME w h sh near degree mine M mined number st) (hc : 0 ≤ c ∧ c < w * h) (hp : ∀ u : Int, (u = 0 ∨ u = 1) → (u = 1 ↔ NX w h sh st c) → post u) : P_X12_isNextToNumber post near degree M c := by
  have nn : ∀ d ∈ NB w h sh c, 0 ≤ iK 1 (M d) := fun d _ => (iK_b _ _).1
  have key : ¬ sumL (NB w h sh c) (fun d => iK 1 (M d)) ≤ 0 ↔ NX w h sh st c := by
    have p := sumL_pos nn
    constructor
    · intro y
      apply Classical.byContradiction
      intro z
      have : sumL (NB w h sh c) (fun d => iK 1 (M d)) = 0 := by
        rw [sumL_congr (g := fun _ => 0) (fun d md => if_neg (fun k => z ⟨d, md, (M_open E (nb_cell md)).1 k⟩)), sumL_const (k := 0) (fun _ _ => rfl)]
        omega
      omega
    · rintro ⟨d, md, k⟩ y
      have := sumL_zero nn (by omega) d md
      rw [show iK 1 (M d) = 1 from if_pos ((M_open E (nb_cell md)).2 k)] at this
      exact absurd this (by decide)
  unfold P_X12_isNextToNumber
  refine s_aroundM E.1 E.2.1 hc (fun _ => exJi ⟨fun y _ => ⟨Or.inl rfl, hp 0 (Or.inl rfl) ⟨fun q => absurd q (by decide), fun q => absurd y (key.2 q)⟩⟩, fun y _ => ⟨Or.inr rfl, hp 1 (Or.inr rfl) ⟨fun _ => key.1 y, fun _ => rfl⟩⟩⟩)
def LU (n : Int) (Q : Int → Prop) (x c : Int) : Prop := (c = -1 ∧ ∀ d, x < d → d < n → ¬ Q d) ∨ ((x < c ∧ c < n) ∧ Q c ∧ ∀ d, x < d → d < c → ¬ Q d)
theorem LU.yes {n x c : Int} {Q : Int → Prop} (hx : 0 ≤ x ∧ x < n) (q : Q x) : LU n Q (x + -1) x := Or.inr ⟨⟨by omega, hx.2⟩, q, fun d d0 d1 => by omega⟩
theorem LU.no {n x c : Int} {Q : Int → Prop} (a : LU n Q x c) (q : ¬ Q x) : LU n Q (x + -1) c := by
  rcases a with ⟨c1, c2⟩ | ⟨c1, c2, c3⟩
  · refine Or.inl ⟨c1, fun d d0 d1 => ?_⟩
    by_cases e : d = x
    · subst e; exact q
    · exact c2 d (by omega) d1
  · refine Or.inr ⟨⟨by omega, c1.2⟩, c2, fun d d0 d1 => ?_⟩
    by_cases e : d = x
    · subst e; exact q
    · exact c3 d (by omega) d1
theorem LU.fu {w h sh x y c : Int} {m st : Int → Int} (a : LU (w * h) (FUq w h sh m st x y) (-1) c) : FU w h sh m st x y c := by
  rcases a with ⟨c1, c2⟩ | ⟨c1, c2, c3⟩
  · exact Or.inl ⟨c1, fun d d0 d1 => c2 d (by omega) d1⟩
  · exact Or.inr ⟨⟨by omega, c1.2⟩, c2, fun d d0 d1 => c3 d (by omega) d1⟩
theorem s_isMendedM {w h sh : Int} {near degree mine M mined number st : Int → Int} {post : Int → (Int → Int) → Prop} (E : ME w h sh near degree mine M mined number st)
    (hp : ∀ a b : Int, FU w h sh mined st 1 1 a → FU w h sh mined st 0 0 b → ((a = -1 ∨ b = -1) → post 0 mine) ∧ (¬ (a = -1 ∨ b = -1) → post 1 (upZ (upZ mine a 0) b 1))) : P_X12_isMended post (w * h) near degree mine M := by
  have ok := E.1
  have hle := wh_le ok
  have hge := wh_ge ok
  have em := E.2.2.1
  have m01 := E.2.2.2.1
  unfold P_X12_isMended
  refine ⟨by omega, fun x0 e0 => ⟨fun n a b x => n = (x + 1).toNat ∧ -1 ≤ x ∧ x < w * h ∧ LU (w * h) (FUq w h sh mined st 1 1) x a ∧ LU (w * h) (FUq w h sh mined st 0 0) x b, ⟨_, rfl, by omega, by omega, Or.inl ⟨rfl, fun d _ _ => by omega⟩, Or.inl ⟨rfl, fun d _ _ => by omega⟩⟩, ?_⟩⟩
  rintro n a b x ra rb rx ⟨rfl, b1, b2, b3, b4⟩
  refine ⟨fun z => ?_, fun z => ?_⟩
  · have ex : x = -1 := by omega
    subst ex
    obtain ⟨h1, h2⟩ := hp a b b3.fu b4.fu
    have ab : (a = -1 ∨ 0 ≤ a ∧ a < w * h) ∧ (b = -1 ∨ 0 ≤ b ∧ b < w * h) := by
      refine ⟨?_, ?_⟩
      · rcases b3 with q | q
        · exact Or.inl q.1
        · exact Or.inr (by have := q.1; omega)
      · rcases b4 with q | q
        · exact Or.inl q.1
        · exact Or.inr (by have := q.1; omega)
    refine ⟨fun y => h1 (Or.inl (by omega)), fun y => ⟨fun y2 => ⟨by omega, fun m1 e1 => ⟨by omega, fun m2 e2 => ?_⟩⟩, fun y2 => h1 (Or.inr (by omega))⟩⟩
    rw [e2, e1]
    exact h2 (by omega)
  · have hx : 0 ≤ x ∧ x < w * h := ⟨by omega, b2⟩
    have emx := em x hx.1 hx.2
    have second : ∀ a2 : Int, LU (w * h) (FUq w h sh mined st 1 1) (x + -1) a2 → (P_X12_isUnknown (fun (c_23 : Int) => (c_23 = 0 ∨ c_23 = 1) → (∃ J_24 : (Int) → Prop, ((c_23 = 0 → (J_24 b)) ∧ (¬ c_23 = 0 → ((0 ≤ x ∧ x < 144) ∧ (∀ v_32 : Int, v_32 = mine x → (v_32 = 0 ∨ v_32 = 1) → ((¬ v_32 = 0 → (J_24 b)) ∧ (v_32 = 0 → (P_X12_isNextToNumber (fun (c_34 : Int) => (c_34 = 0 ∨ c_34 = 1) → ((¬ c_34 = 0 → (J_24 b)) ∧ (c_34 = 0 → (J_24 x)))) near degree M x))))))) ∧ (∀ (x2_26 : Int), inR x2_26 → J_24 x2_26 → (inR (x + (-1)) ∧ (∀ x3_28 : Int, x3_28 = (x + (-1)) → (∃ n_29 : Nat, n_29 < (x + 1).toNat ∧ (n_29 = (x3_28 + 1).toNat ∧ -1 ≤ x3_28 ∧ x3_28 < w * h ∧ LU (w * h) (FUq w h sh mined st 1 1) x3_28 a2 ∧ LU (w * h) (FUq w h sh mined st 0 0) x3_28 x2_26))))))) M x) := by
      intro a2 la
      have fin : ∀ b2 : Int, LU (w * h) (FUq w h sh mined st 0 0) (x + -1) b2 → inR b2 → (inR (x + (-1)) ∧ (∀ x3_28 : Int, x3_28 = (x + (-1)) → (∃ n_29 : Nat, n_29 < (x + 1).toNat ∧ (n_29 = (x3_28 + 1).toNat ∧ -1 ≤ x3_28 ∧ x3_28 < w * h ∧ LU (w * h) (FUq w h sh mined st 1 1) x3_28 a2 ∧ LU (w * h) (FUq w h sh mined st 0 0) x3_28 b2)))) := by
        intro b2 lb _
        refine ⟨by omega, fun x2 e2 => ⟨_, ?_, rfl, by omega, by omega, by rw [e2]; exact la, by rw [e2]; exact lb⟩⟩
        omega
      refine s_unkM E hx (fun u hu iu _ => exJi ⟨fun y => fin b (b4.no (fun q => by have := iu.2 q.1; omega)), fun y => ⟨by omega, fun v ev hv => ⟨fun y2 => fin b (b4.no (fun q => by have := q.2.1; omega)), fun y2 => s_isNextM E hx (fun u2 h2 i2 _ => ⟨fun y3 => fin b (b4.no (fun q => ?_)), fun y3 => fin x (LU.yes (c := 0) hx ⟨iu.1 (hu.resolve_left y), by omega, ?_⟩)⟩)⟩⟩⟩)
      · have q2 := q.2.2
        rw [← i2] at q2
        omega
      · rw [← i2]; omega
    refine s_unkM E hx (fun u hu iu _ => ⟨fun a2 => LU (w * h) (FUq w h sh mined st 1 1) (x + -1) a2, ⟨fun y => b3.no (fun q => by have := iu.2 q.1; omega), fun y => ⟨by omega, fun v ev hv => ⟨fun y2 => b3.no (fun q => by have := q.2.1; omega), fun y2 => s_isNextM E hx (fun u2 h2 i2 _ => ⟨fun y3 => b3.no (fun q => ?_), fun y3 => LU.yes (c := 0) hx ⟨iu.1 (hu.resolve_left y), by omega, ?_⟩⟩)⟩⟩⟩, fun a2 _ la => second a2 la⟩)
    · have q2 := q.2.2
      rw [← i2] at q2
      omega
    · rw [← i2]; omega
theorem NthF.ne {w h sh k c : Int} {m : Int → Int} (n : NthF w h sh m k c) : ¬ c = fc w h := n.2.1.2.1
theorem ScR.first {w h sh : Int} (ok : okB w h sh) : ∀ {k : Nat} {x : Int} {m m' : Int → Int}, ScR w h sh k x m m' → m (fc w h) = 0 → m' (fc w h) = 0 := by
  have fb := fc_in ok
  intro k
  induction k with
  | zero => intro x m m' q e; rw [← q _ fb.1 fb.2]; exact e
  | succ k ih =>
    rintro x m m' ⟨c, nc, q⟩ e
    exact ih q (by rw [upZ_n _ _ (fun y => nc.ne y.symm)]; exact e)
