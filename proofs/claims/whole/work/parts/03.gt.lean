/-- the words that all rows rest on -/
def GT : List Cond := lw_tbl.filter goodWord
theorem gt_t {w : Cond} (h : w ∈ tables_1) (hg : goodWord w = true) : w ∈ GT := List.mem_filter.mpr ⟨List.mem_append_right _ h, hg⟩
theorem gt_1 {w : Cond} (i : Nat) (h : tables_1_1[i]? = some w) (hg : goodWord w = true) : w ∈ GT := gt_t ((fun h => List.mem_append_left _ h) (List.mem_of_getElem? h)) hg
theorem gt_2 {w : Cond} (i : Nat) (h : tables_1_2[i]? = some w) (hg : goodWord w = true) : w ∈ GT := gt_t ((fun h => List.mem_append_right _ (List.mem_append_left _ h)) (List.mem_of_getElem? h)) hg
theorem gt_3 {w : Cond} (i : Nat) (h : tables_1_3[i]? = some w) (hg : goodWord w = true) : w ∈ GT := gt_t ((fun h => List.mem_append_right _ (List.mem_append_right _ (List.mem_append_left _ h))) (List.mem_of_getElem? h)) hg
theorem gt_4 {w : Cond} (i : Nat) (h : tables_1_4[i]? = some w) (hg : goodWord w = true) : w ∈ GT := gt_t ((fun h => List.mem_append_right _ (List.mem_append_right _ (List.mem_append_right _ (List.mem_append_left _ h)))) (List.mem_of_getElem? h)) hg
theorem gt_5 {w : Cond} (i : Nat) (h : tables_1_5[i]? = some w) (hg : goodWord w = true) : w ∈ GT := gt_t ((fun h => List.mem_append_right _ (List.mem_append_right _ (List.mem_append_right _ (List.mem_append_right _ (List.mem_append_left _ h))))) (List.mem_of_getElem? h)) hg
theorem gt_6 {w : Cond} (i : Nat) (h : tables_1_6[i]? = some w) (hg : goodWord w = true) : w ∈ GT := gt_t ((fun h => List.mem_append_right _ (List.mem_append_right _ (List.mem_append_right _ (List.mem_append_right _ (List.mem_append_right _ (List.mem_append_left _ h)))))) (List.mem_of_getElem? h)) hg
theorem gt_7 {w : Cond} (i : Nat) (h : tables_1_7[i]? = some w) (hg : goodWord w = true) : w ∈ GT := gt_t ((fun h => List.mem_append_right _ (List.mem_append_right _ (List.mem_append_right _ (List.mem_append_right _ (List.mem_append_right _ (List.mem_append_right _ (List.mem_append_left _ h))))))) (List.mem_of_getElem? h)) hg
theorem gt_8 {w : Cond} (i : Nat) (h : tables_1_8[i]? = some w) (hg : goodWord w = true) : w ∈ GT := gt_t ((fun h => List.mem_append_right _ (List.mem_append_right _ (List.mem_append_right _ (List.mem_append_right _ (List.mem_append_right _ (List.mem_append_right _ (List.mem_append_right _ (h)))))))) (List.mem_of_getElem? h)) hg
theorem gt_s {w : Cond} (i : Nat) (h : (k2_sels lw_privs)[i]? = some w) (hg : goodWord w = true) : w ∈ GT := List.mem_filter.mpr ⟨List.mem_append_left _ (List.mem_of_getElem? h), hg⟩
theorem gt_ok {w : Cond} (h : w ∈ GT) : w ∈ GT ∧ ((w.onTables && w.keeps) = true ∨ ∃ ty, w = .arrayClass ty) := ⟨h, good_of_word (List.mem_filter.mp h).2⟩
theorem gt_in {ws : List Cond} (h : ∀ w ∈ ws, w ∈ GT) : GoodIn GT ws := fun w hw => gt_ok (h w hw)
/-- a kind of object: its words, its types, its names -/
def kOK (C : String) (T : u_T) (N : Nat) : Prop := (∀ w ∈ u_ws C T N, w ∈ GT) ∧ (∃ ty0 : Nat → FieldType, ∀ k, k < N → parseFieldDescriptor (T k).2.2.1 = some (ty0 k)) ∧ (∀ a, a < N → ∀ b, b < N → a ≠ b → (T a).2.1 ≠ (T b).2.1)
