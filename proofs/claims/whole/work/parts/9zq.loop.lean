set_option maxRecDepth 100000 in
set_option maxHeartbeats 4000000 in
theorem law_loop {p : Program} {l : Launch} {e : Env} {s : State} {m : MethodId} {args : Array Value} {below : List Frame} {meth : Method} {c : Code} {Q : State → Prop} {K : wK} {A : Nat → Prop} {ad1 ad2 : Nat → Nat} {b L : Nat} {xs : Nat → Int32} (hst : l.stackTraces = false) (C : Cx p room_1 m c 0 0 cL_law 7 s args RL K A) (T : tOK A s) (S : SX b L xs A s) (fin : ∀ {cells slots : Nat} {lv : List (Nat × Value)} {w : va_W}, cells ≤ room_1.cells → slots ≤ room_1.slots → WN p l e room_1 s m args below meth c cells slots Q K 7 A 1243 lv [.int (iI 1)] w) : ∀ (k : Nat) {cells slots : Nat} {n : Int} {u1 u2 : List AC}, 0 ≤ n → n + k = 512 → cells + 4 * k ≤ room_1.cells → slots + 24 * k ≤ room_1.slots → LG n u1 u2 → okW u1 → okW u2 → WN p l e room_1 s m args below meth c cells slots Q K 7 A 23 (lvL b ad1 ad2 (7 * n)) [] (wG K ad1 u1 ++ wG K ad2 u2) := by
  intro k
  induction k with
  | zero =>
    intro cells slots n u1 u2 n0 nk hc hs hg ho1 ho2
    have hL := S.2.2.2
    have C1 := C.more (cells' := cells) (slots' := slots) (by omega) (by omega)
    refine wn_iload C1 0 rfl dL_law_23 ?_
    refine wn_aload_n C1 4 rfl dL_law_25 rfl ?_
    refine wn_slen C1 S dL_law_26 ?_
    refine wn_bipush C1 (z := 7) dL_law_27 (by decide) ?_
    refine wn_isub C1 dL_law_29 ?_
    refine wn_icmp_gt C1 (tgt := 1242) (x := 7 * n) (y := (L : Int) - 7) ⟨by omega, by omega⟩ ⟨by omega, by omega⟩ dL_law_30 (by decide) (fun hq => ?_) (fun hq => ?_)
    · refine wn_iconst C1 (z := 1) dL_law_1242 rfl ?_
      exact fin (by omega) (by omega)
    · exact absurd hq (by omega)
  | succ k ih =>
    intro cells slots n u1 u2 n0 nk hc hs hg ho1 ho2
    have hL := S.2.2.2
    have C1 := C.more (cells' := cells) (slots' := slots) (by omega) (by omega)
    refine wn_iload C1 0 rfl dL_law_23 ?_
    refine wn_aload_n C1 4 rfl dL_law_25 rfl ?_
    refine wn_slen C1 S dL_law_26 ?_
    refine wn_bipush C1 (z := 7) dL_law_27 (by decide) ?_
    refine wn_isub C1 dL_law_29 ?_
    refine wn_icmp_gt C1 (tgt := 1242) (x := 7 * n) (y := (L : Int) - 7) ⟨by omega, by omega⟩ ⟨by omega, by omega⟩ dL_law_30 (by decide) (fun hq => ?_) (fun hq => ?_)
    · refine wn_iconst C1 (z := 1) dL_law_1242 rfl ?_
      exact fin (by omega) (by omega)
    · have back : ∀ u1 u2, LG (n + 1) u1 u2 → okW u1 → okW u2 → WN p l e room_1 s m args below meth c (cells + 4) (slots + 24) Q K 7 A 1236 (lvL b ad1 ad2 (7 * n)) [] (wG K ad1 u1 ++ wG K ad2 u2) := by
        intro u1 u2 hg ho1 ho2
        have C2 := C.more (cells' := cells + 4) (slots' := slots + 24) (by omega) (by omega)
        refine wn_iinc C2 (lv' := fun x => lvL b ad1 ad2 x) 0 rfl dL_law_1236 (by decide) (fun _ => rfl) (fun x hx => ?_)
        refine wn_goto C2 (tgt := 23) dL_law_1239 (by decide) ?_
        obtain rfl : x = 7 * (n + 1) := by omega
        exact ih (by omega) (by omega) (by omega) (by omega) hg ho1 ho2
      refine wn_aload_n C1 4 rfl dL_law_33 rfl ?_
      refine wn_iload C1 0 rfl dL_law_34 ?_
      refine wn_scr C1 S (by omega) (by omega) dL_law_36 ?_
      refine wn_bipush C1 (z := 15) dL_law_37 (by decide) ?_
      refine wn_iand C1 dL_law_39 ?_
      obtain ⟨a0, a1⟩ := and15 (sv xs (7 * n))
      have hk : n ≤ 511 := by omega
      have hc4 : cells + 4 ≤ room_1.cells := by omega
      have hs4 : slots + 24 ≤ room_1.slots := by omega
      have ra := andI_r (sv xs (7 * n)) 15
      generalize andI (sv xs (7 * n)) 15 = v at a0 a1 ra ⊢
      have hv : v = 0 ∨ v = 1 ∨ v = 2 ∨ v = 3 ∨ v = 4 ∨ v = 5 ∨ v = 6 ∨ v = 7 ∨ v = 8 ∨ v = 9 ∨ v = 10 ∨ v = 11 ∨ v = 12 ∨ v = 13 ∨ v = 14 ∨ v = 15 := by omega
      rcases hv with rfl | rfl | rfl | rfl | rfl | rfl | rfl | rfl | rfl | rfl | rfl | rfl | rfl | rfl | rfl | rfl
      · refine wn_tabIn C1 (tgt := 120) (off := 80) ra dL_law_40 (by decide) (by decide) rfl (by decide) ?_
        exact law_make hst C1 T S ⟨n0, hk⟩ ⟨by omega, by omega⟩ hc4 hs4 hg ho1 ho2 back
      · refine wn_tabIn C1 (tgt := 238) (off := 198) ra dL_law_40 (by decide) (by decide) rfl (by decide) ?_
        exact law_blank hst C1 T S ⟨n0, hk⟩ ⟨by omega, by omega⟩ hc4 hs4 hg ho1 ho2 back
      · refine wn_tabIn C1 (tgt := 298) (off := 258) ra dL_law_40 (by decide) (by decide) rfl (by decide) ?_
        exact law_edit hst C1 T S ⟨n0, hk⟩ ⟨by omega, by omega⟩ hc4 hs4 hg ho1 ho2 back
      · refine wn_tabIn C1 (tgt := 394) (off := 354) ra dL_law_40 (by decide) (by decide) rfl (by decide) ?_
        exact law_open hst C1 T S ⟨n0, hk⟩ ⟨by omega, by omega⟩ hc4 hs4 hg ho1 ho2 back
      · refine wn_tabIn C1 (tgt := 462) (off := 422) ra dL_law_40 (by decide) (by decide) rfl (by decide) ?_
        exact law_flag hst C1 T S ⟨n0, hk⟩ ⟨by omega, by omega⟩ hc4 hs4 hg ho1 ho2 back
      · refine wn_tabIn C1 (tgt := 537) (off := 497) ra dL_law_40 (by decide) (by decide) rfl (by decide) ?_
        exact law_chord hst C1 T S ⟨n0, hk⟩ ⟨by omega, by omega⟩ hc4 hs4 hg ho1 ho2 back
      · refine wn_tabIn C1 (tgt := 605) (off := 565) ra dL_law_40 (by decide) (by decide) rfl (by decide) ?_
        exact law_undo hst C1 T S ⟨n0, hk⟩ ⟨by omega, by omega⟩ hc4 hs4 hg ho1 ho2 back
      · refine wn_tabIn C1 (tgt := 649) (off := 609) ra dL_law_40 (by decide) (by decide) rfl (by decide) ?_
        exact law_shown hst C1 T S ⟨n0, hk⟩ ⟨by omega, by omega⟩ hc4 hs4 hg ho1 ho2 back
      · refine wn_tabIn C1 (tgt := 717) (off := 677) ra dL_law_40 (by decide) (by decide) rfl (by decide) ?_
        exact law_hint hst C1 T S ⟨n0, hk⟩ ⟨by omega, by omega⟩ hc4 hs4 hg ho1 ho2 back
      · refine wn_tabIn C1 (tgt := 761) (off := 721) ra dL_law_40 (by decide) (by decide) rfl (by decide) ?_
        exact law_reason hst C1 T S ⟨n0, hk⟩ ⟨by omega, by omega⟩ hc4 hs4 hg ho1 ho2 back
      · refine wn_tabIn C1 (tgt := 817) (off := 777) ra dL_law_40 (by decide) (by decide) rfl (by decide) ?_
        exact law_reasonCell hst C1 T S ⟨n0, hk⟩ ⟨by omega, by omega⟩ hc4 hs4 hg ho1 ho2 back
      · refine wn_tabIn C1 (tgt := 873) (off := 833) ra dL_law_40 (by decide) (by decide) rfl (by decide) ?_
        exact law_follows hst C1 T S ⟨n0, hk⟩ ⟨by omega, by omega⟩ hc4 hs4 hg ho1 ho2 back
      · refine wn_tabIn C1 (tgt := 976) (off := 936) ra dL_law_40 (by decide) (by decide) rfl (by decide) ?_
        exact law_ways hst C1 T S ⟨n0, hk⟩ ⟨by omega, by omega⟩ hc4 hs4 hg ho1 ho2 back
      · refine wn_tabIn C1 (tgt := 1020) (off := 980) ra dL_law_40 (by decide) (by decide) rfl (by decide) ?_
        exact law_share hst C1 T S ⟨n0, hk⟩ ⟨by omega, by omega⟩ hc4 hs4 hg ho1 ho2 back
      · refine wn_tabIn C1 (tgt := 1112) (off := 1072) ra dL_law_40 (by decide) (by decide) rfl (by decide) ?_
        exact law_permille hst C1 T S ⟨n0, hk⟩ ⟨by omega, by omega⟩ hc4 hs4 hg ho1 ho2 back
      · refine wn_tabIn C1 (tgt := 1180) (off := 1140) ra dL_law_40 (by decide) (by decide) rfl (by decide) ?_
        exact law_count hst C1 T S ⟨n0, hk⟩ ⟨by omega, by omega⟩ hc4 hs4 hg ho1 ho2 back
