/-! the law's loop -/
theorem sub6 {L i : Nat} (hL : L ≤ 3072) (hi : i ≤ 3100) : (nI L - nI 6 < nI i) ↔ L < i + 6 := by
  have e : (nI L - nI 6).toInt = (L : Int) - 6 := by
    by_cases q : 6 ≤ L
    · rw [nx_sub' q, nI_toInt (by omega)]; omega
    · have : ∀ L, L < 6 → (nI L - nI 6).toInt = (L : Int) - 6 := by decide +kernel
      exact this L (by omega)
  rw [Int32.lt_iff_toInt_lt, e, nI_toInt (by omega)]
  omega
section
variable {Z : State → Prop} {p : Program} {e : Env} {s : State} {m : MethodId} {args : Array Value} {below : List Frame} {meth : Method} {cd : Code} {l : Launch} {g : ma_G} {L : Nat} {xs : Nat → Int32} {Q : ma_P}
set_option maxRecDepth 30000 in
theorem law_exit {i c sl : Nat} {h : ma_H} (hR : ma_RQ g false me_Law_law Q s args below Z) (hL : L ≤ 3072) (hi : i ≤ 3100) (hx : L < i + 6) (hc : c ≤ 601024) (hsl : sl ≤ 7293034) (hQ : Q (some (.int (nI 1))) GS h) : lwJ Z p e s m args below meth cd l g L xs 13 [some (.ref 1), some (.ref 2), some (.ref 184), some (.ref 201), some (.int (nI i)), none, none] [] c sl GS h := by
  refine ma_runS (mc := 601024) (ms := 7293034) hR po_Law_law rfl rfl [13, 19, 315, 372, 432] (by decide) 80 (by decide) ?_
  simp only [pc_Law_law_0, pc_Law_law_1, pc_Law_law_2, pc_Law_law_3, pc_Law_law_4, pc_Law_law_5, pc_Law_law_6, pc_Law_law_7, pc_Law_law_8, pc_Law_law_9, pc_Law_law_10, ma_go, ev_A, ev_B, ev_C, ev_D, Nat.reduceAdd, List.mem_cons, List.not_mem_nil, or_false, or_true, true_or, false_or, or_self, Nat.reduceEqDiff, reduceCtorEq, ↓reduceIte, List.length_cons, List.length_nil, Nat.reduceLT, Nat.reduceLeDiff, Nat.le_refl, implies_true, true_and, and_true, Option.toList, List.cons_append, List.nil_append, ev_sld, ev_slen]
  refine ⟨fun _ => ?_, fun q => absurd ((sub6 hL hi).mpr hx) q⟩
  simp only [reduceCtorEq, Bool.false_eq_true, false_implies, true_and]
  exact ⟨hc, hsl, hQ⟩
set_option maxRecDepth 30000 in
theorem law_next {i c sl : Nat} {h : ma_H} (hR : ma_RQ g false me_Law_law Q s args below Z) (hK : lwJ Z p e s m args below meth cd l g L xs 13 [some (.ref 1), some (.ref 2), some (.ref 184), some (.ref 201), some (.int (nI (i + 6))), none, none] [] c sl GS h) : lwJ Z p e s m args below meth cd l g L xs 432 [some (.ref 1), some (.ref 2), some (.ref 184), some (.ref 201), some (.int (nI i)), none, none] [] c sl GS h := by
  refine ma_runS (mc := 601024) (ms := 7293034) hR po_Law_law rfl rfl [13, 315, 372] (by decide) 80 (by decide) ?_
  simp only [pc_Law_law_0, pc_Law_law_1, pc_Law_law_2, pc_Law_law_3, pc_Law_law_4, pc_Law_law_5, pc_Law_law_6, pc_Law_law_7, pc_Law_law_8, pc_Law_law_9, pc_Law_law_10, ma_go, ev_A, ev_B, ev_C, ev_D, Nat.reduceAdd, List.mem_cons, List.not_mem_nil, or_false, or_true, true_or, false_or, or_self, Nat.reduceEqDiff, reduceCtorEq, ↓reduceIte, List.length_cons, List.length_nil, Nat.reduceLT, Nat.reduceLeDiff, Nat.le_refl, implies_true, true_and, and_true, Option.toList, List.cons_append, List.nil_append]
  rw [nI_add]
  exact hK
set_option maxRecDepth 30000 in
theorem law_loop (hR : ma_RQ g false me_Law_law Q s args below Z) (hL : L ≤ 3072) (HO : ∀ i c sl h, ST h → i + 6 ≤ L → c + 1 ≤ 601024 → sl + 6 ≤ 7293034 → (∀ h' c' sl', ST h' → c' ≤ c + 1 → sl' ≤ sl + 6 → lwJ Z p e s m args below meth cd l g L xs 432 [some (.ref 1), some (.ref 2), some (.ref 184), some (.ref 201), some (.int (nI i)), none, none] [] c' sl' GS h') → lwJ Z p e s m args below meth cd l g L xs 308 [some (.ref 1), some (.ref 2), some (.ref 184), some (.ref 201), some (.int (nI i)), none, none] [] c sl GS h) (HB : ∀ i c sl h, ST h → i + 6 ≤ L → c + 1 ≤ 601024 → sl + 6 ≤ 7293034 → (∀ h' c' sl', ST h' → c' ≤ c + 1 → sl' ≤ sl + 6 → lwJ Z p e s m args below meth cd l g L xs 432 [some (.ref 1), some (.ref 2), some (.ref 184), some (.ref 201), some (.int (nI i)), none, none] [] c' sl' GS h') → lwJ Z p e s m args below meth cd l g L xs 360 [some (.ref 1), some (.ref 2), some (.ref 184), some (.ref 201), some (.int (nI i)), none, none] [] c sl GS h) (hQ : ∀ h, Q (some (.int (nI 1))) GS h) : ∀ f i c sl h, L ≤ i + 6 * f + 5 → i ≤ 3100 → ST h → c ≤ 1000 + i → sl ≤ 20000 + 6 * i → lwJ Z p e s m args below meth cd l g L xs 13 [some (.ref 1), some (.ref 2), some (.ref 184), some (.ref 201), some (.int (nI i)), none, none] [] c sl GS h := by
  intro f
  induction f with
  | zero =>
    intro i c sl h hf hi hs hc hsl
    exact law_exit hR hL hi (by omega) (by omega) (by omega) (hQ h)
  | succ f ih =>
    intro i c sl h hf hi hs hc hsl
    by_cases hx : L < i + 6
    · exact law_exit hR hL hi hx (by omega) (by omega) (hQ h)
    · have i6 : i + 6 ≤ L := by omega
      have nx : ∀ h' c' sl', ST h' → c' ≤ c + 1 → sl' ≤ sl + 6 → lwJ Z p e s m args below meth cd l g L xs 432 [some (.ref 1), some (.ref 2), some (.ref 184), some (.ref 201), some (.int (nI i)), none, none] [] c' sl' GS h' := fun h' c' sl' s' q1 q2 => law_next hR (ih (i + 6) c' sl' h' (by omega) (by omega) s' (by omega) (by omega))
      have nx0 : ∀ h', ST h' → lwJ Z p e s m args below meth cd l g L xs 432 [some (.ref 1), some (.ref 2), some (.ref 184), some (.ref 201), some (.int (nI i)), none, none] [] c sl GS h' := fun h' s' => nx h' c sl s' (by omega) (by omega)
      have c1 : c ≤ 601024 := by omega
      have c2 : sl ≤ 7293034 := by omega
      refine ma_runS (mc := 601024) (ms := 7293034) hR po_Law_law rfl rfl [13, 434, 315, 372, 432, 25, 52, 69, 96, 101, 118, 145, 182, 267, 284, 291, 308, 343, 360, 405] (by decide) 80 (by decide) ?_
      simp only [pc_Law_law_0, pc_Law_law_1, pc_Law_law_2, pc_Law_law_3, pc_Law_law_4, pc_Law_law_5, pc_Law_law_6, pc_Law_law_7, pc_Law_law_8, pc_Law_law_9, pc_Law_law_10, ma_go, ev_A, ev_B, ev_C, ev_D, Nat.reduceAdd, List.mem_cons, List.not_mem_nil, or_false, or_true, true_or, false_or, or_self, Nat.reduceEqDiff, reduceCtorEq, ↓reduceIte, List.length_cons, List.length_nil, Nat.reduceLT, Nat.reduceLeDiff, Nat.le_refl, implies_true, true_and, and_true, Option.toList, List.cons_append, List.nil_append, ev_sld, ev_slen]
      simp only [ma_sw]
      simp only [pc_Law_law_0, pc_Law_law_1, pc_Law_law_2, pc_Law_law_3, pc_Law_law_4, pc_Law_law_5, pc_Law_law_6, pc_Law_law_7, pc_Law_law_8, pc_Law_law_9, pc_Law_law_10, ma_go, ev_A, ev_B, ev_C, ev_D, Nat.reduceAdd, List.mem_cons, List.not_mem_nil, or_false, or_true, true_or, false_or, or_self, Nat.reduceEqDiff, reduceCtorEq, ↓reduceIte, List.length_cons, List.length_nil, Nat.reduceLT, Nat.reduceLeDiff, Nat.le_refl, implies_true, true_and, and_true, Option.toList, List.cons_append, List.nil_append]
      refine ⟨fun q => absurd ((sub6 hL hi).mp q) hx, fun _ => ⟨vp_in_nI (by omega) (by omega), ⟨fun _ => lc_load hR hs i6 hL c1 c2 nx0, fun _ => lc_write hR hs i6 hL c1 c2 nx0, fun _ => lc_letter hR hs i6 hL c1 c2 nx0, fun _ => lc_clear hR hs i6 hL c1 c2 nx0, fun _ => lc_read hR hs i6 hL c1 c2 nx0, fun _ => lc_readCut hR hs i6 hL c1 c2 nx0, fun _ => lc_readGrown hR hs i6 hL c1 c2 nx0, fun _ => lc_forge hR hs i6 hL c1 c2 nx0, fun _ => lc_shuffle hR hs i6 hL c1 c2 nx0, fun _ => lc_heap hR hs i6 hL c1 c2 nx0, fun _ => lc_decode hR hs i6 hL c1 c2 nx0, fun _ => HO i c sl h hs i6 (by omega) (by omega) nx, fun _ => lc_count hR hs i6 hL c1 c2 nx0, fun _ => HB i c sl h hs i6 (by omega) (by omega) nx, fun _ => lc_product hR hs i6 hL c1 c2 nx0⟩, fun _ => nx0 h hs⟩⟩
end
