/-! the law's loop, but the calls of its two helpers -/
theorem vq {i L d : Nat} (hi : i + 6 ≤ L) (hL : L ≤ 3072) (hd : d < 6) : vp_in (nI (i + d)) L := vp_in_nI (by omega) (by omega)
abbrev lw_w0 : Cond := Cond.code me_Law_law.1 me_Law_law.2.1 me_Law_law.2.2.1 me_Law_law.2.2.2.1
abbrev lwJ (Z : State → Prop) (p : Program) (e : Env) (s : State) (m : MethodId) (args : Array Value) (below : List Frame) (meth : Method) (cd : Code) (l : Launch) (g : ma_G) (L : Nat) (xs : Nat → Int32) : ma_K := ma_JS lw_w0 Z p e s m args below meth cd l g false (some (L, xs)) me_Law_law pr_Law_law
section
variable {Z : State → Prop} {p : Program} {e : Env} {s : State} {m : MethodId} {args : Array Value} {below : List Frame} {meth : Method} {cd : Code} {l : Launch} {g : ma_G} {L : Nat} {xs : Nat → Int32} {Q : ma_P} {i c sl : Nat} {h : ma_H}
set_option maxRecDepth 30000 in
theorem lc_load (hQ : ma_RQ g false me_Law_law Q s args below Z) (hs : ST h) (hi : i + 6 ≤ L) (hL : L ≤ 3072) (hc : c ≤ 601024) (hsl : sl ≤ 7293034) (hK : ∀ h', ST h' → lwJ Z p e s m args below meth cd l g L xs 432 [some (.ref 1), some (.ref 2), some (.ref 184), some (.ref 201), some (.int (nI i)), none, none] [] c sl GS h') : lwJ Z p e s m args below meth cd l g L xs 25 [some (.ref 1), some (.ref 2), some (.ref 184), some (.ref 201), some (.int (nI i)), none, none] [] c sl GS h := by
  refine ma_runS (mc := 601024) (ms := 7293034) hQ po_Law_law rfl rfl [13, 315, 372, 432] (by decide) 120 (by decide) ?_
  obtain ⟨P1, hM1, n1⟩ := pc_load l g false hs _ _
  simp only [pc_Law_law_0, pc_Law_law_1, pc_Law_law_2, pc_Law_law_3, pc_Law_law_4, pc_Law_law_5, pc_Law_law_6, pc_Law_law_7, pc_Law_law_8, pc_Law_law_9, pc_Law_law_10, ma_go, ev_A, ev_B, ev_C, ev_D, Nat.reduceAdd, List.mem_cons, List.not_mem_nil, or_false, or_true, true_or, false_or, or_self, Nat.reduceEqDiff, reduceCtorEq, ↓reduceIte, List.length_cons, List.length_nil, Nat.reduceLT, Nat.reduceLeDiff, Nat.le_refl, implies_true, true_and, and_true, Option.toList, List.cons_append, List.nil_append, gs_2, ev_sld, ev_slen]
  simp only [nI_add]
  refine ⟨vq hi hL (by omega), vq hi hL (by omega), ?_⟩
  refine ma_callP mt_Arc_load rfl rfl (Nat.le_of_ble_eq_true rfl) hc hsl hM1 ?_
  intro r S1 h1 hp1
  obtain ⟨⟨w, rfl⟩, rfl, P2, hM2, n2⟩ := n1 r S1 h1 hp1
  simp only [pc_Law_law_0, pc_Law_law_1, pc_Law_law_2, pc_Law_law_3, pc_Law_law_4, pc_Law_law_5, pc_Law_law_6, pc_Law_law_7, pc_Law_law_8, pc_Law_law_9, pc_Law_law_10, ma_go, ev_A, ev_B, ev_C, ev_D, Nat.reduceAdd, List.mem_cons, List.not_mem_nil, or_false, or_true, true_or, false_or, or_self, Nat.reduceEqDiff, reduceCtorEq, ↓reduceIte, List.length_cons, List.length_nil, Nat.reduceLT, Nat.reduceLeDiff, Nat.le_refl, implies_true, true_and, and_true, Option.toList, List.cons_append, List.nil_append, gs_184, ev_sld, ev_slen]
  simp only [nI_add]
  refine ⟨vq hi hL (by omega), vq hi hL (by omega), ?_⟩
  refine ma_callP mt_Mod_load rfl rfl (Nat.le_of_ble_eq_true rfl) hc hsl hM2 ?_
  intro r2 S2 h2 hp2
  obtain ⟨rfl, rfl, st⟩ := n2 r2 S2 h2 hp2
  simp only [pc_Law_law_0, pc_Law_law_1, pc_Law_law_2, pc_Law_law_3, pc_Law_law_4, pc_Law_law_5, pc_Law_law_6, pc_Law_law_7, pc_Law_law_8, pc_Law_law_9, pc_Law_law_10, ma_go, ev_A, ev_B, ev_C, ev_D, Nat.reduceAdd, List.mem_cons, List.not_mem_nil, or_false, or_true, true_or, false_or, or_self, Nat.reduceEqDiff, reduceCtorEq, ↓reduceIte, List.length_cons, List.length_nil, Nat.reduceLT, Nat.reduceLeDiff, Nat.le_refl, implies_true, true_and, and_true, Option.toList, List.cons_append, List.nil_append]
  exact ⟨fun _ => hK h2 st, fun q => absurd trivial q⟩
set_option maxRecDepth 30000 in
theorem lc_write (hQ : ma_RQ g false me_Law_law Q s args below Z) (hs : ST h) (hi : i + 6 ≤ L) (hL : L ≤ 3072) (hc : c ≤ 601024) (hsl : sl ≤ 7293034) (hK : ∀ h', ST h' → lwJ Z p e s m args below meth cd l g L xs 432 [some (.ref 1), some (.ref 2), some (.ref 184), some (.ref 201), some (.int (nI i)), none, none] [] c sl GS h') : lwJ Z p e s m args below meth cd l g L xs 52 [some (.ref 1), some (.ref 2), some (.ref 184), some (.ref 201), some (.int (nI i)), none, none] [] c sl GS h := by
  refine ma_runS (mc := 601024) (ms := 7293034) hQ po_Law_law rfl rfl [13, 315, 372, 432] (by decide) 120 (by decide) ?_
  obtain ⟨P1, hM1, n1⟩ := pc_write l g false hs _
  simp only [pc_Law_law_0, pc_Law_law_1, pc_Law_law_2, pc_Law_law_3, pc_Law_law_4, pc_Law_law_5, pc_Law_law_6, pc_Law_law_7, pc_Law_law_8, pc_Law_law_9, pc_Law_law_10, ma_go, ev_A, ev_B, ev_C, ev_D, Nat.reduceAdd, List.mem_cons, List.not_mem_nil, or_false, or_true, true_or, false_or, or_self, Nat.reduceEqDiff, reduceCtorEq, ↓reduceIte, List.length_cons, List.length_nil, Nat.reduceLT, Nat.reduceLeDiff, Nat.le_refl, implies_true, true_and, and_true, Option.toList, List.cons_append, List.nil_append, gs_2, ev_sld, ev_slen]
  simp only [nI_add]
  refine ⟨vq hi hL (by omega), ?_⟩
  refine ma_callP mt_Arc_write rfl rfl (Nat.le_of_ble_eq_true rfl) hc hsl hM1 ?_
  intro r S1 h1 hp1
  obtain ⟨⟨w, rfl⟩, rfl, P2, hM2, n2⟩ := n1 r S1 h1 hp1
  simp only [pc_Law_law_0, pc_Law_law_1, pc_Law_law_2, pc_Law_law_3, pc_Law_law_4, pc_Law_law_5, pc_Law_law_6, pc_Law_law_7, pc_Law_law_8, pc_Law_law_9, pc_Law_law_10, ma_go, ev_A, ev_B, ev_C, ev_D, Nat.reduceAdd, List.mem_cons, List.not_mem_nil, or_false, or_true, true_or, false_or, or_self, Nat.reduceEqDiff, reduceCtorEq, ↓reduceIte, List.length_cons, List.length_nil, Nat.reduceLT, Nat.reduceLeDiff, Nat.le_refl, implies_true, true_and, and_true, Option.toList, List.cons_append, List.nil_append, gs_184, ev_sld, ev_slen]
  simp only [nI_add]
  refine ⟨vq hi hL (by omega), ?_⟩
  refine ma_callP mt_Mod_write rfl rfl (Nat.le_of_ble_eq_true rfl) hc hsl hM2 ?_
  intro r2 S2 h2 hp2
  obtain ⟨rfl, rfl, st⟩ := n2 r2 S2 h2 hp2
  simp only [pc_Law_law_0, pc_Law_law_1, pc_Law_law_2, pc_Law_law_3, pc_Law_law_4, pc_Law_law_5, pc_Law_law_6, pc_Law_law_7, pc_Law_law_8, pc_Law_law_9, pc_Law_law_10, ma_go, ev_A, ev_B, ev_C, ev_D, Nat.reduceAdd, List.mem_cons, List.not_mem_nil, or_false, or_true, true_or, false_or, or_self, Nat.reduceEqDiff, reduceCtorEq, ↓reduceIte, List.length_cons, List.length_nil, Nat.reduceLT, Nat.reduceLeDiff, Nat.le_refl, implies_true, true_and, and_true, Option.toList, List.cons_append, List.nil_append]
  exact ⟨fun _ => hK h2 st, fun q => absurd trivial q⟩
set_option maxRecDepth 30000 in
theorem lc_letter (hQ : ma_RQ g false me_Law_law Q s args below Z) (hs : ST h) (hi : i + 6 ≤ L) (hL : L ≤ 3072) (hc : c ≤ 601024) (hsl : sl ≤ 7293034) (hK : ∀ h', ST h' → lwJ Z p e s m args below meth cd l g L xs 432 [some (.ref 1), some (.ref 2), some (.ref 184), some (.ref 201), some (.int (nI i)), none, none] [] c sl GS h') : lwJ Z p e s m args below meth cd l g L xs 69 [some (.ref 1), some (.ref 2), some (.ref 184), some (.ref 201), some (.int (nI i)), none, none] [] c sl GS h := by
  refine ma_runS (mc := 601024) (ms := 7293034) hQ po_Law_law rfl rfl [13, 315, 372, 432] (by decide) 120 (by decide) ?_
  obtain ⟨P1, hM1, n1⟩ := pc_letter l g false hs _ _
  simp only [pc_Law_law_0, pc_Law_law_1, pc_Law_law_2, pc_Law_law_3, pc_Law_law_4, pc_Law_law_5, pc_Law_law_6, pc_Law_law_7, pc_Law_law_8, pc_Law_law_9, pc_Law_law_10, ma_go, ev_A, ev_B, ev_C, ev_D, Nat.reduceAdd, List.mem_cons, List.not_mem_nil, or_false, or_true, true_or, false_or, or_self, Nat.reduceEqDiff, reduceCtorEq, ↓reduceIte, List.length_cons, List.length_nil, Nat.reduceLT, Nat.reduceLeDiff, Nat.le_refl, implies_true, true_and, and_true, Option.toList, List.cons_append, List.nil_append, gs_2, ev_sld, ev_slen]
  simp only [nI_add]
  refine ⟨vq hi hL (by omega), vq hi hL (by omega), ?_⟩
  refine ma_callP mt_Arc_letter rfl rfl (Nat.le_of_ble_eq_true rfl) hc hsl hM1 ?_
  intro r S1 h1 hp1
  obtain ⟨⟨w, rfl⟩, rfl, P2, hM2, n2⟩ := n1 r S1 h1 hp1
  simp only [pc_Law_law_0, pc_Law_law_1, pc_Law_law_2, pc_Law_law_3, pc_Law_law_4, pc_Law_law_5, pc_Law_law_6, pc_Law_law_7, pc_Law_law_8, pc_Law_law_9, pc_Law_law_10, ma_go, ev_A, ev_B, ev_C, ev_D, Nat.reduceAdd, List.mem_cons, List.not_mem_nil, or_false, or_true, true_or, false_or, or_self, Nat.reduceEqDiff, reduceCtorEq, ↓reduceIte, List.length_cons, List.length_nil, Nat.reduceLT, Nat.reduceLeDiff, Nat.le_refl, implies_true, true_and, and_true, Option.toList, List.cons_append, List.nil_append, gs_184, ev_sld, ev_slen]
  simp only [nI_add]
  refine ⟨vq hi hL (by omega), vq hi hL (by omega), ?_⟩
  refine ma_callP mt_Mod_letter rfl rfl (Nat.le_of_ble_eq_true rfl) hc hsl hM2 ?_
  intro r2 S2 h2 hp2
  obtain ⟨rfl, rfl, st⟩ := n2 r2 S2 h2 hp2
  simp only [pc_Law_law_0, pc_Law_law_1, pc_Law_law_2, pc_Law_law_3, pc_Law_law_4, pc_Law_law_5, pc_Law_law_6, pc_Law_law_7, pc_Law_law_8, pc_Law_law_9, pc_Law_law_10, ma_go, ev_A, ev_B, ev_C, ev_D, Nat.reduceAdd, List.mem_cons, List.not_mem_nil, or_false, or_true, true_or, false_or, or_self, Nat.reduceEqDiff, reduceCtorEq, ↓reduceIte, List.length_cons, List.length_nil, Nat.reduceLT, Nat.reduceLeDiff, Nat.le_refl, implies_true, true_and, and_true, Option.toList, List.cons_append, List.nil_append]
  exact ⟨fun _ => hK h2 st, fun q => absurd trivial q⟩
set_option maxRecDepth 30000 in
theorem lc_clear (hQ : ma_RQ g false me_Law_law Q s args below Z) (hs : ST h) (hi : i + 6 ≤ L) (hL : L ≤ 3072) (hc : c ≤ 601024) (hsl : sl ≤ 7293034) (hK : ∀ h', ST h' → lwJ Z p e s m args below meth cd l g L xs 432 [some (.ref 1), some (.ref 2), some (.ref 184), some (.ref 201), some (.int (nI i)), none, none] [] c sl GS h') : lwJ Z p e s m args below meth cd l g L xs 96 [some (.ref 1), some (.ref 2), some (.ref 184), some (.ref 201), some (.int (nI i)), none, none] [] c sl GS h := by
  refine ma_runS (mc := 601024) (ms := 7293034) hQ po_Law_law rfl rfl [13, 315, 372, 432] (by decide) 120 (by decide) ?_
  obtain ⟨P1, hM1, n1⟩ := pc_clear l g false hs
  simp only [pc_Law_law_0, pc_Law_law_1, pc_Law_law_2, pc_Law_law_3, pc_Law_law_4, pc_Law_law_5, pc_Law_law_6, pc_Law_law_7, pc_Law_law_8, pc_Law_law_9, pc_Law_law_10, ma_go, ev_A, ev_B, ev_C, ev_D, Nat.reduceAdd, List.mem_cons, List.not_mem_nil, or_false, or_true, true_or, false_or, or_self, Nat.reduceEqDiff, reduceCtorEq, ↓reduceIte, List.length_cons, List.length_nil, Nat.reduceLT, Nat.reduceLeDiff, Nat.le_refl, implies_true, true_and, and_true, Option.toList, List.cons_append, List.nil_append, gs_2, ev_sld, ev_slen]
  refine ma_callP mt_Arc_clear rfl rfl (Nat.le_of_ble_eq_true rfl) hc hsl hM1 ?_
  intro r S1 h1 hp1
  obtain ⟨rfl, rfl, P2, hM2, n2⟩ := n1 r S1 h1 hp1
  simp only [pc_Law_law_0, pc_Law_law_1, pc_Law_law_2, pc_Law_law_3, pc_Law_law_4, pc_Law_law_5, pc_Law_law_6, pc_Law_law_7, pc_Law_law_8, pc_Law_law_9, pc_Law_law_10, ma_go, ev_A, ev_B, ev_C, ev_D, Nat.reduceAdd, List.mem_cons, List.not_mem_nil, or_false, or_true, true_or, false_or, or_self, Nat.reduceEqDiff, reduceCtorEq, ↓reduceIte, List.length_cons, List.length_nil, Nat.reduceLT, Nat.reduceLeDiff, Nat.le_refl, implies_true, true_and, and_true, Option.toList, List.cons_append, List.nil_append, gs_184, ev_sld, ev_slen]
  refine ma_callP mt_Mod_clear rfl rfl (Nat.le_of_ble_eq_true rfl) hc hsl hM2 ?_
  intro r2 S2 h2 hp2
  obtain ⟨rfl, rfl, st⟩ := n2 r2 S2 h2 hp2
  simp only [pc_Law_law_0, pc_Law_law_1, pc_Law_law_2, pc_Law_law_3, pc_Law_law_4, pc_Law_law_5, pc_Law_law_6, pc_Law_law_7, pc_Law_law_8, pc_Law_law_9, pc_Law_law_10, ma_go, ev_A, ev_B, ev_C, ev_D, Nat.reduceAdd, List.mem_cons, List.not_mem_nil, or_false, or_true, true_or, false_or, or_self, Nat.reduceEqDiff, reduceCtorEq, ↓reduceIte, List.length_cons, List.length_nil, Nat.reduceLT, Nat.reduceLeDiff, Nat.le_refl, implies_true, true_and, and_true, Option.toList, List.cons_append, List.nil_append]
  exact hK h2 st
set_option maxRecDepth 30000 in
theorem lc_read (hQ : ma_RQ g false me_Law_law Q s args below Z) (hs : ST h) (hi : i + 6 ≤ L) (hL : L ≤ 3072) (hc : c ≤ 601024) (hsl : sl ≤ 7293034) (hK : ∀ h', ST h' → lwJ Z p e s m args below meth cd l g L xs 432 [some (.ref 1), some (.ref 2), some (.ref 184), some (.ref 201), some (.int (nI i)), none, none] [] c sl GS h') : lwJ Z p e s m args below meth cd l g L xs 101 [some (.ref 1), some (.ref 2), some (.ref 184), some (.ref 201), some (.int (nI i)), none, none] [] c sl GS h := by
  refine ma_runS (mc := 601024) (ms := 7293034) hQ po_Law_law rfl rfl [13, 315, 372, 432] (by decide) 120 (by decide) ?_
  obtain ⟨P1, hM1, n1⟩ := pc_read l g false hs _
  simp only [pc_Law_law_0, pc_Law_law_1, pc_Law_law_2, pc_Law_law_3, pc_Law_law_4, pc_Law_law_5, pc_Law_law_6, pc_Law_law_7, pc_Law_law_8, pc_Law_law_9, pc_Law_law_10, ma_go, ev_A, ev_B, ev_C, ev_D, Nat.reduceAdd, List.mem_cons, List.not_mem_nil, or_false, or_true, true_or, false_or, or_self, Nat.reduceEqDiff, reduceCtorEq, ↓reduceIte, List.length_cons, List.length_nil, Nat.reduceLT, Nat.reduceLeDiff, Nat.le_refl, implies_true, true_and, and_true, Option.toList, List.cons_append, List.nil_append, gs_2, ev_sld, ev_slen]
  simp only [nI_add]
  refine ⟨vq hi hL (by omega), ?_⟩
  refine ma_callP mt_Arc_read rfl rfl (Nat.le_of_ble_eq_true rfl) hc hsl hM1 ?_
  intro r S1 h1 hp1
  obtain ⟨⟨w, rfl⟩, rfl, P2, hM2, n2⟩ := n1 r S1 h1 hp1
  simp only [pc_Law_law_0, pc_Law_law_1, pc_Law_law_2, pc_Law_law_3, pc_Law_law_4, pc_Law_law_5, pc_Law_law_6, pc_Law_law_7, pc_Law_law_8, pc_Law_law_9, pc_Law_law_10, ma_go, ev_A, ev_B, ev_C, ev_D, Nat.reduceAdd, List.mem_cons, List.not_mem_nil, or_false, or_true, true_or, false_or, or_self, Nat.reduceEqDiff, reduceCtorEq, ↓reduceIte, List.length_cons, List.length_nil, Nat.reduceLT, Nat.reduceLeDiff, Nat.le_refl, implies_true, true_and, and_true, Option.toList, List.cons_append, List.nil_append, gs_184, ev_sld, ev_slen]
  simp only [nI_add]
  refine ⟨vq hi hL (by omega), ?_⟩
  refine ma_callP mt_Mod_read rfl rfl (Nat.le_of_ble_eq_true rfl) hc hsl hM2 ?_
  intro r2 S2 h2 hp2
  obtain ⟨rfl, rfl, st⟩ := n2 r2 S2 h2 hp2
  simp only [pc_Law_law_0, pc_Law_law_1, pc_Law_law_2, pc_Law_law_3, pc_Law_law_4, pc_Law_law_5, pc_Law_law_6, pc_Law_law_7, pc_Law_law_8, pc_Law_law_9, pc_Law_law_10, ma_go, ev_A, ev_B, ev_C, ev_D, Nat.reduceAdd, List.mem_cons, List.not_mem_nil, or_false, or_true, true_or, false_or, or_self, Nat.reduceEqDiff, reduceCtorEq, ↓reduceIte, List.length_cons, List.length_nil, Nat.reduceLT, Nat.reduceLeDiff, Nat.le_refl, implies_true, true_and, and_true, Option.toList, List.cons_append, List.nil_append]
  exact ⟨fun _ => hK h2 st, fun q => absurd trivial q⟩
set_option maxRecDepth 30000 in
theorem lc_readCut (hQ : ma_RQ g false me_Law_law Q s args below Z) (hs : ST h) (hi : i + 6 ≤ L) (hL : L ≤ 3072) (hc : c ≤ 601024) (hsl : sl ≤ 7293034) (hK : ∀ h', ST h' → lwJ Z p e s m args below meth cd l g L xs 432 [some (.ref 1), some (.ref 2), some (.ref 184), some (.ref 201), some (.int (nI i)), none, none] [] c sl GS h') : lwJ Z p e s m args below meth cd l g L xs 118 [some (.ref 1), some (.ref 2), some (.ref 184), some (.ref 201), some (.int (nI i)), none, none] [] c sl GS h := by
  refine ma_runS (mc := 601024) (ms := 7293034) hQ po_Law_law rfl rfl [13, 315, 372, 432] (by decide) 120 (by decide) ?_
  obtain ⟨P1, hM1, n1⟩ := pc_readCut l g false hs _ _
  simp only [pc_Law_law_0, pc_Law_law_1, pc_Law_law_2, pc_Law_law_3, pc_Law_law_4, pc_Law_law_5, pc_Law_law_6, pc_Law_law_7, pc_Law_law_8, pc_Law_law_9, pc_Law_law_10, ma_go, ev_A, ev_B, ev_C, ev_D, Nat.reduceAdd, List.mem_cons, List.not_mem_nil, or_false, or_true, true_or, false_or, or_self, Nat.reduceEqDiff, reduceCtorEq, ↓reduceIte, List.length_cons, List.length_nil, Nat.reduceLT, Nat.reduceLeDiff, Nat.le_refl, implies_true, true_and, and_true, Option.toList, List.cons_append, List.nil_append, gs_2, ev_sld, ev_slen]
  simp only [nI_add]
  refine ⟨vq hi hL (by omega), vq hi hL (by omega), ?_⟩
  refine ma_callP mt_Arc_readCut rfl rfl (Nat.le_of_ble_eq_true rfl) hc hsl hM1 ?_
  intro r S1 h1 hp1
  obtain ⟨⟨w, rfl⟩, rfl, P2, hM2, n2⟩ := n1 r S1 h1 hp1
  simp only [pc_Law_law_0, pc_Law_law_1, pc_Law_law_2, pc_Law_law_3, pc_Law_law_4, pc_Law_law_5, pc_Law_law_6, pc_Law_law_7, pc_Law_law_8, pc_Law_law_9, pc_Law_law_10, ma_go, ev_A, ev_B, ev_C, ev_D, Nat.reduceAdd, List.mem_cons, List.not_mem_nil, or_false, or_true, true_or, false_or, or_self, Nat.reduceEqDiff, reduceCtorEq, ↓reduceIte, List.length_cons, List.length_nil, Nat.reduceLT, Nat.reduceLeDiff, Nat.le_refl, implies_true, true_and, and_true, Option.toList, List.cons_append, List.nil_append, gs_184, ev_sld, ev_slen]
  simp only [nI_add]
  refine ⟨vq hi hL (by omega), vq hi hL (by omega), ?_⟩
  refine ma_callP mt_Mod_readCut rfl rfl (Nat.le_of_ble_eq_true rfl) hc hsl hM2 ?_
  intro r2 S2 h2 hp2
  obtain ⟨rfl, rfl, st⟩ := n2 r2 S2 h2 hp2
  simp only [pc_Law_law_0, pc_Law_law_1, pc_Law_law_2, pc_Law_law_3, pc_Law_law_4, pc_Law_law_5, pc_Law_law_6, pc_Law_law_7, pc_Law_law_8, pc_Law_law_9, pc_Law_law_10, ma_go, ev_A, ev_B, ev_C, ev_D, Nat.reduceAdd, List.mem_cons, List.not_mem_nil, or_false, or_true, true_or, false_or, or_self, Nat.reduceEqDiff, reduceCtorEq, ↓reduceIte, List.length_cons, List.length_nil, Nat.reduceLT, Nat.reduceLeDiff, Nat.le_refl, implies_true, true_and, and_true, Option.toList, List.cons_append, List.nil_append]
  exact ⟨fun _ => hK h2 st, fun q => absurd trivial q⟩
set_option maxRecDepth 30000 in
theorem lc_readGrown (hQ : ma_RQ g false me_Law_law Q s args below Z) (hs : ST h) (hi : i + 6 ≤ L) (hL : L ≤ 3072) (hc : c ≤ 601024) (hsl : sl ≤ 7293034) (hK : ∀ h', ST h' → lwJ Z p e s m args below meth cd l g L xs 432 [some (.ref 1), some (.ref 2), some (.ref 184), some (.ref 201), some (.int (nI i)), none, none] [] c sl GS h') : lwJ Z p e s m args below meth cd l g L xs 145 [some (.ref 1), some (.ref 2), some (.ref 184), some (.ref 201), some (.int (nI i)), none, none] [] c sl GS h := by
  refine ma_runS (mc := 601024) (ms := 7293034) hQ po_Law_law rfl rfl [13, 315, 372, 432] (by decide) 120 (by decide) ?_
  obtain ⟨P1, hM1, n1⟩ := pc_readGrown l g false hs _ _ _
  simp only [pc_Law_law_0, pc_Law_law_1, pc_Law_law_2, pc_Law_law_3, pc_Law_law_4, pc_Law_law_5, pc_Law_law_6, pc_Law_law_7, pc_Law_law_8, pc_Law_law_9, pc_Law_law_10, ma_go, ev_A, ev_B, ev_C, ev_D, Nat.reduceAdd, List.mem_cons, List.not_mem_nil, or_false, or_true, true_or, false_or, or_self, Nat.reduceEqDiff, reduceCtorEq, ↓reduceIte, List.length_cons, List.length_nil, Nat.reduceLT, Nat.reduceLeDiff, Nat.le_refl, implies_true, true_and, and_true, Option.toList, List.cons_append, List.nil_append, gs_2, ev_sld, ev_slen]
  simp only [nI_add]
  refine ⟨vq hi hL (by omega), vq hi hL (by omega), vq hi hL (by omega), ?_⟩
  refine ma_callP mt_Arc_readGrown rfl rfl (Nat.le_of_ble_eq_true rfl) hc hsl hM1 ?_
  intro r S1 h1 hp1
  obtain ⟨⟨w, rfl⟩, rfl, P2, hM2, n2⟩ := n1 r S1 h1 hp1
  simp only [pc_Law_law_0, pc_Law_law_1, pc_Law_law_2, pc_Law_law_3, pc_Law_law_4, pc_Law_law_5, pc_Law_law_6, pc_Law_law_7, pc_Law_law_8, pc_Law_law_9, pc_Law_law_10, ma_go, ev_A, ev_B, ev_C, ev_D, Nat.reduceAdd, List.mem_cons, List.not_mem_nil, or_false, or_true, true_or, false_or, or_self, Nat.reduceEqDiff, reduceCtorEq, ↓reduceIte, List.length_cons, List.length_nil, Nat.reduceLT, Nat.reduceLeDiff, Nat.le_refl, implies_true, true_and, and_true, Option.toList, List.cons_append, List.nil_append, gs_184, ev_sld, ev_slen]
  simp only [nI_add]
  refine ⟨vq hi hL (by omega), vq hi hL (by omega), vq hi hL (by omega), ?_⟩
  refine ma_callP mt_Mod_readGrown rfl rfl (Nat.le_of_ble_eq_true rfl) hc hsl hM2 ?_
  intro r2 S2 h2 hp2
  obtain ⟨rfl, rfl, st⟩ := n2 r2 S2 h2 hp2
  simp only [pc_Law_law_0, pc_Law_law_1, pc_Law_law_2, pc_Law_law_3, pc_Law_law_4, pc_Law_law_5, pc_Law_law_6, pc_Law_law_7, pc_Law_law_8, pc_Law_law_9, pc_Law_law_10, ma_go, ev_A, ev_B, ev_C, ev_D, Nat.reduceAdd, List.mem_cons, List.not_mem_nil, or_false, or_true, true_or, false_or, or_self, Nat.reduceEqDiff, reduceCtorEq, ↓reduceIte, List.length_cons, List.length_nil, Nat.reduceLT, Nat.reduceLeDiff, Nat.le_refl, implies_true, true_and, and_true, Option.toList, List.cons_append, List.nil_append]
  exact ⟨fun _ => hK h2 st, fun q => absurd trivial q⟩
set_option maxRecDepth 30000 in
theorem lc_forge (hQ : ma_RQ g false me_Law_law Q s args below Z) (hs : ST h) (hi : i + 6 ≤ L) (hL : L ≤ 3072) (hc : c ≤ 601024) (hsl : sl ≤ 7293034) (hK : ∀ h', ST h' → lwJ Z p e s m args below meth cd l g L xs 432 [some (.ref 1), some (.ref 2), some (.ref 184), some (.ref 201), some (.int (nI i)), none, none] [] c sl GS h') : lwJ Z p e s m args below meth cd l g L xs 182 [some (.ref 1), some (.ref 2), some (.ref 184), some (.ref 201), some (.int (nI i)), none, none] [] c sl GS h := by
  refine ma_runS (mc := 601024) (ms := 7293034) hQ po_Law_law rfl rfl [13, 315, 372, 432] (by decide) 120 (by decide) ?_
  obtain ⟨P1, hM1, n1⟩ := pc_forge l g false hs _ _ _
  simp only [pc_Law_law_0, pc_Law_law_1, pc_Law_law_2, pc_Law_law_3, pc_Law_law_4, pc_Law_law_5, pc_Law_law_6, pc_Law_law_7, pc_Law_law_8, pc_Law_law_9, pc_Law_law_10, ma_go, ev_A, ev_B, ev_C, ev_D, Nat.reduceAdd, List.mem_cons, List.not_mem_nil, or_false, or_true, true_or, false_or, or_self, Nat.reduceEqDiff, reduceCtorEq, ↓reduceIte, List.length_cons, List.length_nil, Nat.reduceLT, Nat.reduceLeDiff, Nat.le_refl, implies_true, true_and, and_true, Option.toList, List.cons_append, List.nil_append, gs_2, ev_sld, ev_slen]
  simp only [nI_add]
  refine ⟨vq hi hL (by omega), vq hi hL (by omega), vq hi hL (by omega), vq hi hL (by omega), vq hi hL (by omega), ?_⟩
  refine ma_callP mt_Arc_forge rfl rfl (Nat.le_of_ble_eq_true rfl) hc hsl hM1 ?_
  intro r S1 h1 hp1
  obtain ⟨⟨w, rfl⟩, rfl, P2, hM2, n2⟩ := n1 r S1 h1 hp1
  simp only [pc_Law_law_0, pc_Law_law_1, pc_Law_law_2, pc_Law_law_3, pc_Law_law_4, pc_Law_law_5, pc_Law_law_6, pc_Law_law_7, pc_Law_law_8, pc_Law_law_9, pc_Law_law_10, ma_go, ev_A, ev_B, ev_C, ev_D, Nat.reduceAdd, List.mem_cons, List.not_mem_nil, or_false, or_true, true_or, false_or, or_self, Nat.reduceEqDiff, reduceCtorEq, ↓reduceIte, List.length_cons, List.length_nil, Nat.reduceLT, Nat.reduceLeDiff, Nat.le_refl, implies_true, true_and, and_true, Option.toList, List.cons_append, List.nil_append, gs_184, ev_sld, ev_slen]
  simp only [nI_add]
  refine ⟨vq hi hL (by omega), vq hi hL (by omega), vq hi hL (by omega), vq hi hL (by omega), vq hi hL (by omega), ?_⟩
  refine ma_callP mt_Mod_forge rfl rfl (Nat.le_of_ble_eq_true rfl) hc hsl hM2 ?_
  intro r2 S2 h2 hp2
  obtain ⟨rfl, rfl, st⟩ := n2 r2 S2 h2 hp2
  simp only [pc_Law_law_0, pc_Law_law_1, pc_Law_law_2, pc_Law_law_3, pc_Law_law_4, pc_Law_law_5, pc_Law_law_6, pc_Law_law_7, pc_Law_law_8, pc_Law_law_9, pc_Law_law_10, ma_go, ev_A, ev_B, ev_C, ev_D, Nat.reduceAdd, List.mem_cons, List.not_mem_nil, or_false, or_true, true_or, false_or, or_self, Nat.reduceEqDiff, reduceCtorEq, ↓reduceIte, List.length_cons, List.length_nil, Nat.reduceLT, Nat.reduceLeDiff, Nat.le_refl, implies_true, true_and, and_true, Option.toList, List.cons_append, List.nil_append]
  exact ⟨fun _ => hK h2 st, fun q => absurd trivial q⟩
set_option maxRecDepth 30000 in
theorem lc_shuffle (hQ : ma_RQ g false me_Law_law Q s args below Z) (hs : ST h) (hi : i + 6 ≤ L) (hL : L ≤ 3072) (hc : c ≤ 601024) (hsl : sl ≤ 7293034) (hK : ∀ h', ST h' → lwJ Z p e s m args below meth cd l g L xs 432 [some (.ref 1), some (.ref 2), some (.ref 184), some (.ref 201), some (.int (nI i)), none, none] [] c sl GS h') : lwJ Z p e s m args below meth cd l g L xs 267 [some (.ref 1), some (.ref 2), some (.ref 184), some (.ref 201), some (.int (nI i)), none, none] [] c sl GS h := by
  refine ma_runS (mc := 601024) (ms := 7293034) hQ po_Law_law rfl rfl [13, 315, 372, 432] (by decide) 120 (by decide) ?_
  obtain ⟨P1, hM1, n1⟩ := pc_shuffle l g false hs _
  simp only [pc_Law_law_0, pc_Law_law_1, pc_Law_law_2, pc_Law_law_3, pc_Law_law_4, pc_Law_law_5, pc_Law_law_6, pc_Law_law_7, pc_Law_law_8, pc_Law_law_9, pc_Law_law_10, ma_go, ev_A, ev_B, ev_C, ev_D, Nat.reduceAdd, List.mem_cons, List.not_mem_nil, or_false, or_true, true_or, false_or, or_self, Nat.reduceEqDiff, reduceCtorEq, ↓reduceIte, List.length_cons, List.length_nil, Nat.reduceLT, Nat.reduceLeDiff, Nat.le_refl, implies_true, true_and, and_true, Option.toList, List.cons_append, List.nil_append, gs_2, ev_sld, ev_slen]
  simp only [nI_add]
  refine ⟨vq hi hL (by omega), ?_⟩
  refine ma_callP mt_Arc_shuffle rfl rfl (Nat.le_of_ble_eq_true rfl) hc hsl hM1 ?_
  intro r S1 h1 hp1
  obtain ⟨⟨w, rfl⟩, rfl, P2, hM2, n2⟩ := n1 r S1 h1 hp1
  simp only [pc_Law_law_0, pc_Law_law_1, pc_Law_law_2, pc_Law_law_3, pc_Law_law_4, pc_Law_law_5, pc_Law_law_6, pc_Law_law_7, pc_Law_law_8, pc_Law_law_9, pc_Law_law_10, ma_go, ev_A, ev_B, ev_C, ev_D, Nat.reduceAdd, List.mem_cons, List.not_mem_nil, or_false, or_true, true_or, false_or, or_self, Nat.reduceEqDiff, reduceCtorEq, ↓reduceIte, List.length_cons, List.length_nil, Nat.reduceLT, Nat.reduceLeDiff, Nat.le_refl, implies_true, true_and, and_true, Option.toList, List.cons_append, List.nil_append, gs_184, ev_sld, ev_slen]
  simp only [nI_add]
  refine ⟨vq hi hL (by omega), ?_⟩
  refine ma_callP mt_Mod_shuffle rfl rfl (Nat.le_of_ble_eq_true rfl) hc hsl hM2 ?_
  intro r2 S2 h2 hp2
  obtain ⟨rfl, rfl, st⟩ := n2 r2 S2 h2 hp2
  simp only [pc_Law_law_0, pc_Law_law_1, pc_Law_law_2, pc_Law_law_3, pc_Law_law_4, pc_Law_law_5, pc_Law_law_6, pc_Law_law_7, pc_Law_law_8, pc_Law_law_9, pc_Law_law_10, ma_go, ev_A, ev_B, ev_C, ev_D, Nat.reduceAdd, List.mem_cons, List.not_mem_nil, or_false, or_true, true_or, false_or, or_self, Nat.reduceEqDiff, reduceCtorEq, ↓reduceIte, List.length_cons, List.length_nil, Nat.reduceLT, Nat.reduceLeDiff, Nat.le_refl, implies_true, true_and, and_true, Option.toList, List.cons_append, List.nil_append]
  exact ⟨fun _ => hK h2 st, fun q => absurd trivial q⟩
set_option maxRecDepth 30000 in
theorem lc_heap (hQ : ma_RQ g false me_Law_law Q s args below Z) (hs : ST h) (hi : i + 6 ≤ L) (hL : L ≤ 3072) (hc : c ≤ 601024) (hsl : sl ≤ 7293034) (hK : ∀ h', ST h' → lwJ Z p e s m args below meth cd l g L xs 432 [some (.ref 1), some (.ref 2), some (.ref 184), some (.ref 201), some (.int (nI i)), none, none] [] c sl GS h') : lwJ Z p e s m args below meth cd l g L xs 284 [some (.ref 1), some (.ref 2), some (.ref 184), some (.ref 201), some (.int (nI i)), none, none] [] c sl GS h := by
  refine ma_runS (mc := 601024) (ms := 7293034) hQ po_Law_law rfl rfl [13, 315, 372, 432] (by decide) 120 (by decide) ?_
  obtain ⟨P1, hM1, n1⟩ := pc_heap l g false hs
  simp only [pc_Law_law_0, pc_Law_law_1, pc_Law_law_2, pc_Law_law_3, pc_Law_law_4, pc_Law_law_5, pc_Law_law_6, pc_Law_law_7, pc_Law_law_8, pc_Law_law_9, pc_Law_law_10, ma_go, ev_A, ev_B, ev_C, ev_D, Nat.reduceAdd, List.mem_cons, List.not_mem_nil, or_false, or_true, true_or, false_or, or_self, Nat.reduceEqDiff, reduceCtorEq, ↓reduceIte, List.length_cons, List.length_nil, Nat.reduceLT, Nat.reduceLeDiff, Nat.le_refl, implies_true, true_and, and_true, Option.toList, List.cons_append, List.nil_append, gs_2, ev_sld, ev_slen]
  refine ma_callP mt_Arc_heap rfl rfl (Nat.le_of_ble_eq_true rfl) hc hsl hM1 ?_
  intro r S1 h1 hp1
  obtain ⟨⟨w, rfl⟩, rfl, P2, hM2, n2⟩ := n1 r S1 h1 hp1
  simp only [pc_Law_law_0, pc_Law_law_1, pc_Law_law_2, pc_Law_law_3, pc_Law_law_4, pc_Law_law_5, pc_Law_law_6, pc_Law_law_7, pc_Law_law_8, pc_Law_law_9, pc_Law_law_10, ma_go, ev_A, ev_B, ev_C, ev_D, Nat.reduceAdd, List.mem_cons, List.not_mem_nil, or_false, or_true, true_or, false_or, or_self, Nat.reduceEqDiff, reduceCtorEq, ↓reduceIte, List.length_cons, List.length_nil, Nat.reduceLT, Nat.reduceLeDiff, Nat.le_refl, implies_true, true_and, and_true, Option.toList, List.cons_append, List.nil_append, gs_184, ev_sld, ev_slen]
  refine ma_callP mt_Mod_heap rfl rfl (Nat.le_of_ble_eq_true rfl) hc hsl hM2 ?_
  intro r2 S2 h2 hp2
  obtain ⟨rfl, rfl, st⟩ := n2 r2 S2 h2 hp2
  simp only [pc_Law_law_0, pc_Law_law_1, pc_Law_law_2, pc_Law_law_3, pc_Law_law_4, pc_Law_law_5, pc_Law_law_6, pc_Law_law_7, pc_Law_law_8, pc_Law_law_9, pc_Law_law_10, ma_go, ev_A, ev_B, ev_C, ev_D, Nat.reduceAdd, List.mem_cons, List.not_mem_nil, or_false, or_true, true_or, false_or, or_self, Nat.reduceEqDiff, reduceCtorEq, ↓reduceIte, List.length_cons, List.length_nil, Nat.reduceLT, Nat.reduceLeDiff, Nat.le_refl, implies_true, true_and, and_true, Option.toList, List.cons_append, List.nil_append]
  exact ⟨fun _ => hK h2 st, fun q => absurd trivial q⟩
set_option maxRecDepth 30000 in
theorem lc_decode (hQ : ma_RQ g false me_Law_law Q s args below Z) (hs : ST h) (hi : i + 6 ≤ L) (hL : L ≤ 3072) (hc : c ≤ 601024) (hsl : sl ≤ 7293034) (hK : ∀ h', ST h' → lwJ Z p e s m args below meth cd l g L xs 432 [some (.ref 1), some (.ref 2), some (.ref 184), some (.ref 201), some (.int (nI i)), none, none] [] c sl GS h') : lwJ Z p e s m args below meth cd l g L xs 291 [some (.ref 1), some (.ref 2), some (.ref 184), some (.ref 201), some (.int (nI i)), none, none] [] c sl GS h := by
  refine ma_runS (mc := 601024) (ms := 7293034) hQ po_Law_law rfl rfl [13, 315, 372, 432] (by decide) 120 (by decide) ?_
  obtain ⟨P1, hM1, n1⟩ := pc_decode l g false hs _
  simp only [pc_Law_law_0, pc_Law_law_1, pc_Law_law_2, pc_Law_law_3, pc_Law_law_4, pc_Law_law_5, pc_Law_law_6, pc_Law_law_7, pc_Law_law_8, pc_Law_law_9, pc_Law_law_10, ma_go, ev_A, ev_B, ev_C, ev_D, Nat.reduceAdd, List.mem_cons, List.not_mem_nil, or_false, or_true, true_or, false_or, or_self, Nat.reduceEqDiff, reduceCtorEq, ↓reduceIte, List.length_cons, List.length_nil, Nat.reduceLT, Nat.reduceLeDiff, Nat.le_refl, implies_true, true_and, and_true, Option.toList, List.cons_append, List.nil_append, gs_2, ev_sld, ev_slen]
  simp only [nI_add]
  refine ⟨vq hi hL (by omega), ?_⟩
  refine ma_callP mt_Arc_decode rfl rfl (Nat.le_of_ble_eq_true rfl) hc hsl hM1 ?_
  intro r S1 h1 hp1
  obtain ⟨⟨w, rfl⟩, rfl, P2, hM2, n2⟩ := n1 r S1 h1 hp1
  simp only [pc_Law_law_0, pc_Law_law_1, pc_Law_law_2, pc_Law_law_3, pc_Law_law_4, pc_Law_law_5, pc_Law_law_6, pc_Law_law_7, pc_Law_law_8, pc_Law_law_9, pc_Law_law_10, ma_go, ev_A, ev_B, ev_C, ev_D, Nat.reduceAdd, List.mem_cons, List.not_mem_nil, or_false, or_true, true_or, false_or, or_self, Nat.reduceEqDiff, reduceCtorEq, ↓reduceIte, List.length_cons, List.length_nil, Nat.reduceLT, Nat.reduceLeDiff, Nat.le_refl, implies_true, true_and, and_true, Option.toList, List.cons_append, List.nil_append, gs_184, ev_sld, ev_slen]
  simp only [nI_add]
  refine ⟨vq hi hL (by omega), ?_⟩
  refine ma_callP mt_Mod_decode rfl rfl (Nat.le_of_ble_eq_true rfl) hc hsl hM2 ?_
  intro r2 S2 h2 hp2
  obtain ⟨rfl, rfl, st⟩ := n2 r2 S2 h2 hp2
  simp only [pc_Law_law_0, pc_Law_law_1, pc_Law_law_2, pc_Law_law_3, pc_Law_law_4, pc_Law_law_5, pc_Law_law_6, pc_Law_law_7, pc_Law_law_8, pc_Law_law_9, pc_Law_law_10, ma_go, ev_A, ev_B, ev_C, ev_D, Nat.reduceAdd, List.mem_cons, List.not_mem_nil, or_false, or_true, true_or, false_or, or_self, Nat.reduceEqDiff, reduceCtorEq, ↓reduceIte, List.length_cons, List.length_nil, Nat.reduceLT, Nat.reduceLeDiff, Nat.le_refl, implies_true, true_and, and_true, Option.toList, List.cons_append, List.nil_append]
  exact ⟨fun _ => hK h2 st, fun q => absurd trivial q⟩
set_option maxRecDepth 30000 in
theorem lc_count (hQ : ma_RQ g false me_Law_law Q s args below Z) (hs : ST h) (hi : i + 6 ≤ L) (hL : L ≤ 3072) (hc : c ≤ 601024) (hsl : sl ≤ 7293034) (hK : ∀ h', ST h' → lwJ Z p e s m args below meth cd l g L xs 432 [some (.ref 1), some (.ref 2), some (.ref 184), some (.ref 201), some (.int (nI i)), none, none] [] c sl GS h') : lwJ Z p e s m args below meth cd l g L xs 343 [some (.ref 1), some (.ref 2), some (.ref 184), some (.ref 201), some (.int (nI i)), none, none] [] c sl GS h := by
  refine ma_runS (mc := 601024) (ms := 7293034) hQ po_Law_law rfl rfl [13, 315, 372, 432] (by decide) 120 (by decide) ?_
  obtain ⟨P1, hM1, n1⟩ := pc_count l g false hs _
  simp only [pc_Law_law_0, pc_Law_law_1, pc_Law_law_2, pc_Law_law_3, pc_Law_law_4, pc_Law_law_5, pc_Law_law_6, pc_Law_law_7, pc_Law_law_8, pc_Law_law_9, pc_Law_law_10, ma_go, ev_A, ev_B, ev_C, ev_D, Nat.reduceAdd, List.mem_cons, List.not_mem_nil, or_false, or_true, true_or, false_or, or_self, Nat.reduceEqDiff, reduceCtorEq, ↓reduceIte, List.length_cons, List.length_nil, Nat.reduceLT, Nat.reduceLeDiff, Nat.le_refl, implies_true, true_and, and_true, Option.toList, List.cons_append, List.nil_append, gs_2, ev_sld, ev_slen]
  simp only [nI_add]
  refine ⟨vq hi hL (by omega), ?_⟩
  refine ma_callP mt_Arc_count rfl rfl (Nat.le_of_ble_eq_true rfl) hc hsl hM1 ?_
  intro r S1 h1 hp1
  obtain ⟨⟨w, rfl⟩, rfl, P2, hM2, n2⟩ := n1 r S1 h1 hp1
  simp only [pc_Law_law_0, pc_Law_law_1, pc_Law_law_2, pc_Law_law_3, pc_Law_law_4, pc_Law_law_5, pc_Law_law_6, pc_Law_law_7, pc_Law_law_8, pc_Law_law_9, pc_Law_law_10, ma_go, ev_A, ev_B, ev_C, ev_D, Nat.reduceAdd, List.mem_cons, List.not_mem_nil, or_false, or_true, true_or, false_or, or_self, Nat.reduceEqDiff, reduceCtorEq, ↓reduceIte, List.length_cons, List.length_nil, Nat.reduceLT, Nat.reduceLeDiff, Nat.le_refl, implies_true, true_and, and_true, Option.toList, List.cons_append, List.nil_append, gs_184, ev_sld, ev_slen]
  simp only [nI_add]
  refine ⟨vq hi hL (by omega), ?_⟩
  refine ma_callP mt_Mod_count rfl rfl (Nat.le_of_ble_eq_true rfl) hc hsl hM2 ?_
  intro r2 S2 h2 hp2
  obtain ⟨rfl, rfl, st⟩ := n2 r2 S2 h2 hp2
  simp only [pc_Law_law_0, pc_Law_law_1, pc_Law_law_2, pc_Law_law_3, pc_Law_law_4, pc_Law_law_5, pc_Law_law_6, pc_Law_law_7, pc_Law_law_8, pc_Law_law_9, pc_Law_law_10, ma_go, ev_A, ev_B, ev_C, ev_D, Nat.reduceAdd, List.mem_cons, List.not_mem_nil, or_false, or_true, true_or, false_or, or_self, Nat.reduceEqDiff, reduceCtorEq, ↓reduceIte, List.length_cons, List.length_nil, Nat.reduceLT, Nat.reduceLeDiff, Nat.le_refl, implies_true, true_and, and_true, Option.toList, List.cons_append, List.nil_append]
  exact ⟨fun _ => hK h2 st, fun q => absurd trivial q⟩
set_option maxRecDepth 30000 in
theorem lc_product (hQ : ma_RQ g false me_Law_law Q s args below Z) (hs : ST h) (hi : i + 6 ≤ L) (hL : L ≤ 3072) (hc : c ≤ 601024) (hsl : sl ≤ 7293034) (hK : ∀ h', ST h' → lwJ Z p e s m args below meth cd l g L xs 432 [some (.ref 1), some (.ref 2), some (.ref 184), some (.ref 201), some (.int (nI i)), none, none] [] c sl GS h') : lwJ Z p e s m args below meth cd l g L xs 405 [some (.ref 1), some (.ref 2), some (.ref 184), some (.ref 201), some (.int (nI i)), none, none] [] c sl GS h := by
  refine ma_runS (mc := 601024) (ms := 7293034) hQ po_Law_law rfl rfl [13, 315, 372, 432] (by decide) 120 (by decide) ?_
  obtain ⟨P1, hM1, n1⟩ := pc_product l g false hs _ _
  simp only [pc_Law_law_0, pc_Law_law_1, pc_Law_law_2, pc_Law_law_3, pc_Law_law_4, pc_Law_law_5, pc_Law_law_6, pc_Law_law_7, pc_Law_law_8, pc_Law_law_9, pc_Law_law_10, ma_go, ev_A, ev_B, ev_C, ev_D, Nat.reduceAdd, List.mem_cons, List.not_mem_nil, or_false, or_true, true_or, false_or, or_self, Nat.reduceEqDiff, reduceCtorEq, ↓reduceIte, List.length_cons, List.length_nil, Nat.reduceLT, Nat.reduceLeDiff, Nat.le_refl, implies_true, true_and, and_true, Option.toList, List.cons_append, List.nil_append, gs_2, ev_sld, ev_slen]
  simp only [nI_add]
  refine ⟨vq hi hL (by omega), vq hi hL (by omega), ?_⟩
  refine ma_callP mt_Arc_product rfl rfl (Nat.le_of_ble_eq_true rfl) hc hsl hM1 ?_
  intro r S1 h1 hp1
  obtain ⟨⟨w, rfl⟩, rfl, P2, hM2, n2⟩ := n1 r S1 h1 hp1
  simp only [pc_Law_law_0, pc_Law_law_1, pc_Law_law_2, pc_Law_law_3, pc_Law_law_4, pc_Law_law_5, pc_Law_law_6, pc_Law_law_7, pc_Law_law_8, pc_Law_law_9, pc_Law_law_10, ma_go, ev_A, ev_B, ev_C, ev_D, Nat.reduceAdd, List.mem_cons, List.not_mem_nil, or_false, or_true, true_or, false_or, or_self, Nat.reduceEqDiff, reduceCtorEq, ↓reduceIte, List.length_cons, List.length_nil, Nat.reduceLT, Nat.reduceLeDiff, Nat.le_refl, implies_true, true_and, and_true, Option.toList, List.cons_append, List.nil_append, gs_184, ev_sld, ev_slen]
  simp only [nI_add]
  refine ⟨vq hi hL (by omega), vq hi hL (by omega), ?_⟩
  refine ma_callP mt_Mod_product rfl rfl (Nat.le_of_ble_eq_true rfl) hc hsl hM2 ?_
  intro r2 S2 h2 hp2
  obtain ⟨rfl, rfl, st⟩ := n2 r2 S2 h2 hp2
  simp only [pc_Law_law_0, pc_Law_law_1, pc_Law_law_2, pc_Law_law_3, pc_Law_law_4, pc_Law_law_5, pc_Law_law_6, pc_Law_law_7, pc_Law_law_8, pc_Law_law_9, pc_Law_law_10, ma_go, ev_A, ev_B, ev_C, ev_D, Nat.reduceAdd, List.mem_cons, List.not_mem_nil, or_false, or_true, true_or, false_or, or_self, Nat.reduceEqDiff, reduceCtorEq, ↓reduceIte, List.length_cons, List.length_nil, Nat.reduceLT, Nat.reduceLeDiff, Nat.le_refl, implies_true, true_and, and_true, Option.toList, List.cons_append, List.nil_append]
  exact ⟨fun _ => hK h2 st, fun q => absurd trivial q⟩
end
