/-! the law's cases of out and block -/
theorem ST_p {h h' : ma_H} {L : List Nat} (ho : onr h h' L) (hL : ∀ a, a ∈ L → a = 184 ∨ a = 201) (e : ∀ k, k ≠ 0 → h'.1 184 k = h.1 184 k) (hs : ST h) : ST h' := by
  obtain ⟨s1, ⟨D, s2⟩, ⟨B, T, s3⟩, ⟨R, N, F, s4⟩, n, s5⟩ := hs
  refine ⟨sA_o ho (fun a ha q => by have := hL a q; omega) s1, ⟨D, sB_o ho (fun q => by have := hL _ q; omega) (fun q => by have := hL _ q; omega) s2⟩, ⟨B, T, sC_o ho (fun a h1 h2 q => by have := hL a q; omega) (fun q => by have := hL _ q; omega) ?_ (e 2 (by decide)) s3⟩, ⟨R, N, F, sD_o ho (fun a h1 h2 q => by have := hL a q; omega) (fun q => by have := hL _ q; omega) (fun q => by have := hL _ q; omega) ?_ (e 4 (by decide)) s4⟩, n, sE_o ho (fun a ha q => by have := hL a q; omega) (fun k h1 h2 => e k (by omega)) s5⟩
  · rw [ho.2.1 2 (fun q => by have := hL _ q; omega)]
  · rw [ho.2.1 2 (fun q => by have := hL _ q; omega)]
theorem ST_L {h : ma_H} (v : Int64) (hs : ST h) : ST (ma_uL h 201 0 v) := ST_p (L := [201]) (onr_uL (onr_rf h _) 0 v (by simp)) (fun a ha => by simp at ha; omega) (fun k _ => rfl) hs
theorem lg_cmp_self (z : Int64) : lg_cmp z z = nI 0 := by
  simp [lg_cmp]
  try rfl
theorem ab_n {n : Nat} (hn : n ≤ 160) {a : Int32} (h : nI 0 ≤ a ∧ a < nI n) : ∃ k, k < n ∧ a = nI k := by
  have h0 : n ≠ 0 := by
    rintro rfl
    have := h.1
    have h2 := h.2
    rw [Int32.le_iff_toInt_le] at this
    rw [Int32.lt_iff_toInt_lt] at h2
    omega
  obtain ⟨k, hk, e⟩ := iR (m := n - 1) (by omega) (show nI 0 ≤ a ∧ a ≤ nI (n - 1) from ⟨h.1, by
    have h2 := h.2
    rw [Int32.lt_iff_toInt_lt, nI_toInt (by omega)] at h2
    rw [Int32.le_iff_toInt_le, nI_toInt (by omega)]
    omega⟩)
  exact ⟨k, by omega, e⟩
set_option maxRecDepth 30000 in
theorem wl_529 : Cond.methodLink "StrandArchiveLaw" 74 me_Law_out.1 ∈ ma_wd := ma_has_in (i := 529) rfl
set_option maxRecDepth 30000 in
theorem wl_530 : Cond.static me_Law_out.1 ∈ ma_wd := ma_has_in (i := 530) rfl
set_option maxRecDepth 30000 in
theorem wl_598 : Cond.methodLink "StrandArchiveLaw" 87 me_Law_block.1 ∈ ma_wd := ma_has_in (i := 598) rfl
set_option maxRecDepth 30000 in
theorem wl_599 : Cond.static me_Law_block.1 ∈ ma_wd := ma_has_in (i := 599) rfl
section
variable {Z : State → Prop} {p : Program} {e : Env} {s : State} {m : MethodId} {args : Array Value} {below : List Frame} {meth : Method} {cd : Code} {l : Launch} {g : ma_G} {L : Nat} {xs : Nat → Int32} {Q : ma_P}
set_option maxRecDepth 30000 in
theorem lc_out (hR : ma_RQ g false me_Law_law Q s args below Z) (hl : l.stackTraces = false) (hTW : TW g.2.2.1 s) (hL : L ≤ 3072) : ∀ i c sl h, ST h → i + 6 ≤ L → c + 1 ≤ 601024 → sl + 6 ≤ 7293034 → (∀ h' c' sl', ST h' → c' ≤ c + 1 → sl' ≤ sl + 6 → lwJ Z p e s m args below meth cd l g L xs 432 [some (.ref 1), some (.ref 2), some (.ref 184), some (.ref 201), some (.int (nI i)), none, none] [] c' sl' GS h') → lwJ Z p e s m args below meth cd l g L xs 308 [some (.ref 1), some (.ref 2), some (.ref 184), some (.ref 201), some (.int (nI i)), none, none] [] c sl GS h := by
  intro i c sl h hs hi hc hsl hK
  have hsE := hs.2.2.2.2
  obtain ⟨n, hn, e175, e184, -, -, hby, -⟩ := hsE
  have hp : pt_ok h := hs.1.1
  refine ma_runS (mc := 601024) (ms := 7293034) hR po_Law_law rfl rfl [13, 315, 372, 432] (by decide) 120 (by decide) ?_
  simp only [pc_Law_law_0, pc_Law_law_1, pc_Law_law_2, pc_Law_law_3, pc_Law_law_4, pc_Law_law_5, pc_Law_law_6, pc_Law_law_7, pc_Law_law_8, pc_Law_law_9, pc_Law_law_10, ma_go, ev_A, ev_B, ev_C, ev_D, Nat.reduceAdd, List.mem_cons, List.not_mem_nil, or_false, or_true, true_or, false_or, or_self, Nat.reduceEqDiff, reduceCtorEq, ↓reduceIte, List.length_cons, List.length_nil, Nat.reduceLT, Nat.reduceLeDiff, Nat.le_refl, implies_true, true_and, and_true, Option.toList, List.cons_append, List.nil_append, ev_sld, ev_slen]
  simp only [nI_add]
  refine ⟨vq hi hL (by omega), ?_⟩
  by_cases hin : nI 0 ≤ xs (nI (i + 1)).toNatClampNeg ∧ xs (nI (i + 1)).toNatClampNeg < nI n
  · obtain ⟨k, hk, ha⟩ := ab_n hn hin
    rw [ha]
    refine hole_JS (av := [.ref 2, .int (nI k), .ref 201]) (rest := []) (mj := me_Law_out) (idx := 74) (nn := 3) (pcc := 521) (hh := [(0, 9, 12, 13)]) rfl hTW (law_out hp hn e175 hk) mc_Law_out rfl wl_529 wl_530 (by decide +kernel) rfl (by decide) hc hsl (by decide +kernel) rfl rfl (Nat.le_of_ble_eq_true rfl) ?_
    rintro v S' h1 ⟨rfl, rfl, rfl⟩
    have hs1 := ST_L (h.1 181 k).toInt64 hs
    generalize hh1 : ma_uL h 201 0 (h.1 181 k).toInt64 = h1 at hs1 ⊢
    have p1 : pt_ok h1 := hs1.1.1
    have e1 : h1.1 184 7 = nI n := by rw [← hh1]; exact e184
    have e2 : h1.1 189 k = h.1 181 k := by rw [← hh1]; exact (hby k hk).symm
    have e3 : h1.2.1 201 0 = (h.1 181 k).toInt64 := by rw [← hh1]; simp [ma_uL]
    refine ma_runS (mc := 601024) (ms := 7293034) hR po_Law_law rfl rfl [13, 315, 372, 432] (by decide) 120 (by decide) ?_
    simp only [pc_Law_law_0, pc_Law_law_1, pc_Law_law_2, pc_Law_law_3, pc_Law_law_4, pc_Law_law_5, pc_Law_law_6, pc_Law_law_7, pc_Law_law_8, pc_Law_law_9, pc_Law_law_10, ma_go, ev_A, ev_B, ev_C, ev_D, Nat.reduceAdd, List.mem_cons, List.not_mem_nil, or_false, or_true, true_or, false_or, or_self, Nat.reduceEqDiff, reduceCtorEq, ↓reduceIte, List.length_cons, List.length_nil, Nat.reduceLT, Nat.reduceLeDiff, Nat.le_refl, implies_true, true_and, and_true, Option.toList, List.cons_append, List.nil_append, gs_184, ev_sld, ev_slen]
    simp only [nI_add, ha]
    refine ⟨vq hi hL (by omega), ?_⟩
    refine ma_callP mt_Mod_out rfl rfl (Nat.le_of_ble_eq_true rfl) hc hsl (m_mout l g false p1 hn e1 hk) ?_
    rintro r S2 h2 ⟨rfl, rfl, rfl⟩
    simp only [pc_Law_law_0, pc_Law_law_1, pc_Law_law_2, pc_Law_law_3, pc_Law_law_4, pc_Law_law_5, pc_Law_law_6, pc_Law_law_7, pc_Law_law_8, pc_Law_law_9, pc_Law_law_10, ma_go, ev_A, ev_B, ev_C, ev_D, Nat.reduceAdd, List.mem_cons, List.not_mem_nil, or_false, or_true, true_or, false_or, or_self, Nat.reduceEqDiff, reduceCtorEq, ↓reduceIte, List.length_cons, List.length_nil, Nat.reduceLT, Nat.reduceLeDiff, Nat.le_refl, implies_true, true_and, and_true, Option.toList, List.cons_append, List.nil_append, gs_184, ev_sld, ev_slen]
    refine ma_callP mt_Mod_thrown rfl rfl (Nat.le_of_ble_eq_true rfl) hc hsl (m_mthrown l g false) ?_
    rintro r S2 h2 ⟨rfl, rfl, rfl⟩
    simp only [pc_Law_law_0, pc_Law_law_1, pc_Law_law_2, pc_Law_law_3, pc_Law_law_4, pc_Law_law_5, pc_Law_law_6, pc_Law_law_7, pc_Law_law_8, pc_Law_law_9, pc_Law_law_10, ma_go, ev_A, ev_B, ev_C, ev_D, Nat.reduceAdd, List.mem_cons, List.not_mem_nil, or_false, or_true, true_or, false_or, or_self, Nat.reduceEqDiff, reduceCtorEq, ↓reduceIte, List.length_cons, List.length_nil, Nat.reduceLT, Nat.reduceLeDiff, Nat.le_refl, implies_true, true_and, and_true, Option.toList, List.cons_append, List.nil_append, gs_184, gs_201, ev_sld, ev_slen]
    have q5 := hK (ma_uI h1 184 0 (nI 0)) (c + 1) (sl + 6) (ST_0 _ hs1) (by omega) (by omega)
    have q6 := q5.less (ls' := [some (.ref 1), some (.ref 2), some (.ref 184), some (.ref 201), some (.int (nI i)), some (.int (nI 0)), some (.int (h1.1 189 k))]) ⟨rfl, rfl, rfl, rfl, rfl, trivial⟩
    refine ⟨fun _ => ⟨fun z => absurd trivial z, fun _ => ⟨ma_in_of (n := 1) (i := 0) gs_201 (by decide) (by decide), fun _ => q6, fun z => absurd ?_ z⟩⟩, fun z => absurd (uI_same _ _ _ _) z⟩
    show lg_cmp (h1.2.1 201 0) _ = _
    rw [e3, e2]
    exact lg_cmp_self _
  · generalize ha : xs (nI (i + 1)).toNatClampNeg = a at hin ⊢
    refine hole_JS (av := [.ref 2, .int a, .ref 201]) (rest := []) (mj := me_Law_out) (idx := 74) (nn := 3) (pcc := 521) (hh := [(0, 9, 12, 13)]) rfl hTW (law_outN hl hp e175 hin) mc_Law_out rfl wl_529 wl_530 (by decide +kernel) rfl (by decide) hc hsl (by decide +kernel) rfl rfl (Nat.le_of_ble_eq_true rfl) ?_
    rintro v S' h1 ⟨rfl, rfl, rfl⟩
    have hin2 : ¬ (nI 0 ≤ a ∧ a ≤ h1.1 184 7 - nI 1) := by
      rw [e184]
      rintro ⟨b1, b2⟩
      refine hin ⟨b1, ?_⟩
      rw [Int32.le_iff_toInt_le] at b1 b2
      rw [Int32.lt_iff_toInt_lt]
      by_cases z : n = 0
      · subst z
        have z1 : (nI 0 - nI 1).toInt = -1 := by decide +kernel
        have z0 : (nI 0).toInt = 0 := by decide +kernel
        omega
      · rw [nx_sub' (by omega), nI_toInt (by omega)] at b2
        rw [nI_toInt (by omega)]
        omega
    refine ma_runS (mc := 601024) (ms := 7293034) hR po_Law_law rfl rfl [13, 315, 372, 432] (by decide) 120 (by decide) ?_
    simp only [pc_Law_law_0, pc_Law_law_1, pc_Law_law_2, pc_Law_law_3, pc_Law_law_4, pc_Law_law_5, pc_Law_law_6, pc_Law_law_7, pc_Law_law_8, pc_Law_law_9, pc_Law_law_10, ma_go, ev_A, ev_B, ev_C, ev_D, Nat.reduceAdd, List.mem_cons, List.not_mem_nil, or_false, or_true, true_or, false_or, or_self, Nat.reduceEqDiff, reduceCtorEq, ↓reduceIte, List.length_cons, List.length_nil, Nat.reduceLT, Nat.reduceLeDiff, Nat.le_refl, implies_true, true_and, and_true, Option.toList, List.cons_append, List.nil_append, gs_184, ev_sld, ev_slen]
    simp only [nI_add, ha]
    refine ⟨vq hi hL (by omega), ?_⟩
    refine ma_callP mt_Mod_out rfl rfl (Nat.le_of_ble_eq_true rfl) hc hsl (m_moutN l g false hin2) ?_
    rintro r S2 h2 ⟨rfl, rfl, rfl⟩
    simp only [pc_Law_law_0, pc_Law_law_1, pc_Law_law_2, pc_Law_law_3, pc_Law_law_4, pc_Law_law_5, pc_Law_law_6, pc_Law_law_7, pc_Law_law_8, pc_Law_law_9, pc_Law_law_10, ma_go, ev_A, ev_B, ev_C, ev_D, Nat.reduceAdd, List.mem_cons, List.not_mem_nil, or_false, or_true, true_or, false_or, or_self, Nat.reduceEqDiff, reduceCtorEq, ↓reduceIte, List.length_cons, List.length_nil, Nat.reduceLT, Nat.reduceLeDiff, Nat.le_refl, implies_true, true_and, and_true, Option.toList, List.cons_append, List.nil_append, gs_184, ev_sld, ev_slen]
    refine ma_callP mt_Mod_thrown rfl rfl (Nat.le_of_ble_eq_true rfl) hc hsl (m_mthrown l g false) ?_
    rintro r S2 h2 ⟨rfl, rfl, rfl⟩
    simp only [pc_Law_law_0, pc_Law_law_1, pc_Law_law_2, pc_Law_law_3, pc_Law_law_4, pc_Law_law_5, pc_Law_law_6, pc_Law_law_7, pc_Law_law_8, pc_Law_law_9, pc_Law_law_10, ma_go, ev_A, ev_B, ev_C, ev_D, Nat.reduceAdd, List.mem_cons, List.not_mem_nil, or_false, or_true, true_or, false_or, or_self, Nat.reduceEqDiff, reduceCtorEq, ↓reduceIte, List.length_cons, List.length_nil, Nat.reduceLT, Nat.reduceLeDiff, Nat.le_refl, implies_true, true_and, and_true, Option.toList, List.cons_append, List.nil_append, gs_184, gs_201, ev_sld, ev_slen]
    have q5 := hK (ma_uI h1 184 0 (nI 1)) (c + 1) (sl + 6) (ST_0 _ hs) (by omega) (by omega)
    have q6 := q5.less (ls' := [some (.ref 1), some (.ref 2), some (.ref 184), some (.ref 201), some (.int (nI i)), some (.int (nI 1)), some (.int (nI 0))]) ⟨rfl, rfl, rfl, rfl, rfl, trivial⟩
    exact ⟨fun _ => ⟨fun _ => q6, fun z => absurd z (by decide +kernel)⟩, fun z => absurd (uI_same _ _ _ _) z⟩
set_option maxRecDepth 30000 in
theorem lc_block (hR : ma_RQ g false me_Law_law Q s args below Z) (hl : l.stackTraces = false) (hTW : TW g.2.2.1 s) (hL : L ≤ 3072) : ∀ i c sl h, ST h → i + 6 ≤ L → c + 1 ≤ 601024 → sl + 6 ≤ 7293034 → (∀ h' c' sl', ST h' → c' ≤ c + 1 → sl' ≤ sl + 6 → lwJ Z p e s m args below meth cd l g L xs 432 [some (.ref 1), some (.ref 2), some (.ref 184), some (.ref 201), some (.int (nI i)), none, none] [] c' sl' GS h') → lwJ Z p e s m args below meth cd l g L xs 360 [some (.ref 1), some (.ref 2), some (.ref 184), some (.ref 201), some (.int (nI i)), none, none] [] c sl GS h := by
  intro i c sl h hs hi hc hsl hK
  have hsE := hs.2.2.2.2
  obtain ⟨n, hn, e175, e184, -, -, -, hby⟩ := hsE
  have hp : pt_ok h := hs.1.1
  refine ma_runS (mc := 601024) (ms := 7293034) hR po_Law_law rfl rfl [13, 315, 372, 432] (by decide) 120 (by decide) ?_
  simp only [pc_Law_law_0, pc_Law_law_1, pc_Law_law_2, pc_Law_law_3, pc_Law_law_4, pc_Law_law_5, pc_Law_law_6, pc_Law_law_7, pc_Law_law_8, pc_Law_law_9, pc_Law_law_10, ma_go, ev_A, ev_B, ev_C, ev_D, Nat.reduceAdd, List.mem_cons, List.not_mem_nil, or_false, or_true, true_or, false_or, or_self, Nat.reduceEqDiff, reduceCtorEq, ↓reduceIte, List.length_cons, List.length_nil, Nat.reduceLT, Nat.reduceLeDiff, Nat.le_refl, implies_true, true_and, and_true, Option.toList, List.cons_append, List.nil_append, ev_sld, ev_slen]
  simp only [nI_add]
  refine ⟨vq hi hL (by omega), vq hi hL (by omega), ?_⟩
  by_cases hin : (nI 0 ≤ xs (nI (i + 1)).toNatClampNeg ∧ xs (nI (i + 1)).toNatClampNeg < nI (bl n)) ∧ nI 0 ≤ xs (nI (i + 2)).toNatClampNeg ∧ xs (nI (i + 2)).toNatClampNeg ≤ nI 1
  · have b4 : bl n ≤ 4 := by unfold bl; omega
    obtain ⟨k, hk, ha⟩ := ab_n (by omega) hin.1
    obtain ⟨w, hw, hb⟩ := iR (by decide) hin.2
    rw [ha, hb]
    refine hole_JS (av := [.ref 2, .int (nI k), .int (nI w), .ref 201]) (rest := []) (mj := me_Law_block) (idx := 87) (nn := 4) (pcc := 608) (hh := [(0, 10, 13, 13)]) rfl hTW (law_block hp hn e175 hk hw) mc_Law_block rfl wl_598 wl_599 (by decide +kernel) rfl (by decide) hc hsl (by decide +kernel) rfl rfl (Nat.le_of_ble_eq_true rfl) ?_
    rintro v S' h1 ⟨rfl, rfl, rfl⟩
    have hs1 := ST_L (if w = 0 then h.1 182 k else h.1 183 k).toInt64 hs
    generalize hh1 : ma_uL h 201 0 (if w = 0 then h.1 182 k else h.1 183 k).toInt64 = h1 at hs1 ⊢
    have p1 : pt_ok h1 := hs1.1.1
    have e1 : h1.1 184 7 = nI n := by rw [← hh1]; exact e184
    have e2 : (if w = 0 then h1.1 190 k else h1.1 191 k) = (if w = 0 then h.1 182 k else h.1 183 k) := by rw [← hh1, (hby k hk).1, (hby k hk).2]; rfl
    have e3 : h1.2.1 201 0 = (if w = 0 then h.1 182 k else h.1 183 k).toInt64 := by rw [← hh1]; simp [ma_uL]
    refine ma_runS (mc := 601024) (ms := 7293034) hR po_Law_law rfl rfl [13, 315, 372, 432] (by decide) 120 (by decide) ?_
    simp only [pc_Law_law_0, pc_Law_law_1, pc_Law_law_2, pc_Law_law_3, pc_Law_law_4, pc_Law_law_5, pc_Law_law_6, pc_Law_law_7, pc_Law_law_8, pc_Law_law_9, pc_Law_law_10, ma_go, ev_A, ev_B, ev_C, ev_D, Nat.reduceAdd, List.mem_cons, List.not_mem_nil, or_false, or_true, true_or, false_or, or_self, Nat.reduceEqDiff, reduceCtorEq, ↓reduceIte, List.length_cons, List.length_nil, Nat.reduceLT, Nat.reduceLeDiff, Nat.le_refl, implies_true, true_and, and_true, Option.toList, List.cons_append, List.nil_append, gs_184, ev_sld, ev_slen]
    simp only [nI_add, ha, hb]
    refine ⟨vq hi hL (by omega), vq hi hL (by omega), ?_⟩
    refine ma_callP mt_Mod_block rfl rfl (Nat.le_of_ble_eq_true rfl) hc hsl (m_mblock l g false p1 hn e1 hk hw) ?_
    rintro r S2 h2 ⟨rfl, rfl, rfl⟩
    simp only [pc_Law_law_0, pc_Law_law_1, pc_Law_law_2, pc_Law_law_3, pc_Law_law_4, pc_Law_law_5, pc_Law_law_6, pc_Law_law_7, pc_Law_law_8, pc_Law_law_9, pc_Law_law_10, ma_go, ev_A, ev_B, ev_C, ev_D, Nat.reduceAdd, List.mem_cons, List.not_mem_nil, or_false, or_true, true_or, false_or, or_self, Nat.reduceEqDiff, reduceCtorEq, ↓reduceIte, List.length_cons, List.length_nil, Nat.reduceLT, Nat.reduceLeDiff, Nat.le_refl, implies_true, true_and, and_true, Option.toList, List.cons_append, List.nil_append, gs_184, ev_sld, ev_slen]
    refine ma_callP mt_Mod_thrown rfl rfl (Nat.le_of_ble_eq_true rfl) hc hsl (m_mthrown l g false) ?_
    rintro r S2 h2 ⟨rfl, rfl, rfl⟩
    simp only [pc_Law_law_0, pc_Law_law_1, pc_Law_law_2, pc_Law_law_3, pc_Law_law_4, pc_Law_law_5, pc_Law_law_6, pc_Law_law_7, pc_Law_law_8, pc_Law_law_9, pc_Law_law_10, ma_go, ev_A, ev_B, ev_C, ev_D, Nat.reduceAdd, List.mem_cons, List.not_mem_nil, or_false, or_true, true_or, false_or, or_self, Nat.reduceEqDiff, reduceCtorEq, ↓reduceIte, List.length_cons, List.length_nil, Nat.reduceLT, Nat.reduceLeDiff, Nat.le_refl, implies_true, true_and, and_true, Option.toList, List.cons_append, List.nil_append, gs_184, gs_201, ev_sld, ev_slen]
    have q5 := hK (ma_uI h1 184 0 (nI 0)) (c + 1) (sl + 6) (ST_0 _ hs1) (by omega) (by omega)
    have q6 := q5.less (ls' := [some (.ref 1), some (.ref 2), some (.ref 184), some (.ref 201), some (.int (nI i)), some (.int (nI 0)), some (.int (if w = 0 then h1.1 190 k else h1.1 191 k))]) ⟨rfl, rfl, rfl, rfl, rfl, trivial⟩
    refine ⟨fun _ => ⟨fun z => absurd trivial z, fun _ => ⟨ma_in_of (n := 1) (i := 0) gs_201 (by decide) (by decide), fun _ => q6, fun z => absurd ?_ z⟩⟩, fun z => absurd (uI_same _ _ _ _) z⟩
    show lg_cmp (h1.2.1 201 0) _ = _
    rw [e3, e2]
    exact lg_cmp_self _
  · generalize ha : xs (nI (i + 1)).toNatClampNeg = a at hin ⊢
    generalize hb : xs (nI (i + 2)).toNatClampNeg = b at hin ⊢
    refine hole_JS (av := [.ref 2, .int a, .int b, .ref 201]) (rest := []) (mj := me_Law_block) (idx := 87) (nn := 4) (pcc := 608) (hh := [(0, 10, 13, 13)]) rfl hTW (law_blockN hl hp hn e175 hin) mc_Law_block rfl wl_598 wl_599 (by decide +kernel) rfl (by decide) hc hsl (by decide +kernel) rfl rfl (Nat.le_of_ble_eq_true rfl) ?_
    rintro v S' h1 ⟨rfl, rfl, rfl⟩
    refine ma_runS (mc := 601024) (ms := 7293034) hR po_Law_law rfl rfl [13, 315, 372, 432] (by decide) 120 (by decide) ?_
    simp only [pc_Law_law_0, pc_Law_law_1, pc_Law_law_2, pc_Law_law_3, pc_Law_law_4, pc_Law_law_5, pc_Law_law_6, pc_Law_law_7, pc_Law_law_8, pc_Law_law_9, pc_Law_law_10, ma_go, ev_A, ev_B, ev_C, ev_D, Nat.reduceAdd, List.mem_cons, List.not_mem_nil, or_false, or_true, true_or, false_or, or_self, Nat.reduceEqDiff, reduceCtorEq, ↓reduceIte, List.length_cons, List.length_nil, Nat.reduceLT, Nat.reduceLeDiff, Nat.le_refl, implies_true, true_and, and_true, Option.toList, List.cons_append, List.nil_append, gs_184, ev_sld, ev_slen]
    simp only [nI_add, ha, hb]
    refine ⟨vq hi hL (by omega), vq hi hL (by omega), ?_⟩
    refine ma_callP mt_Mod_block rfl rfl (Nat.le_of_ble_eq_true rfl) hc hsl (m_mblockN l g false hn e184 hin) ?_
    rintro r S2 h2 ⟨rfl, rfl, rfl⟩
    simp only [pc_Law_law_0, pc_Law_law_1, pc_Law_law_2, pc_Law_law_3, pc_Law_law_4, pc_Law_law_5, pc_Law_law_6, pc_Law_law_7, pc_Law_law_8, pc_Law_law_9, pc_Law_law_10, ma_go, ev_A, ev_B, ev_C, ev_D, Nat.reduceAdd, List.mem_cons, List.not_mem_nil, or_false, or_true, true_or, false_or, or_self, Nat.reduceEqDiff, reduceCtorEq, ↓reduceIte, List.length_cons, List.length_nil, Nat.reduceLT, Nat.reduceLeDiff, Nat.le_refl, implies_true, true_and, and_true, Option.toList, List.cons_append, List.nil_append, gs_184, ev_sld, ev_slen]
    refine ma_callP mt_Mod_thrown rfl rfl (Nat.le_of_ble_eq_true rfl) hc hsl (m_mthrown l g false) ?_
    rintro r S2 h2 ⟨rfl, rfl, rfl⟩
    simp only [pc_Law_law_0, pc_Law_law_1, pc_Law_law_2, pc_Law_law_3, pc_Law_law_4, pc_Law_law_5, pc_Law_law_6, pc_Law_law_7, pc_Law_law_8, pc_Law_law_9, pc_Law_law_10, ma_go, ev_A, ev_B, ev_C, ev_D, Nat.reduceAdd, List.mem_cons, List.not_mem_nil, or_false, or_true, true_or, false_or, or_self, Nat.reduceEqDiff, reduceCtorEq, ↓reduceIte, List.length_cons, List.length_nil, Nat.reduceLT, Nat.reduceLeDiff, Nat.le_refl, implies_true, true_and, and_true, Option.toList, List.cons_append, List.nil_append, gs_184, gs_201, ev_sld, ev_slen]
    have q5 := hK (ma_uI h1 184 0 (nI 1)) (c + 1) (sl + 6) (ST_0 _ hs) (by omega) (by omega)
    have q6 := q5.less (ls' := [some (.ref 1), some (.ref 2), some (.ref 184), some (.ref 201), some (.int (nI i)), some (.int (nI 1)), some (.int (nI 0))]) ⟨rfl, rfl, rfl, rfl, rfl, trivial⟩
    exact ⟨fun _ => ⟨fun _ => q6, fun z => absurd z (by decide +kernel)⟩, fun z => absurd (uI_same _ _ _ _) z⟩
end
