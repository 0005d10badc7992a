/-! the law's out and block -/
theorem pf_Law_out : ma_okF me_Law_out pr_Law_out [4, 5, 6, 8, 10, 12] := ma_okF_of (by decide +kernel)
theorem pf_Law_block : ma_okF me_Law_block pr_Law_block [5, 6, 7, 9, 11, 13] := ma_okF_of (by decide +kernel)
set_option maxRecDepth 30000 in
theorem wl_532 : Cond.classLink "StrandArchiveLaw" 13 nse ∈ ma_wd := ma_has_in (i := 532) rfl
set_option maxRecDepth 30000 in
theorem wl_533 : Cond.methodLink "StrandArchiveLaw" 7 me_Arc_out.1 ∈ ma_wd := ma_has_in (i := 533) rfl
set_option maxRecDepth 30000 in
theorem wl_534 : Cond.instanceMethod me_Arc_out.1 ∈ ma_wd := ma_has_in (i := 534) rfl
set_option maxRecDepth 30000 in
theorem wl_535 : Cond.selects "StrandArchive" me_Arc_out.1 me_Arc_out.1 ∈ ma_wd := ma_has_in (i := 535) rfl
set_option maxRecDepth 30000 in
theorem wl_601 : Cond.methodLink "StrandArchiveLaw" 15 me_Arc_block.1 ∈ ma_wd := ma_has_in (i := 601) rfl
set_option maxRecDepth 30000 in
theorem wl_602 : Cond.instanceMethod me_Arc_block.1 ∈ ma_wd := ma_has_in (i := 602) rfl
set_option maxRecDepth 30000 in
theorem wl_603 : Cond.selects "StrandArchive" me_Arc_block.1 me_Arc_block.1 ∈ ma_wd := ma_has_in (i := 603) rfl
theorem tab_one : ∀ {L : List ExceptionTableEntry} {a b c d : Nat}, L.map (fun h => (h.startPc, h.endPc, h.handlerPc, h.catchType)) = [(a, b, c, d)] → L = [⟨a, b, c, d⟩]
  | [], _, _, _, _, h => by cases h
  | [x], a, b, c, d, h => by
    obtain ⟨x1, x2, x3, x4⟩ := x
    simp at h
    obtain ⟨rfl, rfl, rfl, rfl⟩ := h
    rfl
  | x :: y :: t, _, _, _, _, h => by simp at h
abbrev LM (l : Launch) (g : ma_G) (mi : ma_M) (w0 : Cond) (av : List Value) (h : ma_H) (Q : ma_P) : Prop := Met l mi.1 (w0 :: ma_wd) rmL (PcT g av h) (ma_Qc g false 1 Q) 1 6 (fun q => g.2.2.1 ≤ q)
theorem lawh_of {l : Launch} {g : ma_G} {h : ma_H} {av : List Value} {mi : ma_M} {P : List ma_E} {hh : List (Nat × Nat × Nat × Nat)} {Q : ma_P} (hpl : plainName mi.1.cls = true) (hp0 : ma_pcAt P 0 = some 0) (hlen : (ma_en av).length ≤ mi.2.2.1)
    (hJ : ∀ (p : Program) (e : Env) (s : State) (m : MethodId) (below : List Frame) (meth : Method) (cd : Code), TW g.2.2.1 s → cd.exceptionTable.toList.map (fun h => (h.startPc, h.endPc, h.handlerPc, h.catchType)) = hh →
      ma_JF (Cond.codeWith mi.1 mi.2.1 mi.2.2.1 mi.2.2.2.1 hh) (MQ below (ma_Qc g false 1 Q) (av.map (ma_tv g)).toArray s 1 6 (fun q => g.2.2.1 ≤ q)) rmL s.heap [] p e s m (av.map (ma_tv g)).toArray below meth cd l g false none mi P 0 (ma_en av ++ List.replicate (mi.2.2.1 - (ma_en av).length) none) [] 0 0 GS h) :
    LM l g mi (Cond.codeWith mi.1 mi.2.1 mi.2.2.1 mi.2.2.2.1 hh) av h Q := by
  refine va_MetW (cc := mi.2.1) (maxL := mi.2.2.1) (ret := mi.2.2.2.1) (hh := hh) hpl rfl ?_
  intro p e s m args below meth c s₁ B hml hP
  obtain ⟨rfl, hat, hb, hKK, hTW⟩ := hP
  obtain ⟨la, e1, hL⟩ := ma_Len g m av hlen
  have X0 := Stand.of_body B
  obtain ⟨m9, meth9, c9, hn9, h1, h2, -, -, h5, -⟩ := Cond.codeWith_spec (atoms_spec (ws := Cond.codeWith mi.1 mi.2.1 mi.2.2.1 mi.2.2.2.1 hh :: ma_wd) B.pre _ List.mem_cons_self)
  cases B.named.symm.trans hn9
  cases X0.method.symm.trans h1
  cases X0.code.symm.trans h2
  rw [e1]
  exact hJ p e s m below meth c hTW h5 la 0 ⟨B.exec, B.bytes, hml, B.returns, B.notSynchronized, (name_of_methodNamed B.named B.method).1, atoms_spec (ws := Cond.codeWith mi.1 mi.2.1 mi.2.2.1 mi.2.2.2.1 hh :: ma_wd) B.pre, findClass_of_methodNamed B.named, hKK, hb, fun L xs q => by cases q⟩ ⟨hat.1, va_S.rf, fun q => by cases q⟩ hL hp0
section
variable {l : Launch} {g : ma_G} {h : ma_H}
theorem law_out (hp : pt_ok h) {k n : Nat} (hn : n ≤ 160) (e0 : h.1 175 5 = nI n) (hk : k < n) : LM l g me_Law_out cw_Law_out [.ref 2, .int (nI k), .ref 201] h (fun v S' h' => v = some (.int (nI 0)) ∧ S' = GS ∧ h' = ma_uL h 201 0 (h.1 181 k).toInt64) := by
  refine lawh_of (P := pr_Law_out) (by decide) rfl (Nat.le_of_ble_eq_true rfl) ?_
  intro p e s m below meth cd hTW htab
  show ma_JF cw_Law_out _ _ _ _ p e s m _ below meth cd l g false none me_Law_out pr_Law_out 0 [some (.ref 2), some (.int (nI k)), some (.ref 201), none] [] 0 0 GS h
  refine ma_runF (mc := 1) (ms := 6) (fun _ _ _ => True) pf_Law_out rfl rfl [4, 5, 6, 8, 10, 12] (by decide) 30 (by decide) ?_
  simp only [pa_Law_out, ma_go, ev_A, ev_B, ev_C, ev_D, Nat.reduceAdd, List.mem_cons, List.not_mem_nil, or_false, or_true, true_or, false_or, or_self, Nat.reduceEqDiff, reduceCtorEq, ↓reduceIte, List.length_cons, List.length_nil, Nat.reduceLT, Nat.reduceLeDiff, Nat.le_refl, implies_true, true_and, and_true, Option.toList, List.cons_append, List.nil_append]
  refine ans_JF (av := [.int (nI k)]) (rest := [.int (nI 0), .ref 201]) (mj := me_Arc_out) (idx := 7) (nn := 1) (pcc := 4) rfl (m_out l g hp hn e0 hk) ⟨rfl, rfl⟩ mc_Arc_out rfl wl_533 wl_534 wl_535 (by decide +kernel) rfl (by decide) st_40 (by decide +kernel) rfl rfl (Nat.le_of_ble_eq_true rfl) (by decide) ?_
  rintro v S' h' ⟨rfl, rfl, rfl⟩
  show ma_JS _ _ p e s m _ below meth cd l g false none me_Law_out pr_Law_out 5 _ [.int (h'.1 181 k), .int (nI 0), .ref 201] 1 6 GS h'
  refine ma_runS (mc := 1) (ms := 6) (Q := fun v S' h1 => v = some (.int (nI 0)) ∧ S' = GS ∧ h1 = ma_uL h' 201 0 (h'.1 181 k).toInt64) (fun t ht => ht) po_Law_out rfl rfl [4] (by decide) 30 (by decide) ?_
  simp only [pa_Law_out, ma_go, ev_A, ev_B, ev_C, ev_D, Nat.reduceAdd, List.mem_cons, List.not_mem_nil, or_false, or_true, true_or, false_or, or_self, Nat.reduceEqDiff, reduceCtorEq, ↓reduceIte, List.length_cons, List.length_nil, Nat.reduceLT, Nat.reduceLeDiff, Nat.le_refl, implies_true, true_and, and_true, Option.toList, List.cons_append, List.nil_append]
  rw [show (nI 0).toNatClampNeg = 0 from rfl]
  simp only [Bool.false_eq_true, false_implies, true_and, reduceCtorEq]
  exact ⟨ma_in_of (n := 1) (i := 0) gs_201 (by decide) (by decide), by simp⟩
theorem law_outN (hl : l.stackTraces = false) (hp : pt_ok h) {i : Int32} {n : Nat} (e0 : h.1 175 5 = nI n) (hi : ¬ (nI 0 ≤ i ∧ i < nI n)) : LM l g me_Law_out cw_Law_out [.ref 2, .int i, .ref 201] h (fun v S' h' => v = some (.int (nI 1)) ∧ S' = GS ∧ h' = h) := by
  refine lawh_of (P := pr_Law_out) (by decide) rfl (Nat.le_of_ble_eq_true rfl) ?_
  intro p e s m below meth cd hTW htab
  show ma_JF cw_Law_out _ _ _ _ p e s m _ below meth cd l g false none me_Law_out pr_Law_out 0 [some (.ref 2), some (.int i), some (.ref 201), none] [] 0 0 GS h
  refine ma_runF (mc := 1) (ms := 6) (fun _ _ _ => True) pf_Law_out rfl rfl [4, 5, 6, 8, 10, 12] (by decide) 30 (by decide) ?_
  simp only [pa_Law_out, ma_go, ev_A, ev_B, ev_C, ev_D, Nat.reduceAdd, List.mem_cons, List.not_mem_nil, or_false, or_true, true_or, false_or, or_self, Nat.reduceEqDiff, reduceCtorEq, ↓reduceIte, List.length_cons, List.length_nil, Nat.reduceLT, Nat.reduceLeDiff, Nat.le_refl, implies_true, true_and, and_true, Option.toList, List.cons_append, List.nil_append]
  refine catch_JF (av := [.int i]) (rest := [.int (nI 0), .ref 201]) (mj := me_Arc_out) (idx := 7) (nn := 1) (pcc := 4) (kh := 8) (pch := 12) rfl hTW (out_throws hl hp e0 hi) mc_Arc_out rfl wl_533 wl_534 wl_535 (by decide +kernel) rfl (by decide) (tab_one htab) (by decide) wl_532 st_40 (by decide +kernel) rfl rfl (Nat.le_of_ble_eq_true rfl) (by decide) ?_
  intro r
  show ma_JS _ _ p e s m _ below meth cd l g false none me_Law_out pr_Law_out 8 _ [.ref r] 1 6 GS h
  refine ma_runS (mc := 1) (ms := 6) (Q := fun v S' h1 => v = some (.int (nI 1)) ∧ S' = GS ∧ h1 = h) (fun t ht => ht) po_Law_out rfl rfl [4] (by decide) 30 (by decide) ?_
  simp only [pa_Law_out, ma_go, ev_A, ev_B, ev_C, ev_D, Nat.reduceAdd, List.mem_cons, List.not_mem_nil, or_false, or_true, true_or, false_or, or_self, Nat.reduceEqDiff, reduceCtorEq, ↓reduceIte, List.length_cons, List.length_nil, Nat.reduceLT, Nat.reduceLeDiff, Nat.le_refl, implies_true, true_and, and_true, Option.toList, List.cons_append, List.nil_append]
theorem law_block (hp : pt_ok h) {n b w : Nat} (hn : n ≤ 160) (e0 : h.1 175 5 = nI n) (hb : b < bl n) (hw : w ≤ 1) : LM l g me_Law_block cw_Law_block [.ref 2, .int (nI b), .int (nI w), .ref 201] h (fun v S' h' => v = some (.int (nI 0)) ∧ S' = GS ∧ h' = ma_uL h 201 0 (if w = 0 then h.1 182 b else h.1 183 b).toInt64) := by
  refine lawh_of (P := pr_Law_block) (by decide) rfl (Nat.le_of_ble_eq_true rfl) ?_
  intro p e s m below meth cd hTW htab
  show ma_JF cw_Law_block _ _ _ _ p e s m _ below meth cd l g false none me_Law_block pr_Law_block 0 [some (.ref 2), some (.int (nI b)), some (.int (nI w)), some (.ref 201), none] [] 0 0 GS h
  refine ma_runF (mc := 1) (ms := 6) (fun _ _ _ => True) pf_Law_block rfl rfl [5, 6, 7, 9, 11, 13] (by decide) 30 (by decide) ?_
  simp only [pa_Law_block, ma_go, ev_A, ev_B, ev_C, ev_D, Nat.reduceAdd, List.mem_cons, List.not_mem_nil, or_false, or_true, true_or, false_or, or_self, Nat.reduceEqDiff, reduceCtorEq, ↓reduceIte, List.length_cons, List.length_nil, Nat.reduceLT, Nat.reduceLeDiff, Nat.le_refl, implies_true, true_and, and_true, Option.toList, List.cons_append, List.nil_append]
  refine ans_JF (av := [.int (nI b), .int (nI w)]) (rest := [.int (nI 0), .ref 201]) (mj := me_Arc_block) (idx := 15) (nn := 2) (pcc := 5) rfl (m_block l g hp hn e0 hb hw) ⟨rfl, rfl⟩ mc_Arc_block rfl wl_601 wl_602 wl_603 (by decide +kernel) rfl (by decide) st_40 (by decide +kernel) rfl rfl (Nat.le_of_ble_eq_true rfl) (by decide) ?_
  rintro v S' h' ⟨rfl, rfl, rfl⟩
  show ma_JS _ _ p e s m _ below meth cd l g false none me_Law_block pr_Law_block 6 _ [.int (if w = 0 then h'.1 182 b else h'.1 183 b), .int (nI 0), .ref 201] 1 6 GS h'
  refine ma_runS (mc := 1) (ms := 6) (Q := fun v S' h1 => v = some (.int (nI 0)) ∧ S' = GS ∧ h1 = ma_uL h' 201 0 (if w = 0 then h'.1 182 b else h'.1 183 b).toInt64) (fun t ht => ht) po_Law_block rfl rfl [5] (by decide) 30 (by decide) ?_
  simp only [pa_Law_block, ma_go, ev_A, ev_B, ev_C, ev_D, Nat.reduceAdd, List.mem_cons, List.not_mem_nil, or_false, or_true, true_or, false_or, or_self, Nat.reduceEqDiff, reduceCtorEq, ↓reduceIte, List.length_cons, List.length_nil, Nat.reduceLT, Nat.reduceLeDiff, Nat.le_refl, implies_true, true_and, and_true, Option.toList, List.cons_append, List.nil_append]
  rw [show (nI 0).toNatClampNeg = 0 from rfl]
  simp only [Bool.false_eq_true, false_implies, true_and, reduceCtorEq]
  exact ⟨ma_in_of (n := 1) (i := 0) gs_201 (by decide) (by decide), by simp⟩
theorem law_blockN (hl : l.stackTraces = false) (hp : pt_ok h) {b w : Int32} {n : Nat} (hn : n ≤ 160) (e0 : h.1 175 5 = nI n) (hb : ¬ ((nI 0 ≤ b ∧ b < nI (bl n)) ∧ nI 0 ≤ w ∧ w ≤ nI 1)) : LM l g me_Law_block cw_Law_block [.ref 2, .int b, .int w, .ref 201] h (fun v S' h' => v = some (.int (nI 1)) ∧ S' = GS ∧ h' = h) := by
  refine lawh_of (P := pr_Law_block) (by decide) rfl (Nat.le_of_ble_eq_true rfl) ?_
  intro p e s m below meth cd hTW htab
  show ma_JF cw_Law_block _ _ _ _ p e s m _ below meth cd l g false none me_Law_block pr_Law_block 0 [some (.ref 2), some (.int b), some (.int w), some (.ref 201), none] [] 0 0 GS h
  refine ma_runF (mc := 1) (ms := 6) (fun _ _ _ => True) pf_Law_block rfl rfl [5, 6, 7, 9, 11, 13] (by decide) 30 (by decide) ?_
  simp only [pa_Law_block, ma_go, ev_A, ev_B, ev_C, ev_D, Nat.reduceAdd, List.mem_cons, List.not_mem_nil, or_false, or_true, true_or, false_or, or_self, Nat.reduceEqDiff, reduceCtorEq, ↓reduceIte, List.length_cons, List.length_nil, Nat.reduceLT, Nat.reduceLeDiff, Nat.le_refl, implies_true, true_and, and_true, Option.toList, List.cons_append, List.nil_append]
  refine catch_JF (av := [.int b, .int w]) (rest := [.int (nI 0), .ref 201]) (mj := me_Arc_block) (idx := 15) (nn := 2) (pcc := 5) (kh := 9) (pch := 13) rfl hTW (block_throws hl hp hn e0 hb) mc_Arc_block rfl wl_601 wl_602 wl_603 (by decide +kernel) rfl (by decide) (tab_one htab) (by decide) wl_532 st_40 (by decide +kernel) rfl rfl (Nat.le_of_ble_eq_true rfl) (by decide) ?_
  intro r
  show ma_JS _ _ p e s m _ below meth cd l g false none me_Law_block pr_Law_block 9 _ [.ref r] 1 6 GS h
  refine ma_runS (mc := 1) (ms := 6) (Q := fun v S' h1 => v = some (.int (nI 1)) ∧ S' = GS ∧ h1 = h) (fun t ht => ht) po_Law_block rfl rfl [5] (by decide) 30 (by decide) ?_
  simp only [pa_Law_block, ma_go, ev_A, ev_B, ev_C, ev_D, Nat.reduceAdd, List.mem_cons, List.not_mem_nil, or_false, or_true, true_or, false_or, or_self, Nat.reduceEqDiff, reduceCtorEq, ↓reduceIte, List.length_cons, List.length_nil, Nat.reduceLT, Nat.reduceLeDiff, Nat.le_refl, implies_true, true_and, and_true, Option.toList, List.cons_append, List.nil_append]
end
