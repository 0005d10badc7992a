/-! block of the class, where it throws -/
set_option maxRecDepth 30000 in
theorem st_264 : Cond.methodLink "StrandArchive" 70 me_Arc_blocksOf.1 ∈ ma_wd := ma_has_in (i := 264) rfl
set_option maxRecDepth 30000 in
theorem st_265 : Cond.static me_Arc_blocksOf.1 ∈ ma_wd := ma_has_in (i := 265) rfl
set_option maxRecDepth 30000 in
theorem st_40 : Cond.initialized "StrandArchive" ∈ ma_wd := ma_has_in (i := 40) rfl
theorem block_throws {l : Launch} {g : ma_G} {h : ma_H} (hl : l.stackTraces = false) (hp : pt_ok h) {b w : Int32} {n : Nat} (hn : n ≤ 160) (e0 : h.1 175 5 = nI n) (hb : ¬ ((nI 0 ≤ b ∧ b < nI (bl n)) ∧ nI 0 ≤ w ∧ w ≤ nI 1)) : MetFree l me_Arc_block.1 (headSpec (ma_wo me_Arc_block) rmT) (PcT g [.ref 2, .int b, .int w] h) (fun _ _ _ _ _ => True) QT := by
  refine thr_of (P := pr_Arc_block) hl (by decide) rfl (Nat.le_of_ble_eq_true rfl) ?_
  intro p e s m below meth cd htr hTW hemp
  have tl : ∀ H locs, (∀ x ∈ locs, s.heap.size ≤ x.base) → ma_JF (Cond.code me_Arc_block.1 me_Arc_block.2.1 me_Arc_block.2.2.1 me_Arc_block.2.2.2.1) (ZT s below) rmT H locs p e s m ([Value.ref 2, .int b, .int w].map (ma_tv g)).toArray below meth cd l g false none me_Arc_block pr_Arc_block 13 [some (.ref 2), some (.int b), some (.int w)] [] 0 0 GS h :=
    fun H locs hlocs => tail_JF (pc := 27) rfl htr hTW hemp hlocs rfl (by decide +kernel) (by decide +kernel) (by decide +kernel) (by decide +kernel)
  have t7 : ∀ H locs, (∀ x ∈ locs, s.heap.size ≤ x.base) → nI 0 ≤ b → ma_JF (Cond.code me_Arc_block.1 me_Arc_block.2.1 me_Arc_block.2.2.1 me_Arc_block.2.2.2.1) (ZT s below) rmT H locs p e s m ([Value.ref 2, .int b, .int w].map (ma_tv g)).toArray below meth cd l g false none me_Arc_block pr_Arc_block 7 [some (.ref 2), some (.int b), some (.int w)] [.int (nI (bl n)), .int b] 0 0 GS h := by
    intro H locs hlocs b0
    refine ma_runF (mc := 1) (ms := 6) (fun _ _ _ => True) pf_Arc_block rfl rfl [6, 13, 15, 16, 17, 30] (by decide) 30 (by decide) ?_
    simp only [pa_Arc_block, ma_go, ev_A, ev_B, ev_C, ev_D, Nat.reduceAdd, List.mem_cons, List.not_mem_nil, or_false, or_true, true_or, false_or, or_self, Nat.reduceEqDiff, reduceCtorEq, ↓reduceIte, List.length_cons, List.length_nil, Nat.reduceLT, Nat.reduceLeDiff, Nat.le_refl, implies_true, true_and, and_true, Option.toList, List.cons_append, List.nil_append, gs_2, gs_175, pt_Arc hp, pt_Dec hp, e0]
    refine ⟨fun _ => tl H locs hlocs, fun q => ⟨fun _ => tl H locs hlocs, fun q2 => ⟨fun q3 => absurd ⟨⟨b0, ?_⟩, ?_, q3⟩ hb, fun _ => tl H locs hlocs⟩⟩⟩
    · rw [Int32.le_iff_toInt_le] at q
      exact Int32.lt_iff_toInt_lt.mpr (by omega)
    · rw [Int32.lt_iff_toInt_lt] at q2
      exact Int32.le_iff_toInt_le.mpr (by omega)
  have t6 : nI 0 ≤ b → ma_JF (Cond.code me_Arc_block.1 me_Arc_block.2.1 me_Arc_block.2.2.1 me_Arc_block.2.2.2.1) (ZT s below) rmT s.heap [] p e s m ([Value.ref 2, .int b, .int w].map (ma_tv g)).toArray below meth cd l g false none me_Arc_block pr_Arc_block 6 [some (.ref 2), some (.int b), some (.int w)] [.int (nI n), .int b] 0 0 GS h := by
    intro b0 la pc hB hw hL hpc T hT X
    have hpc2 : pc = 12 := by cases hpc; rfl
    subst hpc2
    have hM := m_blocksOf l (g.1, g.2.1, s.heap.size, g.2.2.2) false (h := h) [] hn
    have hpre : PreS s s.heap (ma_Pc (g.1, g.2.1, s.heap.size, g.2.2.2) false [.int (nI n)] [] h) ([Value.int (nI n)].map (ma_tv (g.1, g.2.1, s.heap.size, g.2.2.2))) :=
      ⟨ma_blind _ _ _ _ _, fun U hU hW => ⟨rfl, ⟨fun k q hk => by simp [ma_ws] at hk, fun q => by cases q⟩, by rw [hU]; exact Nat.le_refl _, hB.2.2.2.2.2.2.2.2.1.moved hW⟩⟩
    have hr := va_runS (l := l) (e := e) (R := rmT) (below := below) (meth := meth) (locs := []) (cells := 0) (slots := 0) (g := F0 m 12 la [.int (nI n), .int b]) (rest := [.int b]) (As := [Value.int (nI n)].map (ma_tv (g.1, g.2.1, s.heap.size, g.2.2.2))) ⟨hB.1, hB.2.1, hB.2.2.1, hB.2.2.2.2.2.2.2.1, hB.2.2.2.2.2.2.1⟩ hM ⟨callB_of (bytes := me_Arc_blocksOf.2.1) (maxL := me_Arc_blocksOf.2.2.1) (ret := me_Arc_blocksOf.2.2.2.1) 1 hB.2.2.2.2.2.2.1 (ma_goodS mc_Arc_blocksOf) rfl rfl rfl (ma_wBS hB st_40) (ma_wBS hB st_264) ⟨by decide, by decide, by decide +kernel⟩ ⟨by decide, by decide⟩, ma_wBS hB st_265⟩ hpre rfl rfl hL.1 rfl (Nat.le_of_ble_eq_true rfl) (index := 70) (by show decode me_Arc_block.2.1 12 = _; decide +kernel) ⟨by decide, by decide⟩
    obtain ⟨v, st₀, t, T', L, h0, X', hLf, e1, e2, ⟨⟨v', S', h', hv, ⟨hp1, hp2, hp3⟩, hat⟩, ⟨hz, hk⟩, hzz⟩, go⟩ := hr T hT X
    subst hp1
    cases hv
    rw [h0] at hz hk
    have keep : ∀ q, q < s.heap.size → T'.heap[q]? = s.heap[q]? := fun q hq => by rw [e1]; exact hk q hq (Nat.not_le.mpr hq)
    have hw' : ma_wH g false GS h s T'.heap L 0 := ⟨hw.1.kept (fun k q hk2 => keep q.1 (hw.1 k q hk2).lt), ⟨by rw [e1]; exact hz, fun q g1 g2 => keep q g1, fun q hq => Nat.le_trans hB.2.2.2.2.2.2.2.2.2.1 (hLf q hq)⟩, fun q => by cases q⟩
    obtain ⟨t2, a1, b1⟩ := t7 T'.heap L hLf b0 la 15 hB hw' hL rfl T' rfl X'
    exact ⟨t2, go t2 a1, b1⟩
  show ma_JF _ _ _ _ _ p e s m _ below meth cd l g false none me_Arc_block pr_Arc_block 0 [some (.ref 2), some (.int b), some (.int w)] [] 0 0 GS h
  refine ma_runF (mc := 1) (ms := 6) (fun _ _ _ => True) pf_Arc_block rfl rfl [6, 13, 15, 16, 30] (by decide) 30 (by decide) ?_
  simp only [pa_Arc_block, ma_go, ev_A, ev_B, ev_C, ev_D, Nat.reduceAdd, List.mem_cons, List.not_mem_nil, or_false, or_true, true_or, false_or, or_self, Nat.reduceEqDiff, reduceCtorEq, ↓reduceIte, List.length_cons, List.length_nil, Nat.reduceLT, Nat.reduceLeDiff, Nat.le_refl, implies_true, true_and, and_true, Option.toList, List.cons_append, List.nil_append, gs_2, gs_175, pt_Arc hp, pt_Dec hp, e0]
  refine ⟨fun _ => tl _ _ (fun x hx => by cases hx), fun q => t6 ?_⟩
  rw [Int32.lt_iff_toInt_lt] at q
  exact Int32.le_iff_toInt_le.mpr (by omega)
