/-! count of the class -/
theorem m_count (l : Launch) (g : ma_G) (x : Bool) {h : ma_H} (hp : pt_ok h) (w : Int32) : ma_PM l g x me_Arc_count [.ref 2, .int w] GS h (fun v S' h' => v = some (.int (if w = nI 0 then h.1 175 5 else if w = nI 1 then h.1 175 6 else if w = nI 2 then h.1 175 7 else -1)) ∧ S' = GS ∧ h' = h) := by
  refine ma_PM_of (P := pr_Arc_count) (by decide) rfl (Nat.le_of_ble_eq_true rfl) ?_
  show ma_J l g x none me_Arc_count pr_Arc_count _ 0 [some (.ref 2), some (.int w)] [] 0 0 GS h
  have n10 : ¬ nI 1 = nI 0 := by decide +kernel
  have n20 : ¬ nI 2 = nI 0 := by decide +kernel
  have n21 : ¬ nI 2 = nI 1 := by decide +kernel
  refine ma_run0 po_Arc_count rfl rfl [] 60 ?_
  simp only [pa_Arc_count, ma_go, ev_A, ev_B, ev_C, ev_D, Nat.reduceAdd, List.mem_cons, List.not_mem_nil, or_false, or_true, true_or, false_or, or_self, Nat.reduceEqDiff, reduceCtorEq, ↓reduceIte, List.length_cons, List.length_nil, Nat.reduceLT, Nat.reduceLeDiff, Nat.le_refl, implies_true, true_and, and_true, Option.toList, List.cons_append, List.nil_append, gs_2, gs_175, pt_Arc hp]
  simp only [ma_sw]
  simp only [pa_Arc_count, ma_go, ev_A, ev_B, ev_C, ev_D, Nat.reduceAdd, List.mem_cons, List.not_mem_nil, or_false, or_true, true_or, false_or, or_self, Nat.reduceEqDiff, reduceCtorEq, ↓reduceIte, List.length_cons, List.length_nil, Nat.reduceLT, Nat.reduceLeDiff, Nat.le_refl, implies_true, true_and, and_true, Option.toList, List.cons_append, List.nil_append, gs_2, gs_175, pt_Arc hp, ma_sw]
  refine ⟨⟨fun q => by rw [if_pos q], fun q => by rw [if_neg (by rw [q]; exact n10), if_pos q], fun q => by rw [if_neg (by rw [q]; exact n20), if_neg (by rw [q]; exact n21), if_pos q]⟩, fun q => ?_⟩
  have no : ∀ k, k < 3 → ¬ w = nI k := fun k hk e => q (by rw [e]; exact vp_in_nI hk (by decide))
  rw [if_neg (no 0 (by omega)), if_neg (no 1 (by omega)), if_neg (no 2 (by omega))]
