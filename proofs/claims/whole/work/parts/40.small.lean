/-! the small calls of both sides -/
theorem i255 (v : Int32) : ∃ n, n < 256 ∧ v &&& nI 255 = nI n := by
  obtain ⟨n, _, rfl⟩ := wb_of32 v
  refine ⟨n &&& 255, Nat.lt_of_le_of_lt Nat.and_le_right (by decide), nx_and _ _⟩
section
variable (l : Launch) (g : ma_G) (x : Bool) {h : ma_H}
theorem m_heap : ma_PM l g x me_Arc_heap [.ref 2] GS h (fun v S' h' => v = some (.int (h.1 2 4)) ∧ S' = GS ∧ h' = h) := by
  refine ma_PM_of (P := pr_Arc_heap) (by decide) rfl (Nat.le_of_ble_eq_true rfl) ?_
  show ma_J l g x none me_Arc_heap pr_Arc_heap _ 0 [some (.ref 2)] [] 0 0 GS h
  refine ma_run0 po_Arc_heap rfl rfl [] 60 ?_
  simp only [pa_Arc_heap, ma_go, ev_A, ev_B, ev_C, ev_D, Nat.reduceAdd, List.mem_cons, List.not_mem_nil, or_false, or_true, true_or, false_or, or_self, Nat.reduceEqDiff, reduceCtorEq, ↓reduceIte, List.length_cons, List.length_nil, Nat.reduceLT, Nat.reduceLeDiff, Nat.le_refl, implies_true, true_and, and_true, Option.toList, List.cons_append, List.nil_append, gs_2]
theorem m_mheap : ma_PM l g x me_Mod_heap [.ref 184] GS h (fun v S' h' => v = some (.int (h.1 184 4)) ∧ S' = GS ∧ h' = ma_uI h 184 0 (nI 0)) := by
  refine ma_PM_of (P := pr_Mod_heap) (by decide) rfl (Nat.le_of_ble_eq_true rfl) ?_
  show ma_J l g x none me_Mod_heap pr_Mod_heap _ 0 [some (.ref 184)] [] 0 0 GS h
  refine ma_run0 po_Mod_heap rfl rfl [] 60 ?_
  simp only [pa_Mod_heap, ma_go, ev_A, ev_B, ev_C, ev_D, Nat.reduceAdd, List.mem_cons, List.not_mem_nil, or_false, or_true, true_or, false_or, or_self, Nat.reduceEqDiff, reduceCtorEq, ↓reduceIte, List.length_cons, List.length_nil, Nat.reduceLT, Nat.reduceLeDiff, Nat.le_refl, implies_true, true_and, and_true, Option.toList, List.cons_append, List.nil_append, gs_184]
  rw [uI_ne (by omega)]
theorem m_clear : ma_PM l g x me_Arc_clear [.ref 2] GS h (fun v S' h' => v = none ∧ S' = GS ∧ h' = ma_uI h 2 4 (nI 0)) := by
  refine ma_PM_of (P := pr_Arc_clear) (by decide) rfl (Nat.le_of_ble_eq_true rfl) ?_
  show ma_J l g x none me_Arc_clear pr_Arc_clear _ 0 [some (.ref 2)] [] 0 0 GS h
  refine ma_run0 po_Arc_clear rfl rfl [] 60 ?_
  simp only [pa_Arc_clear, ma_go, ev_A, ev_B, ev_C, ev_D, Nat.reduceAdd, List.mem_cons, List.not_mem_nil, or_false, or_true, true_or, false_or, or_self, Nat.reduceEqDiff, reduceCtorEq, ↓reduceIte, List.length_cons, List.length_nil, Nat.reduceLT, Nat.reduceLeDiff, Nat.le_refl, implies_true, true_and, and_true, Option.toList, List.cons_append, List.nil_append, gs_2]
theorem m_mclear : ma_PM l g x me_Mod_clear [.ref 184] GS h (fun v S' h' => v = none ∧ S' = GS ∧ h' = ma_uI (ma_uI h 184 0 (nI 0)) 184 4 (nI 0)) := by
  refine ma_PM_of (P := pr_Mod_clear) (by decide) rfl (Nat.le_of_ble_eq_true rfl) ?_
  show ma_J l g x none me_Mod_clear pr_Mod_clear _ 0 [some (.ref 184)] [] 0 0 GS h
  refine ma_run0 po_Mod_clear rfl rfl [] 60 ?_
  simp only [pa_Mod_clear, ma_go, ev_A, ev_B, ev_C, ev_D, Nat.reduceAdd, List.mem_cons, List.not_mem_nil, or_false, or_true, true_or, false_or, or_self, Nat.reduceEqDiff, reduceCtorEq, ↓reduceIte, List.length_cons, List.length_nil, Nat.reduceLT, Nat.reduceLeDiff, Nat.le_refl, implies_true, true_and, and_true, Option.toList, List.cons_append, List.nil_append, gs_184]
theorem m_product (hp : pt_ok h) (hf : fd_ok h) {a b : Int32} {i j : Nat} (hi : i < 256) (hj : j < 256) (ea : a &&& nI 255 = nI i) (eb : b &&& nI 255 = nI j) : ma_PM l g x me_Arc_product [.ref 2, .int a, .int b] GS h (fun v S' h' => v = some (.int (nI (gf_m i j))) ∧ S' = GS ∧ h' = h) := by
  refine ma_PM_of (P := pr_Arc_product) (by decide) rfl (Nat.le_of_ble_eq_true rfl) ?_
  show ma_J l g x none me_Arc_product pr_Arc_product _ 0 [some (.ref 2), some (.int a), some (.int b)] [] 0 0 GS h
  refine ma_run0 po_Arc_product rfl rfl [] 60 ?_
  simp only [pa_Arc_product, ma_go, ev_A, ev_B, ev_C, ev_D, Nat.reduceAdd, List.mem_cons, List.not_mem_nil, or_false, or_true, true_or, false_or, or_self, Nat.reduceEqDiff, reduceCtorEq, ↓reduceIte, List.length_cons, List.length_nil, Nat.reduceLT, Nat.reduceLeDiff, Nat.le_refl, implies_true, true_and, and_true, Option.toList, List.cons_append, List.nil_append, gs_2, gs_160, pt_Arc hp, ea, eb]
  refine ma_callD mt_Fld_times rfl rfl (Nat.le_of_ble_eq_true rfl) (Nat.le_refl _) (Nat.le_refl _) (m_times l g x hf hi hj) ?_
  simp only [pa_Arc_product, ma_go, ev_A, ev_B, ev_C, ev_D, Nat.reduceAdd, List.mem_cons, List.not_mem_nil, or_false, or_true, true_or, false_or, or_self, Nat.reduceEqDiff, reduceCtorEq, ↓reduceIte, List.length_cons, List.length_nil, Nat.reduceLT, Nat.reduceLeDiff, Nat.le_refl, implies_true, true_and, and_true, Option.toList, List.cons_append, List.nil_append]
theorem m_mproduct {a b : Int32} {i j : Nat} (hi : i < 256) (hj : j < 256) (ea : a &&& nI 255 = nI i) (eb : b &&& nI 255 = nI j) : ma_PM l g x me_Mod_product [.ref 184, .int a, .int b] GS h (fun v S' h' => v = some (.int (nI (gf_m i j))) ∧ S' = GS ∧ h' = ma_uI h 184 0 (nI 0)) := by
  refine ma_PM_of (P := pr_Mod_product) (by decide) rfl (Nat.le_of_ble_eq_true rfl) ?_
  show ma_J l g x none me_Mod_product pr_Mod_product _ 0 [some (.ref 184), some (.int a), some (.int b)] [] 0 0 GS h
  refine ma_run0 po_Mod_product rfl rfl [] 60 ?_
  simp only [pa_Mod_product, ma_go, ev_A, ev_B, ev_C, ev_D, Nat.reduceAdd, List.mem_cons, List.not_mem_nil, or_false, or_true, true_or, false_or, or_self, Nat.reduceEqDiff, reduceCtorEq, ↓reduceIte, List.length_cons, List.length_nil, Nat.reduceLT, Nat.reduceLeDiff, Nat.le_refl, implies_true, true_and, and_true, Option.toList, List.cons_append, List.nil_append, gs_184, ea, eb]
  refine ma_callD mt_Mod_times rfl rfl (Nat.le_of_ble_eq_true rfl) (Nat.le_refl _) (Nat.le_refl _) (m_mtimes l g x GS _ hi hj) ?_
  simp only [pa_Mod_product, ma_go, ev_A, ev_B, ev_C, ev_D, Nat.reduceAdd, List.mem_cons, List.not_mem_nil, or_false, or_true, true_or, false_or, or_self, Nat.reduceEqDiff, reduceCtorEq, ↓reduceIte, List.length_cons, List.length_nil, Nat.reduceLT, Nat.reduceLeDiff, Nat.le_refl, implies_true, true_and, and_true, Option.toList, List.cons_append, List.nil_append]
end
