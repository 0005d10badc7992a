/-! Integer.bitCount -/
theorem m_bitCount (l : Launch) (g : ma_G) (x : Bool) {h : ma_H} {z : Nat} (hz : z < 65536) : ma_PM l g x me_Itg_bitCount [.int (nI z)] GS h (fun v S' h' => v = some (.int (nI (gf_cn 16 (tb z)))) ∧ S' = GS ∧ h' = h) := by
  refine ma_PM_for (P := pr_Itg_bitCount) (by decide +kernel) rfl (Nat.le_of_ble_eq_true rfl) ?_
  show ma_J l g x none me_Itg_bitCount pr_Itg_bitCount _ 0 [some (.int (nI z))] [] 0 0 GS h
  refine ma_run0 po_Itg_bitCount rfl rfl [] 80 ?_
  simp only [pa_Itg_bitCount, ma_go, ev_A, ev_B, ev_C, ev_D, Nat.reduceAdd, List.mem_cons, List.not_mem_nil, or_false, or_true, true_or, false_or, or_self, Nat.reduceEqDiff, reduceCtorEq, ↓reduceIte, List.length_cons, List.length_nil, Nat.reduceLT, Nat.reduceLeDiff, Nat.le_refl, implies_true, true_and, and_true, Option.toList, List.cons_append, List.nil_append]
  trace_state
  sorry
