/-! count; out and block of the reference -/
section
variable (l : Launch) (g : ma_G) (x : Bool) {h : ma_H}
theorem m_moutN {i : Int32} (hi : ¬ (nI 0 ≤ i ∧ i ≤ h.1 184 7 - nI 1)) : ma_PM l g x me_Mod_out [.ref 184, .int i] GS h (fun v S' h' => v = some (.int (nI 0)) ∧ S' = GS ∧ h' = ma_uI h 184 0 (nI 1)) := by
  refine ma_PM_of (P := pr_Mod_out) (by decide) rfl (Nat.le_of_ble_eq_true rfl) ?_
  show ma_J l g x none me_Mod_out pr_Mod_out _ 0 [some (.ref 184), some (.int i)] [] 0 0 GS h
  refine ma_run0 po_Mod_out rfl rfl [] 60 ?_
  simp only [pa_Mod_out, ma_go, ev_A, ev_B, ev_C, ev_D, Nat.reduceAdd, List.mem_cons, List.not_mem_nil, or_false, or_true, true_or, false_or, or_self, Nat.reduceEqDiff, reduceCtorEq, ↓reduceIte, List.length_cons, List.length_nil, Nat.reduceLT, Nat.reduceLeDiff, Nat.le_refl, implies_true, true_and, and_true, Option.toList, List.cons_append, List.nil_append, gs_184]
  refine ma_callD mt_Mod_in rfl rfl (Nat.le_of_ble_eq_true rfl) (Nat.le_refl _) (Nat.le_refl _) (m_in l g x GS _ i (nI 0) _) ?_
  simp only [pa_Mod_out, ma_go, ev_A, ev_B, ev_C, ev_D, Nat.reduceAdd, List.mem_cons, List.not_mem_nil, or_false, or_true, true_or, false_or, or_self, Nat.reduceEqDiff, reduceCtorEq, ↓reduceIte, List.length_cons, List.length_nil, Nat.reduceLT, Nat.reduceLeDiff, Nat.le_refl, implies_true, true_and, and_true, Option.toList, List.cons_append, List.nil_append, gs_184]
  rw [show decide (nI 0 ≤ i ∧ i ≤ h.1 184 7 - nI 1) = false from decide_eq_false hi]
  exact ⟨fun _ q => absurd (uI_same _ _ _ _) q, fun q => absurd rfl q⟩
theorem m_mout (hp : pt_ok h) {k n : Nat} (hn : n ≤ 160) (e : h.1 184 7 = nI n) (hk : k < n) : ma_PM l g x me_Mod_out [.ref 184, .int (nI k)] GS h (fun v S' h' => v = some (.int (h.1 189 k)) ∧ S' = GS ∧ h' = ma_uI h 184 0 (nI 0)) := by
  refine ma_PM_of (P := pr_Mod_out) (by decide) rfl (Nat.le_of_ble_eq_true rfl) ?_
  show ma_J l g x none me_Mod_out pr_Mod_out _ 0 [some (.ref 184), some (.int (nI k))] [] 0 0 GS h
  have n10 : ¬ nI 0 = nI 1 := by decide +kernel
  refine ma_run0 po_Mod_out rfl rfl [] 60 ?_
  simp only [pa_Mod_out, ma_go, ev_A, ev_B, ev_C, ev_D, Nat.reduceAdd, List.mem_cons, List.not_mem_nil, or_false, or_true, true_or, false_or, or_self, Nat.reduceEqDiff, reduceCtorEq, ↓reduceIte, List.length_cons, List.length_nil, Nat.reduceLT, Nat.reduceLeDiff, Nat.le_refl, implies_true, true_and, and_true, Option.toList, List.cons_append, List.nil_append, gs_184, e]
  rw [nx_sub' (by omega)]
  refine ma_callD mt_Mod_in rfl rfl (Nat.le_of_ble_eq_true rfl) (Nat.le_refl _) (Nat.le_refl _) (m_in l g x GS _ (nI k) (nI 0) (nI (n - 1))) ?_
  simp only [pa_Mod_out, ma_go, ev_A, ev_B, ev_C, ev_D, Nat.reduceAdd, List.mem_cons, List.not_mem_nil, or_false, or_true, true_or, false_or, or_self, Nat.reduceEqDiff, reduceCtorEq, ↓reduceIte, List.length_cons, List.length_nil, Nat.reduceLT, Nat.reduceLeDiff, Nat.le_refl, implies_true, true_and, and_true, Option.toList, List.cons_append, List.nil_append, gs_184]
  rw [show decide (nI 0 ≤ nI k ∧ nI k ≤ nI (n - 1)) = true from decide_eq_true ⟨nI_le (by omega) (by omega), nI_le (by omega) (by omega)⟩]
  refine ⟨fun q => absurd q (by decide +kernel), fun _ => ⟨fun _ => ?_, fun q => absurd ((uI_same _ _ _ _).symm.trans q) n10⟩⟩
  rw [show (ma_uI h 184 0 (nI 0)).2.2 184 10 = 189 from pt_184_10 hp, nI_clamp (n := k) (by omega), uI_ne (by omega)]
  exact ⟨ma_in_of gs_189 (by omega) (by decide), rfl⟩
end
