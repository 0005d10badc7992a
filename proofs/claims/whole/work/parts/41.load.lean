/-! load of both sides -/
theorem iR {i : Int32} {m : Nat} (hm : m < 2 ^ 20) (h : nI 0 ≤ i ∧ i ≤ nI m) : ∃ k, k ≤ m ∧ i = nI k := by
  have h1 := Int32.le_iff_toInt_le.mp h.1
  have h2 := Int32.le_iff_toInt_le.mp h.2
  rw [nI_toInt (by omega)] at h1 h2
  refine ⟨i.toInt.toNat, by omega, Int32.toInt_inj.mp ?_⟩
  rw [nI_toInt (by omega)]
  omega
theorem iN {i : Int32} {m : Nat} (hm : m < 2 ^ 20) (h : ¬ (nI 0 ≤ i ∧ i ≤ nI m)) (h0 : ¬ i < nI 0) : ¬ i < nI (m + 1) := by
  intro q
  rw [Int32.lt_iff_toInt_lt, nI_toInt (by omega)] at h0 q
  refine h ⟨Int32.le_iff_toInt_le.mpr ?_, Int32.le_iff_toInt_le.mpr ?_⟩
  · rw [nI_toInt (by omega)]; omega
  · rw [nI_toInt (by omega)]; omega
section
variable (l : Launch) (g : ma_G) (x : Bool) {h : ma_H}
theorem m_loadN {i b : Int32} (hi : ¬ (nI 0 ≤ i ∧ i ≤ nI 159)) : ma_PM l g x me_Arc_load [.ref 2, .int i, .int b] GS h (fun v S' h' => v = some (.int (nI 0)) ∧ S' = GS ∧ h' = h) := by
  refine ma_PM_of (P := pr_Arc_load) (by decide) rfl (Nat.le_of_ble_eq_true rfl) ?_
  show ma_J l g x none me_Arc_load pr_Arc_load _ 0 [some (.ref 2), some (.int i), some (.int b)] [] 0 0 GS h
  refine ma_run0 po_Arc_load rfl rfl [5, 7] 60 ?_
  simp only [pa_Arc_load, ma_go, ev_A, ev_B, ev_C, ev_D, Nat.reduceAdd, List.mem_cons, List.not_mem_nil, or_false, or_true, true_or, false_or, or_self, Nat.reduceEqDiff, reduceCtorEq, ↓reduceIte, List.length_cons, List.length_nil, Nat.reduceLT, Nat.reduceLeDiff, Nat.le_refl, implies_true, true_and, and_true, Option.toList, List.cons_append, List.nil_append]
  have no : ma_J l g x none me_Arc_load pr_Arc_load (fun v S' h' => v = some (.int (nI 0)) ∧ S' = GS ∧ h' = h) 5 [some (.ref 2), some (.int i), some (.int b)] [] 0 0 GS h := by
    refine ma_run0 po_Arc_load rfl rfl [] 60 ?_
    simp only [pa_Arc_load, ma_go, ev_A, ev_B, ev_C, ev_D, Nat.reduceAdd, List.mem_cons, List.not_mem_nil, or_false, or_true, true_or, false_or, or_self, Nat.reduceEqDiff, reduceCtorEq, ↓reduceIte, List.length_cons, List.length_nil, Nat.reduceLT, Nat.reduceLeDiff, Nat.le_refl, implies_true, true_and, and_true, Option.toList, List.cons_append, List.nil_append]
  exact ⟨fun _ => no, fun q => ⟨fun q2 => absurd q2 (iN (by decide) hi q), fun _ => no⟩⟩
theorem m_load (hp : pt_ok h) {b : Int32} {k j : Nat} (hk : k < 160) (eb : b &&& nI 255 = nI j) : ma_PM l g x me_Arc_load [.ref 2, .int (nI k), .int b] GS h (fun v S' h' => v = some (.int (nI 1)) ∧ S' = GS ∧ h' = ma_uI h 3 k (nI j)) := by
  refine ma_PM_of (P := pr_Arc_load) (by decide) rfl (Nat.le_of_ble_eq_true rfl) ?_
  show ma_J l g x none me_Arc_load pr_Arc_load _ 0 [some (.ref 2), some (.int (nI k)), some (.int b)] [] 0 0 GS h
  refine ma_run0 po_Arc_load rfl rfl [5, 7] 60 ?_
  simp only [pa_Arc_load, ma_go, ev_A, ev_B, ev_C, ev_D, Nat.reduceAdd, List.mem_cons, List.not_mem_nil, or_false, or_true, true_or, false_or, or_self, Nat.reduceEqDiff, reduceCtorEq, ↓reduceIte, List.length_cons, List.length_nil, Nat.reduceLT, Nat.reduceLeDiff, Nat.le_refl, implies_true, true_and, and_true, Option.toList, List.cons_append, List.nil_append]
  refine ⟨fun q => absurd ((nI_ltI (by omega) (by omega)).mp q) (by omega), fun _ => ⟨fun _ => ?_, fun q => absurd (nI_lt hk (by omega)) q⟩⟩
  refine ma_run0 po_Arc_load rfl rfl [] 60 ?_
  simp only [pa_Arc_load, ma_go, ev_A, ev_B, ev_C, ev_D, Nat.reduceAdd, List.mem_cons, List.not_mem_nil, or_false, or_true, true_or, false_or, or_self, Nat.reduceEqDiff, reduceCtorEq, ↓reduceIte, List.length_cons, List.length_nil, Nat.reduceLT, Nat.reduceLeDiff, Nat.le_refl, implies_true, true_and, and_true, Option.toList, List.cons_append, List.nil_append, gs_2, pt_Arc hp, eb]
  rw [nI_clamp (by omega)]
  exact ⟨ma_in_of gs_3 hk (by decide), rfl⟩
theorem m_mloadN {i b : Int32} (hi : ¬ (nI 0 ≤ i ∧ i ≤ nI 159)) : ma_PM l g x me_Mod_load [.ref 184, .int i, .int b] GS h (fun v S' h' => v = some (.int (nI 0)) ∧ S' = GS ∧ h' = ma_uI h 184 0 (nI 0)) := by
  refine ma_PM_of (P := pr_Mod_load) (by decide) rfl (Nat.le_of_ble_eq_true rfl) ?_
  show ma_J l g x none me_Mod_load pr_Mod_load _ 0 [some (.ref 184), some (.int i), some (.int b)] [] 0 0 GS h
  refine ma_run0 po_Mod_load rfl rfl [10] 60 ?_
  simp only [pa_Mod_load, ma_go, ev_A, ev_B, ev_C, ev_D, Nat.reduceAdd, List.mem_cons, List.not_mem_nil, or_false, or_true, true_or, false_or, or_self, Nat.reduceEqDiff, reduceCtorEq, ↓reduceIte, List.length_cons, List.length_nil, Nat.reduceLT, Nat.reduceLeDiff, Nat.le_refl, implies_true, true_and, and_true, Option.toList, List.cons_append, List.nil_append, gs_184]
  refine ma_callD mt_Mod_in rfl rfl (Nat.le_of_ble_eq_true rfl) (Nat.le_refl _) (Nat.le_refl _) (m_in l g x GS _ i (nI 0) (nI 159)) ?_
  simp only [pa_Mod_load, ma_go, ev_A, ev_B, ev_C, ev_D, Nat.reduceAdd, List.mem_cons, List.not_mem_nil, or_false, or_true, true_or, false_or, or_self, Nat.reduceEqDiff, reduceCtorEq, ↓reduceIte, List.length_cons, List.length_nil, Nat.reduceLT, Nat.reduceLeDiff, Nat.le_refl, implies_true, true_and, and_true, Option.toList, List.cons_append, List.nil_append]
  rw [show decide (nI 0 ≤ i ∧ i ≤ nI 159) = false from decide_eq_false hi]
  exact fun q => absurd rfl q
theorem m_mload (hp : pt_ok h) {b : Int32} {k j : Nat} (hk : k < 160) (eb : b &&& nI 255 = nI j) : ma_PM l g x me_Mod_load [.ref 184, .int (nI k), .int b] GS h (fun v S' h' => v = some (.int (nI 1)) ∧ S' = GS ∧ h' = ma_uI (ma_uI h 184 0 (nI 0)) 185 k (nI j)) := by
  refine ma_PM_of (P := pr_Mod_load) (by decide) rfl (Nat.le_of_ble_eq_true rfl) ?_
  show ma_J l g x none me_Mod_load pr_Mod_load _ 0 [some (.ref 184), some (.int (nI k)), some (.int b)] [] 0 0 GS h
  have o1 : on h (ma_uI h 184 0 (nI 0)) [184] := on_uI (on_rf h _) _ _ (by simp)
  refine ma_run0 po_Mod_load rfl rfl [10] 60 ?_
  simp only [pa_Mod_load, ma_go, ev_A, ev_B, ev_C, ev_D, Nat.reduceAdd, List.mem_cons, List.not_mem_nil, or_false, or_true, true_or, false_or, or_self, Nat.reduceEqDiff, reduceCtorEq, ↓reduceIte, List.length_cons, List.length_nil, Nat.reduceLT, Nat.reduceLeDiff, Nat.le_refl, implies_true, true_and, and_true, Option.toList, List.cons_append, List.nil_append, gs_184]
  refine ma_callD mt_Mod_in rfl rfl (Nat.le_of_ble_eq_true rfl) (Nat.le_refl _) (Nat.le_refl _) (m_in l g x GS _ (nI k) (nI 0) (nI 159)) ?_
  simp only [pa_Mod_load, ma_go, ev_A, ev_B, ev_C, ev_D, Nat.reduceAdd, List.mem_cons, List.not_mem_nil, or_false, or_true, true_or, false_or, or_self, Nat.reduceEqDiff, reduceCtorEq, ↓reduceIte, List.length_cons, List.length_nil, Nat.reduceLT, Nat.reduceLeDiff, Nat.le_refl, implies_true, true_and, and_true, Option.toList, List.cons_append, List.nil_append]
  rw [show decide (nI 0 ≤ nI k ∧ nI k ≤ nI 159) = true from decide_eq_true ⟨nI_le (by omega) (by omega), nI_le (by omega) (by omega)⟩]
  refine ⟨fun _ => ?_, fun q => absurd q (by decide +kernel)⟩
  refine ma_run0 po_Mod_load rfl rfl [] 60 ?_
  simp only [pa_Mod_load, ma_go, ev_A, ev_B, ev_C, ev_D, Nat.reduceAdd, List.mem_cons, List.not_mem_nil, or_false, or_true, true_or, false_or, or_self, Nat.reduceEqDiff, reduceCtorEq, ↓reduceIte, List.length_cons, List.length_nil, Nat.reduceLT, Nat.reduceLeDiff, Nat.le_refl, implies_true, true_and, and_true, Option.toList, List.cons_append, List.nil_append, gs_184, pt_Mod (on_pt o1 hp), eb]
  rw [nI_clamp (by omega)]
  exact ⟨ma_in_of gs_185 hk (by decide), rfl⟩
end
