/-! isFull, isSize, isWritten; count of both sides -/
theorem dzb {p : Prop} [Decidable p] (h : p) : zb (decide p) = 1 := by rw [decide_eq_true h]; rfl
theorem dzn {p : Prop} [Decidable p] (h : ¬ p) : zb (decide p) = 0 := by rw [decide_eq_false h]; rfl
section
variable (l : Launch) (g : ma_G) (x : Bool) {h : ma_H}
theorem m_isFull {R : Nat} (hR : R < 1000) (e : h.1 2 4 = nI R) : ma_PM l g x me_Arc_isFull [.ref 2] GS h (fun v S' h' => v = some (.int (nI (zb (decide (90 ≤ R))))) ∧ S' = GS ∧ h' = h) := by
  refine ma_PM_of (P := pr_Arc_isFull) (by decide) rfl (Nat.le_of_ble_eq_true rfl) ?_
  show ma_J l g x none me_Arc_isFull pr_Arc_isFull _ 0 [some (.ref 2)] [] 0 0 GS h
  refine ma_run0 po_Arc_isFull rfl rfl [] 60 ?_
  simp only [pa_Arc_isFull, ma_go, ev_A, ev_B, ev_C, ev_D, Nat.reduceAdd, List.mem_cons, List.not_mem_nil, or_false, or_true, true_or, false_or, or_self, Nat.reduceEqDiff, reduceCtorEq, ↓reduceIte, List.length_cons, List.length_nil, Nat.reduceLT, Nat.reduceLeDiff, Nat.le_refl, implies_true, true_and, and_true, Option.toList, List.cons_append, List.nil_append, gs_2, e]
  refine ⟨fun q => ?_, fun q => ?_⟩
  · have := (nI_ltI (by omega) (by omega)).mp q
    rw [dzn (by omega)]
  · have : 90 ≤ R := Nat.le_of_not_lt (fun z => q (nI_lt z (by omega)))
    rw [dzb this]
theorem m_isSize (S : ma_S) (n : Int32) : ma_PM l g x me_Arc_isSize [.int n] S h (fun v S' h' => v = some (.int (nI (zb (decide (nI 1 ≤ n ∧ n ≤ nI 160))))) ∧ S' = S ∧ h' = h) := by
  refine ma_PM_of (P := pr_Arc_isSize) (by decide) rfl (Nat.le_of_ble_eq_true rfl) ?_
  show ma_J l g x none me_Arc_isSize pr_Arc_isSize _ 0 [some (.int n)] [] 0 0 S h
  refine ma_run0 po_Arc_isSize rfl rfl [] 60 ?_
  simp only [pa_Arc_isSize, ma_go, ev_A, ev_B, ev_C, ev_D, Nat.reduceAdd, List.mem_cons, List.not_mem_nil, or_false, or_true, true_or, false_or, or_self, Nat.reduceEqDiff, reduceCtorEq, ↓reduceIte, List.length_cons, List.length_nil, Nat.reduceLT, Nat.reduceLeDiff, Nat.le_refl, implies_true, true_and, and_true, Option.toList, List.cons_append, List.nil_append]
  refine ⟨fun q => ?_, fun q => ⟨fun q2 => ?_, fun q2 => ?_⟩⟩
  · rw [dzn (fun z => by have := z.1; rw [Int32.le_iff_toInt_le] at this; rw [Int32.lt_iff_toInt_lt] at q; omega)]
  · rw [dzn (fun z => by have := z.2; rw [Int32.le_iff_toInt_le] at this; rw [Int32.lt_iff_toInt_lt] at q2; omega)]
  · rw [dzb ⟨by rw [Int32.le_iff_toInt_le]; rw [Int32.lt_iff_toInt_lt] at q; omega, by rw [Int32.le_iff_toInt_le]; rw [Int32.lt_iff_toInt_lt] at q2; omega⟩]
theorem m_isWritten {W : Nat} (e : h.1 2 2 = nI W) (t : Int32) : ma_PM l g x me_Arc_isWritten [.ref 2, .int t] GS h (fun v S' h' => v = some (.int (nI (zb (decide (nI 0 ≤ t ∧ t < nI W))))) ∧ S' = GS ∧ h' = h) := by
  refine ma_PM_of (P := pr_Arc_isWritten) (by decide) rfl (Nat.le_of_ble_eq_true rfl) ?_
  show ma_J l g x none me_Arc_isWritten pr_Arc_isWritten _ 0 [some (.ref 2), some (.int t)] [] 0 0 GS h
  refine ma_run0 po_Arc_isWritten rfl rfl [] 60 ?_
  simp only [pa_Arc_isWritten, ma_go, ev_A, ev_B, ev_C, ev_D, Nat.reduceAdd, List.mem_cons, List.not_mem_nil, or_false, or_true, true_or, false_or, or_self, Nat.reduceEqDiff, reduceCtorEq, ↓reduceIte, List.length_cons, List.length_nil, Nat.reduceLT, Nat.reduceLeDiff, Nat.le_refl, implies_true, true_and, and_true, Option.toList, List.cons_append, List.nil_append, gs_2, e]
  refine ⟨fun q => ?_, fun q => ⟨fun q2 => ?_, fun q2 => ?_⟩⟩
  · rw [dzn (fun z => by have := z.1; rw [Int32.le_iff_toInt_le] at this; rw [Int32.lt_iff_toInt_lt] at q; omega)]
  · rw [dzn (fun z => by have := z.2; rw [Int32.lt_iff_toInt_lt] at this; rw [Int32.le_iff_toInt_le] at q2; omega)]
  · rw [dzb ⟨by rw [Int32.le_iff_toInt_le]; rw [Int32.lt_iff_toInt_lt] at q; omega, by rw [Int32.lt_iff_toInt_lt]; rw [Int32.le_iff_toInt_le] at q2; omega⟩]
theorem m_mcount (w : Int32) : ma_PM l g x me_Mod_count [.ref 184, .int w] GS h (fun v S' h' => v = some (.int (if w = nI 0 then h.1 184 7 else if w = nI 1 then h.1 184 8 else if w = nI 2 then h.1 184 9 else -1)) ∧ S' = GS ∧ h' = ma_uI h 184 0 (nI 0)) := by
  refine ma_PM_of (P := pr_Mod_count) (by decide) rfl (Nat.le_of_ble_eq_true rfl) ?_
  show ma_J l g x none me_Mod_count pr_Mod_count _ 0 [some (.ref 184), some (.int w)] [] 0 0 GS h
  refine ma_run0 po_Mod_count rfl rfl [] 60 ?_
  simp only [pa_Mod_count, ma_go, ev_A, ev_B, ev_C, ev_D, Nat.reduceAdd, List.mem_cons, List.not_mem_nil, or_false, or_true, true_or, false_or, or_self, Nat.reduceEqDiff, reduceCtorEq, ↓reduceIte, List.length_cons, List.length_nil, Nat.reduceLT, Nat.reduceLeDiff, Nat.le_refl, implies_true, true_and, and_true, Option.toList, List.cons_append, List.nil_append, gs_184]
  refine ⟨fun q => ⟨fun q1 => ⟨fun q2 => ?_, fun q2 => ?_⟩, fun q1 => ?_⟩, fun q => ?_⟩
  · rw [if_neg q, if_neg q1, if_neg q2]
  · rw [if_neg q, if_neg q1, if_pos q2, uI_ne (by omega)]
  · rw [if_neg q, if_pos q1, uI_ne (by omega)]
  · rw [if_pos q, uI_ne (by omega)]
end
